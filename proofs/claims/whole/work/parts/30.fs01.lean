-- X8_init
def f_X8_init (p0 : Nat) (p1 : Int32) (p2 : Int32) (p3 : Int32) (p4 : Int32) (h : HS) : Option HS := (if isSt (hT h p0) = true then (bh (sI (sI (sI (sI (sI (sI h p0 5 (0 : Int32)) p0 6 (0 : Int32)) p0 7 (0 : Int32)) p0 0 p1) p0 1 (p2 / (100 : Int32))) p0 2 (p2 - p2 / (100 : Int32) * (100 : Int32))) (fun h2 => (some (sI (sI h2 p0 3 p3) p0 4 p4)))) else none)
set_option maxHeartbeats 4000000 in
set_option maxRecDepth 20000 in
theorem p_X8_init {p0 : Nat} {p1 : Int32} {p2 : Int32} {p3 : Int32} {p4 : Int32} {h : HS} {q : HS} (H : f_X8_init p0 p1 p2 p3 p4 h = some q) : Pr h q := by
  unfold f_X8_init at H
  replace H := og H; obtain ⟨g1, H⟩ := H
  replace H := obh H; obtain ⟨h2, e3, H⟩ := H
  obtain rfl := Option.some.inj H
  exact (((kP e3 ((((((Pr.rf.sI).sI).sI).sI).sI).sI)).sI).sI)
set_option maxHeartbeats 4000000 in
set_option maxRecDepth 20000 in
theorem t_X8_init {G : GE} (d : Nat) {p0 : Nat} {p1 : Int32} {p2 : Int32} {p3 : Int32} {p4 : Int32} {h : HS} {q : HS} (H : f_X8_init p0 p1 p2 p3 p4 h = some q) : CE G (d + 1) yX8_init miX8_init [.ref p0, .int p1, .int p2, .int p3, .int p4] h (none) (q) := by
  unfold f_X8_init at H
  refine ce_of rfl (by decide) (fun q => by first | rfl | cases q) (Nat.le_of_ble_eq_true rfl) rfl ?_
  refine g_aload_n dX8_init_0 rfl rfl ?_
  refine e_objI lmX8_1 dX8_init_1 (Nat.le_of_ble_eq_true rfl) (by omega) ?_
  refine g_aload_n dX8_init_4 rfl rfl ?_
  refine e_iconst (v := (0 : Int32)) dX8_init_5 (by decide) ?_
  replace H := og H; obtain ⟨g1, H⟩ := H
  refine pmX8_7_isSti g1 dX8_init_6 ?_
  refine g_aload_n dX8_init_9 rfl rfl ?_
  refine e_iconst (v := (0 : Int32)) dX8_init_10 (by decide) ?_
  refine pmX8_13_isSti (kIb g1) dX8_init_11 ?_
  refine g_aload_n dX8_init_14 rfl rfl ?_
  refine e_iconst (v := (0 : Int32)) dX8_init_15 (by decide) ?_
  refine pmX8_16_isSti (kIb (kIb g1)) dX8_init_16 ?_
  refine g_aload_n dX8_init_19 rfl rfl ?_
  refine e_iload_n dX8_init_20 rfl ?_
  refine pmX8_19_isSti (kIb (kIb (kIb g1))) dX8_init_21 ?_
  refine g_aload_n dX8_init_24 rfl rfl ?_
  refine e_iload_n dX8_init_25 rfl ?_
  refine e_bipush (v := (100 : Int32)) dX8_init_26 (by decide) ?_
  refine e_idiv dX8_init_28 (by decide) ?_
  refine pmX8_22_isSti (kIb (kIb (kIb (kIb g1)))) dX8_init_29 ?_
  refine g_aload_n dX8_init_32 rfl rfl ?_
  refine e_iload_n dX8_init_33 rfl ?_
  refine e_bipush (v := (100 : Int32)) dX8_init_34 (by decide) ?_
  refine e_irem dX8_init_36 (by decide) ?_
  refine pmX8_25_isSti (kIb (kIb (kIb (kIb (kIb g1))))) dX8_init_37 ?_
  replace H := obh H; obtain ⟨h2, e3, H⟩ := H
  refine e_hq e3 ?_
  have f4 := kB e3 (kIb (kIb (kIb (kIb (kIb (kIb g1))))))
  refine g_aload_n dX8_init_40 rfl rfl ?_
  refine e_iload_n dX8_init_41 rfl ?_
  refine pmX8_28_isSti f4 dX8_init_42 ?_
  refine g_aload_n dX8_init_45 rfl rfl ?_
  refine e_iload dX8_init_46 rfl ?_
  refine pmX8_31_isSti (kIb f4) dX8_init_48 ?_
  obtain rfl := Option.some.inj H
  exact z_vret rfl dX8_init_51 rfl rfl
-- X0_init
def f_X0_init (p0 : Nat) (p1 : Int32) (p2 : Int32) (p3 : Int32) (p4 : Int32) (h : HS) : Option HS := (Option.bind (f_X8_init p0 p1 p2 p3 p4 h) (fun q1 => (some q1)))
set_option maxHeartbeats 4000000 in
set_option maxRecDepth 20000 in
theorem p_X0_init {p0 : Nat} {p1 : Int32} {p2 : Int32} {p3 : Int32} {p4 : Int32} {h : HS} {q : HS} (H : f_X0_init p0 p1 p2 p3 p4 h = some q) : Pr h q := by
  unfold f_X0_init at H
  replace H := ob H; obtain ⟨q1, c2, H⟩ := H
  have e3 := p_X8_init c2
  obtain rfl := Option.some.inj H
  exact e3
set_option maxHeartbeats 4000000 in
set_option maxRecDepth 20000 in
theorem t_X0_init {G : GE} (d : Nat) {p0 : Nat} {p1 : Int32} {p2 : Int32} {p3 : Int32} {p4 : Int32} {h : HS} {q : HS} (H : f_X0_init p0 p1 p2 p3 p4 h = some q) : CE G (d + 2) yX0_init miX0_init [.ref p0, .int p1, .int p2, .int p3, .int p4] h (none) (q) := by
  unfold f_X0_init at H
  refine ce_of rfl (by decide) (fun q => by first | rfl | cases q) (Nat.le_of_ble_eq_true rfl) rfl ?_
  refine g_aload_n dX0_init_0 rfl rfl ?_
  refine e_iload_n dX0_init_1 rfl ?_
  refine e_iload_n dX0_init_2 rfl ?_
  refine e_iload_n dX0_init_3 rfl ?_
  refine e_iload dX0_init_4 rfl ?_
  replace H := ob H; obtain ⟨q1, c2, H⟩ := H
  refine i0 rfl lmX0_1 liX8_init msX8_init rfl dX0_init_6 (t_X8_init (d + 0) c2) rfl (Nat.le_of_ble_eq_true rfl) (Nat.le_refl _) ?_
  have e3 := p_X8_init c2
  obtain rfl := Option.some.inj H
  exact z_vret rfl dX0_init_9 rfl rfl
-- X8_isWithin
def f_X8_isWithin (p0 : Int32) (p1 : Int32) (p2 : Int32) : Option Bool := (if p0 < (-p2) then (some false) else (if p2 < p0 then (some false) else (if p1 < (-p2) then (some false) else (if p2 < p1 then (some false) else (some true)))))
set_option maxHeartbeats 4000000 in
set_option maxRecDepth 20000 in
theorem t_X8_isWithin {G : GE} (d : Nat) {p0 : Int32} {p1 : Int32} {p2 : Int32} {h : HS} {q : Bool} (H : f_X8_isWithin p0 p1 p2 = some q) : CE G (d + 0) yX8_isWithin miX8_isWithin [.int p0, .int p1, .int p2] h (some (.int (b2i q))) (h) := by
  unfold f_X8_isWithin at H
  refine ce_of rfl (by decide) (fun q => by first | rfl | cases q) (Nat.le_of_ble_eq_true rfl) rfl ?_
  refine e_iload_n dX8_isWithin_0 rfl ?_
  refine e_iload_n dX8_isWithin_1 rfl ?_
  refine e_ineg dX8_isWithin_2 ?_
  refine e_icmp_lt (tgt := 26) dX8_isWithin_3 (by decide) (fun c1 => ?_) (fun c1 => ?_)
  · replace H := ot c1 H
    refine e_iconst (v := (0 : Int32)) dX8_isWithin_26 (by decide) ?_
    obtain rfl := Option.some.inj H
    exact z_iret rfl rfl dX8_isWithin_27 rfl rfl
  · replace H := of_ c1 H
    refine e_iload_n dX8_isWithin_6 rfl ?_
    refine e_iload_n dX8_isWithin_7 rfl ?_
    refine e_icmp_gt (tgt := 26) dX8_isWithin_8 (by decide) (fun c2 => ?_) (fun c2 => ?_)
    · replace H := ot c2 H
      refine e_iconst (v := (0 : Int32)) dX8_isWithin_26 (by decide) ?_
      obtain rfl := Option.some.inj H
      exact z_iret rfl rfl dX8_isWithin_27 rfl rfl
    · replace H := of_ c2 H
      refine e_iload_n dX8_isWithin_11 rfl ?_
      refine e_iload_n dX8_isWithin_12 rfl ?_
      refine e_ineg dX8_isWithin_13 ?_
      refine e_icmp_lt (tgt := 26) dX8_isWithin_14 (by decide) (fun c3 => ?_) (fun c3 => ?_)
      · replace H := ot c3 H
        refine e_iconst (v := (0 : Int32)) dX8_isWithin_26 (by decide) ?_
        obtain rfl := Option.some.inj H
        exact z_iret rfl rfl dX8_isWithin_27 rfl rfl
      · replace H := of_ c3 H
        refine e_iload_n dX8_isWithin_17 rfl ?_
        refine e_iload_n dX8_isWithin_18 rfl ?_
        refine e_icmp_gt (tgt := 26) dX8_isWithin_19 (by decide) (fun c4 => ?_) (fun c4 => ?_)
        · replace H := ot c4 H
          refine e_iconst (v := (0 : Int32)) dX8_isWithin_26 (by decide) ?_
          obtain rfl := Option.some.inj H
          exact z_iret rfl rfl dX8_isWithin_27 rfl rfl
        · replace H := of_ c4 H
          refine e_iconst (v := (1 : Int32)) dX8_isWithin_22 (by decide) ?_
          refine e_goto (tgt := 27) dX8_isWithin_23 (by decide) ?_
          obtain rfl := Option.some.inj H
          exact z_iret rfl rfl dX8_isWithin_27 rfl rfl
-- X8_pays
def f_X8_pays (p0 : Nat) (p1 : Int32) (p2 : Int32) (p3 : Int32) (h : HS) : Option Bool := (if isSt (hT h p0) = true then (Option.bind (f_X8_isWithin p1 p2 (hI h p0 3)) (fun q2 => (some q2))) else none)
set_option maxHeartbeats 4000000 in
set_option maxRecDepth 20000 in
theorem t_X8_pays {G : GE} (d : Nat) {p0 : Nat} {p1 : Int32} {p2 : Int32} {p3 : Int32} {h : HS} {q : Bool} (H : f_X8_pays p0 p1 p2 p3 h = some q) : CE G (d + 1) yX8_pays miX8_pays [.ref p0, .int p1, .int p2, .int p3] h (some (.int (b2i q))) (h) := by
  unfold f_X8_pays at H
  refine ce_of rfl (by decide) (fun q => by first | rfl | cases q) (Nat.le_of_ble_eq_true rfl) rfl ?_
  refine e_iload_n dX8_pays_0 rfl ?_
  refine e_iload_n dX8_pays_1 rfl ?_
  refine g_aload_n dX8_pays_2 rfl rfl ?_
  replace H := og H; obtain ⟨g1, H⟩ := H
  refine gmX8_28_isSt g1 dX8_pays_3 ?_
  replace H := ob H; obtain ⟨q2, c3, H⟩ := H
  refine s1 lmX8_34 lsX8_isWithin msX8_isWithin dX8_pays_6 (t_X8_isWithin (d + 0) c3) rfl (Nat.le_of_ble_eq_true rfl) (Nat.le_refl _) ?_
  obtain rfl := Option.some.inj H
  exact z_bret rfl dX8_pays_9 rfl rfl
-- X0_pays
def f_X0_pays (p0 : Nat) (p1 : Int32) (p2 : Int32) (p3 : Int32) (h : HS) : Option Bool := (if hT h p0 = 2 then (Option.bind (f_X8_pays p0 p1 p2 p3 h) (fun q1 => (if q1 = true then (if (((p1 + ((2 : Int32) * p2)) + p3) - ((p1 + ((2 : Int32) * p2)) + p3) / (3 : Int32) * (3 : Int32)) = 0 then (some true) else (some false)) else (some false)))) else none)
set_option maxHeartbeats 4000000 in
set_option maxRecDepth 20000 in
theorem t_X0_pays {G : GE} (d : Nat) {p0 : Nat} {p1 : Int32} {p2 : Int32} {p3 : Int32} {h : HS} {q : Bool} (H : f_X0_pays p0 p1 p2 p3 h = some q) : CE G (d + 2) yX0_pays miX0_pays [.ref p0, .int p1, .int p2, .int p3] h (some (.int (b2i q))) (h) := by
  unfold f_X0_pays at H
  refine ce_of rfl (by decide) (fun q => by first | rfl | cases q) (Nat.le_of_ble_eq_true rfl) rfl ?_
  refine g_aload_n dX0_pays_0 rfl rfl ?_
  refine e_iload_n dX0_pays_1 rfl ?_
  refine e_iload_n dX0_pays_2 rfl ?_
  refine e_iload_n dX0_pays_3 rfl ?_
  replace H := og H; obtain ⟨g3, H⟩ := H
  replace H := ob H; obtain ⟨q1, c2, H⟩ := H
  refine u1 g3 (by decide) rfl lmX0_7 lqX8_pays lpX0 liX8_pays (by decide) msX8_pays dX0_pays_4 (t_X8_pays (d + 0) c2) rfl (Nat.le_of_ble_eq_true rfl) (Nat.le_refl _) ?_
  refine e_ifB_eq (tgt := 26) dX0_pays_7 (by decide) (fun c4 => ?_) (fun c4 => ?_)
  · replace H := of_ (nb c4) H
    refine e_iconst (v := (0 : Int32)) dX0_pays_26 (by decide) ?_
    obtain rfl := Option.some.inj H
    exact z_iret rfl rfl dX0_pays_27 rfl rfl
  · replace H := ot c4 H
    refine e_iload_n dX0_pays_10 rfl ?_
    refine e_iconst (v := (2 : Int32)) dX0_pays_11 (by decide) ?_
    refine e_iload_n dX0_pays_12 rfl ?_
    refine e_imul dX0_pays_13 ?_
    refine e_iadd dX0_pays_14 ?_
    refine e_iload_n dX0_pays_15 rfl ?_
    refine e_iadd dX0_pays_16 ?_
    refine e_iconst (v := (3 : Int32)) dX0_pays_17 (by decide) ?_
    refine e_irem dX0_pays_18 (by decide) ?_
    refine e_if_ne (tgt := 26) dX0_pays_19 (by decide) (fun c5 => ?_) (fun c5 => ?_)
    · replace H := of_ c5 H
      refine e_iconst (v := (0 : Int32)) dX0_pays_26 (by decide) ?_
      obtain rfl := Option.some.inj H
      exact z_iret rfl rfl dX0_pays_27 rfl rfl
    · replace H := ot c5 H
      refine e_iconst (v := (1 : Int32)) dX0_pays_22 (by decide) ?_
      refine e_goto (tgt := 27) dX0_pays_23 (by decide) ?_
      obtain rfl := Option.some.inj H
      exact z_iret rfl rfl dX0_pays_27 rfl rfl
-- X0_gaffs
def f_X0_gaffs (p0 : Nat) : Option Int32 := (some (1 : Int32))
set_option maxHeartbeats 4000000 in
set_option maxRecDepth 20000 in
theorem t_X0_gaffs {G : GE} (d : Nat) {p0 : Nat} {h : HS} {q : Int32} (H : f_X0_gaffs p0 = some q) : CE G (d + 0) yX0_gaffs miX0_gaffs [.ref p0] h (some (.int q)) (h) := by
  unfold f_X0_gaffs at H
  refine ce_of rfl (by decide) (fun q => by first | rfl | cases q) (Nat.le_of_ble_eq_true rfl) rfl ?_
  refine e_iconst (v := (1 : Int32)) dX0_gaffs_0 (by decide) ?_
  obtain rfl := Option.some.inj H
  exact z_iret rfl rfl dX0_gaffs_1 rfl rfl
-- X4_init
def f_X4_init (p0 : Nat) (p1 : Int32) (p2 : Int32) (p3 : Int32) (p4 : Int32) (h : HS) : Option HS := (Option.bind (f_X8_init p0 p1 p2 p3 p4 h) (fun q1 => (some q1)))
set_option maxHeartbeats 4000000 in
set_option maxRecDepth 20000 in
theorem p_X4_init {p0 : Nat} {p1 : Int32} {p2 : Int32} {p3 : Int32} {p4 : Int32} {h : HS} {q : HS} (H : f_X4_init p0 p1 p2 p3 p4 h = some q) : Pr h q := by
  unfold f_X4_init at H
  replace H := ob H; obtain ⟨q1, c2, H⟩ := H
  have e3 := p_X8_init c2
  obtain rfl := Option.some.inj H
  exact e3
set_option maxHeartbeats 4000000 in
set_option maxRecDepth 20000 in
theorem t_X4_init {G : GE} (d : Nat) {p0 : Nat} {p1 : Int32} {p2 : Int32} {p3 : Int32} {p4 : Int32} {h : HS} {q : HS} (H : f_X4_init p0 p1 p2 p3 p4 h = some q) : CE G (d + 2) yX4_init miX4_init [.ref p0, .int p1, .int p2, .int p3, .int p4] h (none) (q) := by
  unfold f_X4_init at H
  refine ce_of rfl (by decide) (fun q => by first | rfl | cases q) (Nat.le_of_ble_eq_true rfl) rfl ?_
  refine g_aload_n dX4_init_0 rfl rfl ?_
  refine e_iload_n dX4_init_1 rfl ?_
  refine e_iload_n dX4_init_2 rfl ?_
  refine e_iload_n dX4_init_3 rfl ?_
  refine e_iload dX4_init_4 rfl ?_
  replace H := ob H; obtain ⟨q1, c2, H⟩ := H
  refine i0 rfl lmX4_1 liX8_init msX8_init rfl dX4_init_6 (t_X8_init (d + 0) c2) rfl (Nat.le_of_ble_eq_true rfl) (Nat.le_refl _) ?_
  have e3 := p_X8_init c2
  obtain rfl := Option.some.inj H
  exact z_vret rfl dX4_init_9 rfl rfl
-- X1_init
def f_X1_init (p0 : Nat) (p1 : Int32) (p2 : Int32) (p3 : Int32) (p4 : Int32) (h : HS) : Option HS := (Option.bind (f_X4_init p0 p1 p2 p3 p4 h) (fun q1 => (some q1)))
set_option maxHeartbeats 4000000 in
set_option maxRecDepth 20000 in
theorem p_X1_init {p0 : Nat} {p1 : Int32} {p2 : Int32} {p3 : Int32} {p4 : Int32} {h : HS} {q : HS} (H : f_X1_init p0 p1 p2 p3 p4 h = some q) : Pr h q := by
  unfold f_X1_init at H
  replace H := ob H; obtain ⟨q1, c2, H⟩ := H
  have e3 := p_X4_init c2
  obtain rfl := Option.some.inj H
  exact e3
set_option maxHeartbeats 4000000 in
set_option maxRecDepth 20000 in
theorem t_X1_init {G : GE} (d : Nat) {p0 : Nat} {p1 : Int32} {p2 : Int32} {p3 : Int32} {p4 : Int32} {h : HS} {q : HS} (H : f_X1_init p0 p1 p2 p3 p4 h = some q) : CE G (d + 3) yX1_init miX1_init [.ref p0, .int p1, .int p2, .int p3, .int p4] h (none) (q) := by
  unfold f_X1_init at H
  refine ce_of rfl (by decide) (fun q => by first | rfl | cases q) (Nat.le_of_ble_eq_true rfl) rfl ?_
  refine g_aload_n dX1_init_0 rfl rfl ?_
  refine e_iload_n dX1_init_1 rfl ?_
  refine e_iload_n dX1_init_2 rfl ?_
  refine e_iload_n dX1_init_3 rfl ?_
  refine e_iload dX1_init_4 rfl ?_
  replace H := ob H; obtain ⟨q1, c2, H⟩ := H
  refine i0 rfl lmX1_1 liX4_init msX4_init rfl dX1_init_6 (t_X4_init (d + 0) c2) rfl (Nat.le_of_ble_eq_true rfl) (Nat.le_refl _) ?_
  have e3 := p_X4_init c2
  obtain rfl := Option.some.inj H
  exact z_vret rfl dX1_init_9 rfl rfl
-- X4_pays
def f_X4_pays (p0 : Nat) (p1 : Int32) (p2 : Int32) (p3 : Int32) (h : HS) : Option Bool := (if isHv (hT h p0) = true then (Option.bind (f_X8_isWithin p1 p2 ((hI h p0 3) / (2 : Int32))) (fun q2 => (some q2))) else none)
set_option maxHeartbeats 4000000 in
set_option maxRecDepth 20000 in
theorem t_X4_pays {G : GE} (d : Nat) {p0 : Nat} {p1 : Int32} {p2 : Int32} {p3 : Int32} {h : HS} {q : Bool} (H : f_X4_pays p0 p1 p2 p3 h = some q) : CE G (d + 1) yX4_pays miX4_pays [.ref p0, .int p1, .int p2, .int p3] h (some (.int (b2i q))) (h) := by
  unfold f_X4_pays at H
  refine ce_of rfl (by decide) (fun q => by first | rfl | cases q) (Nat.le_of_ble_eq_true rfl) rfl ?_
  refine e_iload_n dX4_pays_0 rfl ?_
  refine e_iload_n dX4_pays_1 rfl ?_
  refine g_aload_n dX4_pays_2 rfl rfl ?_
  replace H := og H; obtain ⟨g1, H⟩ := H
  refine gmX4_7_isHv g1 dX4_pays_3 ?_
  refine e_iconst (v := (2 : Int32)) dX4_pays_6 (by decide) ?_
  refine e_idiv dX4_pays_7 (by decide) ?_
  replace H := ob H; obtain ⟨q2, c3, H⟩ := H
  refine su1 lmX4_13 lqX4_isWithin lsX8_isWithin (t_X8_isWithin (d + 0) c3) msX8_isWithin dX4_pays_8 rfl (Nat.le_of_ble_eq_true rfl) (Nat.le_refl _) ?_
  obtain rfl := Option.some.inj H
  exact z_bret rfl dX4_pays_11 rfl rfl
-- X1_pays
def f_X1_pays (p0 : Nat) (p1 : Int32) (p2 : Int32) (p3 : Int32) (h : HS) : Option Bool := (if p3 = (1 : Int32) then (if p1 = 0 then (if hT h p0 = 3 then (Option.bind (f_X4_pays p0 p1 p2 p3 h) (fun q6 => (if q6 = true then (some true) else (some false)))) else none) else (some false)) else (if hT h p0 = 3 then (Option.bind (f_X8_isWithin p1 p2 (hI h p0 3)) (fun q3 => (some q3))) else none))
set_option maxHeartbeats 4000000 in
set_option maxRecDepth 20000 in
theorem t_X1_pays {G : GE} (d : Nat) {p0 : Nat} {p1 : Int32} {p2 : Int32} {p3 : Int32} {h : HS} {q : Bool} (H : f_X1_pays p0 p1 p2 p3 h = some q) : CE G (d + 2) yX1_pays miX1_pays [.ref p0, .int p1, .int p2, .int p3] h (some (.int (b2i q))) (h) := by
  unfold f_X1_pays at H
  refine ce_of rfl (by decide) (fun q => by first | rfl | cases q) (Nat.le_of_ble_eq_true rfl) rfl ?_
  refine e_iload_n dX1_pays_0 rfl ?_
  refine e_iconst (v := (1 : Int32)) dX1_pays_1 (by decide) ?_
  refine e_icmp_ne (tgt := 27) dX1_pays_2 (by decide) (fun c1 => ?_) (fun c1 => ?_)
  · replace H := of_ c1 H
    refine e_iload_n dX1_pays_27 rfl ?_
    refine e_iload_n dX1_pays_28 rfl ?_
    refine g_aload_n dX1_pays_29 rfl rfl ?_
    replace H := og H; obtain ⟨g2, H⟩ := H
    refine e_getI g2 flX1_11_2 dX1_pays_30 rfl ?_
    replace H := ob H; obtain ⟨q3, c4, H⟩ := H
    refine su1 lmX1_17 lqX1_isWithin lsX8_isWithin (t_X8_isWithin (d + 1) c4) msX8_isWithin dX1_pays_33 rfl (Nat.le_of_ble_eq_true rfl) (Nat.le_refl _) ?_
    obtain rfl := Option.some.inj H
    exact z_bret rfl dX1_pays_36 rfl rfl
  · replace H := ot c1 H
    refine e_iload_n dX1_pays_5 rfl ?_
    refine e_if_ne (tgt := 23) dX1_pays_6 (by decide) (fun c5 => ?_) (fun c5 => ?_)
    · replace H := of_ c5 H
      refine e_iconst (v := (0 : Int32)) dX1_pays_23 (by decide) ?_
      refine e_goto (tgt := 36) dX1_pays_24 (by decide) ?_
      obtain rfl := Option.some.inj H
      exact z_iret rfl rfl dX1_pays_36 rfl rfl
    · replace H := ot c5 H
      refine g_aload_n dX1_pays_9 rfl rfl ?_
      refine e_iload_n dX1_pays_10 rfl ?_
      refine e_iload_n dX1_pays_11 rfl ?_
      refine e_iload_n dX1_pays_12 rfl ?_
      replace H := og H; obtain ⟨g8, H⟩ := H
      replace H := ob H; obtain ⟨q6, c7, H⟩ := H
      refine u1 g8 (by decide) rfl lmX1_7 lqX4_pays lpX1 liX4_pays (by decide) msX4_pays dX1_pays_13 (t_X4_pays (d + 0) c7) rfl (Nat.le_of_ble_eq_true rfl) (Nat.le_refl _) ?_
      refine e_ifB_eq (tgt := 23) dX1_pays_16 (by decide) (fun c9 => ?_) (fun c9 => ?_)
      · replace H := of_ (nb c9) H
        refine e_iconst (v := (0 : Int32)) dX1_pays_23 (by decide) ?_
        refine e_goto (tgt := 36) dX1_pays_24 (by decide) ?_
        obtain rfl := Option.some.inj H
        exact z_iret rfl rfl dX1_pays_36 rfl rfl
      · replace H := ot c9 H
        refine e_iconst (v := (1 : Int32)) dX1_pays_19 (by decide) ?_
        refine e_goto (tgt := 36) dX1_pays_20 (by decide) ?_
        obtain rfl := Option.some.inj H
        exact z_iret rfl rfl dX1_pays_36 rfl rfl
-- X4_gaffs
def f_X4_gaffs (p0 : Nat) : Option Int32 := (some (1 : Int32))
set_option maxHeartbeats 4000000 in
set_option maxRecDepth 20000 in
theorem t_X4_gaffs {G : GE} (d : Nat) {p0 : Nat} {h : HS} {q : Int32} (H : f_X4_gaffs p0 = some q) : CE G (d + 0) yX4_gaffs miX4_gaffs [.ref p0] h (some (.int q)) (h) := by
  unfold f_X4_gaffs at H
  refine ce_of rfl (by decide) (fun q => by first | rfl | cases q) (Nat.le_of_ble_eq_true rfl) rfl ?_
  refine e_iconst (v := (1 : Int32)) dX4_gaffs_0 (by decide) ?_
  obtain rfl := Option.some.inj H
  exact z_iret rfl rfl dX4_gaffs_1 rfl rfl
-- X1_gaffs
def f_X1_gaffs (p0 : Nat) (h : HS) : Option Int32 := (if hT h p0 = 3 then (Option.bind (f_X4_gaffs p0) (fun q1 => (some ((q1 + (1 : Int32)) + (hI h p0 7))))) else none)
set_option maxHeartbeats 4000000 in
set_option maxRecDepth 20000 in
theorem t_X1_gaffs {G : GE} (d : Nat) {p0 : Nat} {h : HS} {q : Int32} (H : f_X1_gaffs p0 h = some q) : CE G (d + 1) yX1_gaffs miX1_gaffs [.ref p0] h (some (.int q)) (h) := by
  unfold f_X1_gaffs at H
  refine ce_of rfl (by decide) (fun q => by first | rfl | cases q) (Nat.le_of_ble_eq_true rfl) rfl ?_
  refine g_aload_n dX1_gaffs_0 rfl rfl ?_
  replace H := og H; obtain ⟨g3, H⟩ := H
  replace H := ob H; obtain ⟨q1, c2, H⟩ := H
  refine u1 g3 (by decide) rfl lmX1_20 lqX4_gaffs lpX1 liX4_gaffs (by decide) msX4_gaffs dX1_gaffs_1 (t_X4_gaffs (d + 0) c2) rfl (Nat.le_of_ble_eq_true rfl) (Nat.le_refl _) ?_
  refine e_iconst (v := (1 : Int32)) dX1_gaffs_4 (by decide) ?_
  refine e_iadd dX1_gaffs_5 ?_
  refine g_aload_n dX1_gaffs_6 rfl rfl ?_
  refine e_getI g3 flX1_24_2 dX1_gaffs_7 rfl ?_
  refine e_iadd dX1_gaffs_10 ?_
  obtain rfl := Option.some.inj H
  exact z_iret rfl rfl dX1_gaffs_11 rfl rfl
-- X2_init
def f_X2_init (p0 : Nat) (h : HS) : Option HS := (if hT h (hN h) = 0 then (bh (hNew h 15 (400 : Int32).toNatClampNeg (400 : Int32).toNatClampNeg) (fun h3 => (if hT h3 p0 = 4 then (some (sI (sI (sR h3 p0 0 (some (hN h))) p0 1 (0 : Int32)) p0 2 (0 : Int32))) else none))) else none)
set_option maxHeartbeats 4000000 in
set_option maxRecDepth 20000 in
theorem p_X2_init {p0 : Nat} {h : HS} {q : HS} (H : f_X2_init p0 h = some q) : Prw h q := by
  unfold f_X2_init at H
  replace H := og H; obtain ⟨g1, H⟩ := H
  have e2 := Prw.nw (h := h) (kd := 15) (ln := (400 : Int32).toNatClampNeg) (ns := (400 : Int32).toNatClampNeg) Prw.rf g1
  replace H := obh H; obtain ⟨h3, e4, H⟩ := H
  replace H := og H; obtain ⟨g6, H⟩ := H
  have e7 := Prw.sR (h := h3) (a := p0) (k := 0) (v := some (hN h)) Prw.rf 
  obtain rfl := Option.some.inj H
  exact ((((kW e4 e2).tr e7).sI).sI)
set_option maxHeartbeats 4000000 in
set_option maxRecDepth 20000 in
theorem t_X2_init {G : GE} (d : Nat) {p0 : Nat} {h : HS} {q : HS} (H : f_X2_init p0 h = some q) : CE G (d + 1) yX2_init miX2_init [.ref p0] h (none) (q) := by
  unfold f_X2_init at H
  refine ce_of rfl (by decide) (fun q => by first | rfl | cases q) (Nat.le_of_ble_eq_true rfl) rfl ?_
  refine g_aload_n dX2_init_0 rfl rfl ?_
  refine e_objI lmX2_5 dX2_init_1 (Nat.le_of_ble_eq_true rfl) (by omega) ?_
  refine g_aload_n dX2_init_4 rfl rfl ?_
  refine e_sipush (v := (400 : Int32)) dX2_init_5 (by decide) ?_
  replace H := og H; obtain ⟨g1, H⟩ := H
  refine e_newa (atype := .int) (kd := 15) rfl (by decide) la_int (by decide) (by decide) dX2_init_8 ?_
  have e2 := Prw.nw (h := h) (kd := 15) (ln := (400 : Int32).toNatClampNeg) (ns := (400 : Int32).toNatClampNeg) Prw.rf g1
  replace H := obh H; obtain ⟨h3, e4, H⟩ := H
  refine e_hq e4 ?_
  have f5 := kT e4 hT_new
  replace H := og H; obtain ⟨g6, H⟩ := H
  refine e_putR g6 fpX2_11_3i (by first | exact Or.inl ⟨_, rfl⟩ | exact Or.inr ⟨_, rfl⟩) dX2_init_10 ?_
  have e7 := Prw.sR (h := h3) (a := p0) (k := 0) (v := some (hN h)) Prw.rf 
  have f8 := e7.k f5 (by decide)
  have f9 := e7.k g6 (by decide)
  refine g_aload_n dX2_init_13 rfl rfl ?_
  refine e_iconst (v := (0 : Int32)) dX2_init_14 (by decide) ?_
  refine e_putI f9 fpX2_15_3i rfl dX2_init_15 ?_
  refine g_aload_n dX2_init_18 rfl rfl ?_
  refine e_iconst (v := (0 : Int32)) dX2_init_19 (by decide) ?_
  refine e_putI (kI f9) fpX2_19_3i rfl dX2_init_20 ?_
  obtain rfl := Option.some.inj H
  exact z_vret rfl dX2_init_23 rfl rfl
-- X10_pays
def f_X10_pays (p0 : Nat) (p1 : Int32) (p2 : Int32) (p3 : Int32) (h : HS) : Option Bool := (if isTg (hT h p0) = true then (Option.bind (f_X8_pays p0 p1 p2 p3 h) (fun q1 => (if q1 = true then (if p1 < 0 then (some false) else (some true)) else (some false)))) else none)
set_option maxHeartbeats 4000000 in
set_option maxRecDepth 20000 in
theorem t_X10_pays {G : GE} (d : Nat) {p0 : Nat} {p1 : Int32} {p2 : Int32} {p3 : Int32} {h : HS} {q : Bool} (H : f_X10_pays p0 p1 p2 p3 h = some q) : CE G (d + 2) yX10_pays miX10_pays [.ref p0, .int p1, .int p2, .int p3] h (some (.int (b2i q))) (h) := by
  unfold f_X10_pays at H
  refine ce_of rfl (by decide) (fun q => by first | rfl | cases q) (Nat.le_of_ble_eq_true rfl) rfl ?_
  refine g_aload_n dX10_pays_0 rfl rfl ?_
  refine e_iload_n dX10_pays_1 rfl ?_
  refine e_iload_n dX10_pays_2 rfl ?_
  refine e_iload_n dX10_pays_3 rfl ?_
  replace H := og H; obtain ⟨g3, H⟩ := H
  replace H := ob H; obtain ⟨q1, c2, H⟩ := H
  refine umX10_7_isTg g3 dX10_pays_4 (t_X8_pays (d + 0) c2) rfl rfl (Nat.le_of_ble_eq_true rfl) (Nat.le_refl _) ?_
  refine e_ifB_eq (tgt := 18) dX10_pays_7 (by decide) (fun c4 => ?_) (fun c4 => ?_)
  · replace H := of_ (nb c4) H
    refine e_iconst (v := (0 : Int32)) dX10_pays_18 (by decide) ?_
    obtain rfl := Option.some.inj H
    exact z_iret rfl rfl dX10_pays_19 rfl rfl
  · replace H := ot c4 H
    refine e_iload_n dX10_pays_10 rfl ?_
    refine e_if_lt (tgt := 18) dX10_pays_11 (by decide) (fun c5 => ?_) (fun c5 => ?_)
    · replace H := ot c5 H
      refine e_iconst (v := (0 : Int32)) dX10_pays_18 (by decide) ?_
      obtain rfl := Option.some.inj H
      exact z_iret rfl rfl dX10_pays_19 rfl rfl
    · replace H := of_ c5 H
      refine e_iconst (v := (1 : Int32)) dX10_pays_14 (by decide) ?_
      refine e_goto (tgt := 19) dX10_pays_15 (by decide) ?_
      obtain rfl := Option.some.inj H
      exact z_iret rfl rfl dX10_pays_19 rfl rfl
-- X7_pays
def f_X7_pays (p0 : Nat) (p1 : Int32) (p2 : Int32) (p3 : Int32) (h : HS) : Option Bool := (Option.bind (if p3 = (1 : Int32) then (if p1 = 0 then (some (0 : Int32)) else (if p2 = 0 then (some (0 : Int32)) else (some (1 : Int32)))) else (if p1 = 0 then (if p2 = 0 then (some (0 : Int32)) else (some (1 : Int32))) else (some (1 : Int32)))) (fun q2 => (if q2 = 0 then (some false) else (if hT h p0 = 9 then (Option.bind (f_X10_pays p0 p1 p2 p3 h) (fun q10 => (if q10 = true then (some true) else (some false)))) else none))))
set_option maxHeartbeats 4000000 in
set_option maxRecDepth 20000 in
theorem t_X7_pays {G : GE} (d : Nat) {p0 : Nat} {p1 : Int32} {p2 : Int32} {p3 : Int32} {h : HS} {q : Bool} (H : f_X7_pays p0 p1 p2 p3 h = some q) : CE G (d + 3) yX7_pays miX7_pays [.ref p0, .int p1, .int p2, .int p3] h (some (.int (b2i q))) (h) := by
  unfold f_X7_pays at H
  refine ce_of rfl (by decide) (fun q => by first | rfl | cases q) (Nat.le_of_ble_eq_true rfl) rfl ?_
  refine e_iload_n dX7_pays_0 rfl ?_
  refine e_iconst (v := (1 : Int32)) dX7_pays_1 (by decide) ?_
  replace H := ob H; obtain ⟨q2, c8, H⟩ := H
  have k3 : En G (d + 3) miX7_pays 34 [.ref p0, .int p1, .int p2, .int p3, dum] [.int q2] h (some (.int (b2i q))) (h) := by
    refine e_istore dX7_pays_34 (Nat.le_of_ble_eq_true rfl) rfl rfl ?_
    refine e_iload dX7_pays_36 rfl ?_
    refine e_if_eq (tgt := 55) dX7_pays_38 (by decide) (fun c9 => ?_) (fun c9 => ?_)
    · replace H := ot c9 H
      refine e_iconst (v := (0 : Int32)) dX7_pays_55 (by decide) ?_
      obtain rfl := Option.some.inj H
      exact z_iret rfl rfl dX7_pays_56 rfl rfl
    · replace H := of_ c9 H
      refine g_aload_n dX7_pays_41 rfl rfl ?_
      refine e_iload_n dX7_pays_42 rfl ?_
      refine e_iload_n dX7_pays_43 rfl ?_
      refine e_iload_n dX7_pays_44 rfl ?_
      replace H := og H; obtain ⟨g12, H⟩ := H
      replace H := ob H; obtain ⟨q10, c11, H⟩ := H
      refine u1 g12 (by decide) rfl lmX7_7 lqX10_pays lpX7 liX10_pays (by decide) msX10_pays dX7_pays_45 (t_X10_pays (d + 0) c11) rfl (Nat.le_of_ble_eq_true rfl) (Nat.le_refl _) ?_
      refine e_ifB_eq (tgt := 55) dX7_pays_48 (by decide) (fun c13 => ?_) (fun c13 => ?_)
      · replace H := of_ (nb c13) H
        refine e_iconst (v := (0 : Int32)) dX7_pays_55 (by decide) ?_
        obtain rfl := Option.some.inj H
        exact z_iret rfl rfl dX7_pays_56 rfl rfl
      · replace H := ot c13 H
        refine e_iconst (v := (1 : Int32)) dX7_pays_51 (by decide) ?_
        refine e_goto (tgt := 56) dX7_pays_52 (by decide) ?_
        obtain rfl := Option.some.inj H
        exact z_iret rfl rfl dX7_pays_56 rfl rfl
  replace H := c8
  refine e_icmp_ne (tgt := 21) dX7_pays_2 (by decide) (fun c1 => ?_) (fun c1 => ?_)
  · replace H := of_ c1 H
    refine e_iload_n dX7_pays_21 rfl ?_
    refine e_if_ne (tgt := 29) dX7_pays_22 (by decide) (fun c4 => ?_) (fun c4 => ?_)
    · replace H := of_ c4 H
      refine e_iconst (v := (1 : Int32)) dX7_pays_29 (by decide) ?_
      refine e_goto (tgt := 34) dX7_pays_30 (by decide) ?_
      obtain rfl := Option.some.inj H
      exact e_wk (lk1 (lk1 (lk1 (lk1 (lk1 lkn))))) k3
    · replace H := ot c4 H
      refine e_iload_n dX7_pays_25 rfl ?_
      refine e_if_eq (tgt := 33) dX7_pays_26 (by decide) (fun c5 => ?_) (fun c5 => ?_)
      · replace H := ot c5 H
        refine e_iconst (v := (0 : Int32)) dX7_pays_33 (by decide) ?_
        obtain rfl := Option.some.inj H
        exact e_wk (lk1 (lk1 (lk1 (lk1 (lk1 lkn))))) k3
      · replace H := of_ c5 H
        refine e_iconst (v := (1 : Int32)) dX7_pays_29 (by decide) ?_
        refine e_goto (tgt := 34) dX7_pays_30 (by decide) ?_
        obtain rfl := Option.some.inj H
        exact e_wk (lk1 (lk1 (lk1 (lk1 (lk1 lkn))))) k3
  · replace H := ot c1 H
    refine e_iload_n dX7_pays_5 rfl ?_
    refine e_if_eq (tgt := 17) dX7_pays_6 (by decide) (fun c6 => ?_) (fun c6 => ?_)
    · replace H := ot c6 H
      refine e_iconst (v := (0 : Int32)) dX7_pays_17 (by decide) ?_
      refine e_goto (tgt := 34) dX7_pays_18 (by decide) ?_
      obtain rfl := Option.some.inj H
      exact e_wk (lk1 (lk1 (lk1 (lk1 (lk1 lkn))))) k3
    · replace H := of_ c6 H
      refine e_iload_n dX7_pays_9 rfl ?_
      refine e_if_eq (tgt := 17) dX7_pays_10 (by decide) (fun c7 => ?_) (fun c7 => ?_)
      · replace H := ot c7 H
        refine e_iconst (v := (0 : Int32)) dX7_pays_17 (by decide) ?_
        refine e_goto (tgt := 34) dX7_pays_18 (by decide) ?_
        obtain rfl := Option.some.inj H
        exact e_wk (lk1 (lk1 (lk1 (lk1 (lk1 lkn))))) k3
      · replace H := of_ c7 H
        refine e_iconst (v := (1 : Int32)) dX7_pays_13 (by decide) ?_
        refine e_goto (tgt := 34) dX7_pays_14 (by decide) ?_
        obtain rfl := Option.some.inj H
        exact e_wk (lk1 (lk1 (lk1 (lk1 (lk1 lkn))))) k3
-- vd_paysX2
def f_V_pays (p0 : Nat) (p1 : Int32) (p2 : Int32) (p3 : Int32) (h : HS) : Option Bool := if hT h p0 = 10 then f_X8_pays p0 p1 p2 p3 h else if hT h p0 = 6 then f_X4_pays p0 p1 p2 p3 h else if hT h p0 = 12 then f_X10_pays p0 p1 p2 p3 h else if hT h p0 = 9 then f_X7_pays p0 p1 p2 p3 h else if hT h p0 = 2 then f_X0_pays p0 p1 p2 p3 h else if hT h p0 = 3 then f_X1_pays p0 p1 p2 p3 h else none
theorem vrpays_X2 {G : GE} {D : Nat} {M : ByteArray × Nat × Option FieldType × Bool} {pc : Nat} {ls st : List Value} {r : Option Value} {h' : HS} {p0 : Nat} {p1 : Int32} {p2 : Int32} {p3 : Int32} {h : HS} {q : Bool} (c : f_V_pays p0 p1 p2 p3 h = some q) (d : Nat) (hd : decode M.1 pc = .ok (.invokevirtual 26, 3)) (hw : wS st ≤ 8) (hdd : d + 3 + 1 ≤ D) (kk : En G D (RX2, M) (pc + 3) ls (.int (b2i q) :: st) h r h') : En G D (RX2, M) pc ls (.int p3 :: .int p2 :: .int p1 :: .ref p0 :: st) h r h' := by
  unfold f_V_pays at c
  replace c := oi c; obtain ⟨g, c⟩ | ⟨-, c⟩ := c
  · exact v1 g (by decide) rfl rfl lmX2_26 liX8_pays lvX8_X8_pays msX8_pays hd (t_X8_pays (d + 2) c) rfl hw (by omega) kk
  replace c := oi c; obtain ⟨g, c⟩ | ⟨-, c⟩ := c
  · exact e_callU (owner := RX8) g (by decide) rfl lmX2_26 lqX8_pays liX8_pays lvX4_X4_pays_o liX4_pays msX8_pays.2.1 ⟨by decide, by decide, by show _ = some (3 : Nat); decide⟩ msX4_pays hd hw (by omega) rfl (t_X4_pays (d + 2) c) kk
  replace c := oi c; obtain ⟨g, c⟩ | ⟨-, c⟩ := c
  · exact e_callU (owner := RX8) g (by decide) rfl lmX2_26 lqX8_pays liX8_pays lvX10_X10_pays_o liX10_pays msX8_pays.2.1 ⟨by decide, by decide, by show _ = some (3 : Nat); decide⟩ msX10_pays hd hw (by omega) rfl (t_X10_pays (d + 1) c) kk
  replace c := oi c; obtain ⟨g, c⟩ | ⟨-, c⟩ := c
  · exact e_callU (owner := RX8) g (by decide) rfl lmX2_26 lqX8_pays liX8_pays lvX7_X7_pays_o liX7_pays msX8_pays.2.1 ⟨by decide, by decide, by show _ = some (3 : Nat); decide⟩ msX7_pays hd hw (by omega) rfl (t_X7_pays (d + 0) c) kk
  replace c := oi c; obtain ⟨g, c⟩ | ⟨-, c⟩ := c
  · exact e_callU (owner := RX8) g (by decide) rfl lmX2_26 lqX8_pays liX8_pays lvX0_X0_pays_o liX0_pays msX8_pays.2.1 ⟨by decide, by decide, by show _ = some (3 : Nat); decide⟩ msX0_pays hd hw (by omega) rfl (t_X0_pays (d + 1) c) kk
  replace c := oi c; obtain ⟨g, c⟩ | ⟨-, c⟩ := c
  · exact e_callU (owner := RX8) g (by decide) rfl lmX2_26 lqX8_pays liX8_pays lvX1_X1_pays_o liX1_pays msX8_pays.2.1 ⟨by decide, by decide, by show _ = some (3 : Nat); decide⟩ msX1_pays hd hw (by omega) rfl (t_X1_pays (d + 1) c) kk
  exact nz c
-- X2_fill
def l_X2_fill_30 (y1 : Nat) (y2 : Int32) (y3 : Int32)  : Nat → Int32 → Int32 → HS → Option HS
  | 0, _, _, _ => none
  | n + 1, x4, x5, h => (if (20 : Int32) ≤ x5 then (some h) else (Option.bind (f_V_pays y1 ((y3 - (1 : Int32)) - (9 : Int32)) ((x5 - (1 : Int32)) - (9 : Int32)) y2 h) (fun q36 => (Option.bind (if q36 = true then (some (x4 + (1 : Int32))) else (some x4)) (fun q39 => (if ixb (((y3 - (1 : Int32)) * (20 : Int32)) + x5) 400 = true then (if ixb ((y3 * (20 : Int32)) + x5) 400 = true then (l_X2_fill_30 y1 y2 y3 n q39 (x5 + (1 : Int32)) (sI h 49 ((y3 * (20 : Int32)) + x5).toNatClampNeg ((hI h 49 (((y3 - (1 : Int32)) * (20 : Int32)) + x5).toNatClampNeg) + q39))) else none) else none))))))
set_option maxHeartbeats 4000000 in
set_option maxRecDepth 20000 in
theorem p_X2_fill_30 {y1 : Nat} {y2 : Int32} {y3 : Int32} : ∀ (n : Nat) {x4 : Int32} {x5 : Int32} {h : HS} {q : HS}, l_X2_fill_30 y1 y2 y3 n x4 x5 h = some q → Pr h q := by
  intro n
  induction n with
  | zero => intro x4 x5 h q H; exact nz H
  | succ n ih =>
    intro x4 x5 h q H
    unfold l_X2_fill_30 at H
    replace H := oi H; obtain ⟨c35, H⟩ | ⟨c35, H⟩ := H
    · obtain rfl := Option.some.inj H
      exact Pr.rf
    · replace H := ob H; obtain ⟨q36, c37, H⟩ := H
      replace H := ob H; obtain ⟨q39, c41, H⟩ := H
      replace H := og H; obtain ⟨g42, H⟩ := H
      replace H := og H; obtain ⟨g43, H⟩ := H
      exact (Pr.rf.sI).tr (ih H)
set_option maxHeartbeats 4000000 in
set_option maxRecDepth 20000 in
theorem w_X2_fill_30 {G : GE} (d : Nat) {y1 : Nat} {y2 : Int32} {y3 : Int32} {r : Option Value} {h' : HS}  : ∀ (n : Nat) {x4 : Int32} {x5 : Int32} {h : HS} {q : HS}, LY TX h → l_X2_fill_30 y1 y2 y3 n x4 x5 h = some q → En G (d + 4) miX2_fill 96 [.ref 48, .ref y1, .int y2, .int y3, dum, dum] [] q r h' → En G (d + 4) miX2_fill 30 [.ref 48, .ref y1, .int y2, .int y3, .int x4, .int x5] [] h r h' := by
  intro n
  induction n with
  | zero => intro x4 x5 h q hYTX H kE; exact nz H
  | succ n ih =>
    intro x4 x5 h q hYTX H kE
    unfold l_X2_fill_30 at H
    refine e_iload dX2_fill_30 rfl ?_
    refine e_bipush (v := (20 : Int32)) dX2_fill_32 (by decide) ?_
    refine e_icmp_ge (tgt := 96) dX2_fill_34 (by decide) (fun c35 => ?_) (fun c35 => ?_)
    · replace H := ot c35 H
      obtain rfl := Option.some.inj H
      exact e_wk (lk1 (lk1 (lk1 (lk1 (lk0 (lk0 lkn)))))) kE
    · replace H := of_ c35 H
      refine g_aload_n dX2_fill_37 rfl rfl ?_
      refine e_iload_n dX2_fill_38 rfl ?_
      refine e_iconst (v := (1 : Int32)) dX2_fill_39 (by decide) ?_
      refine e_isub dX2_fill_40 ?_
      refine e_bipush (v := (9 : Int32)) dX2_fill_41 (by decide) ?_
      refine e_isub dX2_fill_43 ?_
      refine e_iload dX2_fill_44 rfl ?_
      refine e_iconst (v := (1 : Int32)) dX2_fill_46 (by decide) ?_
      refine e_isub dX2_fill_47 ?_
      refine e_bipush (v := (9 : Int32)) dX2_fill_48 (by decide) ?_
      refine e_isub dX2_fill_50 ?_
      refine e_iload_n dX2_fill_51 rfl ?_
      replace H := ob H; obtain ⟨q36, c37, H⟩ := H
      refine vrpays_X2 c37 (d + 0) dX2_fill_52 (Nat.le_of_ble_eq_true rfl) (Nat.le_refl _) ?_
      replace H := ob H; obtain ⟨q39, c41, H⟩ := H
      have k40 : En G (d + 4) miX2_fill 61 [.ref 48, .ref y1, .int y2, .int y3, .int q39, .int x5] [] h r h' := by
        refine g_aload_n dX2_fill_61 rfl rfl ?_
        refine e_getR (hYTX.t 16 rfl) flX2_11_3 dX2_fill_62 rfl (hYTX.r 22 rfl) ?_
        refine e_iload_n dX2_fill_65 rfl ?_
        refine e_bipush (v := (20 : Int32)) dX2_fill_66 (by decide) ?_
        refine e_imul dX2_fill_68 ?_
        refine e_iload dX2_fill_69 rfl ?_
        refine e_iadd dX2_fill_71 ?_
        refine g_aload_n dX2_fill_72 rfl rfl ?_
        refine e_getR (hYTX.t 16 rfl) flX2_11_3 dX2_fill_73 rfl (hYTX.r 22 rfl) ?_
        refine e_iload_n dX2_fill_76 rfl ?_
        refine e_iconst (v := (1 : Int32)) dX2_fill_77 (by decide) ?_
        refine e_isub dX2_fill_78 ?_
        refine e_bipush (v := (20 : Int32)) dX2_fill_79 (by decide) ?_
        refine e_imul dX2_fill_81 ?_
        refine e_iload dX2_fill_82 rfl ?_
        refine e_iadd dX2_fill_84 ?_
        replace H := og H; obtain ⟨g42, H⟩ := H
        refine e_iald (hYTX.t 17 rfl) (ixb_y (hYTX.n 17 rfl) g42) dX2_fill_85 ?_
        refine e_iload dX2_fill_86 rfl ?_
        refine e_iadd dX2_fill_88 ?_
        replace H := og H; obtain ⟨g43, H⟩ := H
        refine e_iast (hYTX.t 17 rfl) (ixb_y (hYTX.n 17 rfl) g43) dX2_fill_89 ?_
        refine e_iinc dX2_fill_90 rfl (ii_ (by decide : Int32.ofInt (1) = (1 : Int32))) (Nat.le_of_ble_eq_true rfl) rfl rfl ?_
        refine e_goto (tgt := 30) dX2_fill_93 (by decide) ?_
        exact e_wk (lk1 (lk1 (lk1 (lk1 (lk1 (lk1 lkn)))))) (ih (hYTX.sI) H kE)
      replace H := c41
      refine e_ifB_eq (tgt := 61) dX2_fill_55 (by decide) (fun c38 => ?_) (fun c38 => ?_)
      · replace H := of_ (nb c38) H
        obtain rfl := Option.some.inj H
        exact e_wk (lk1 (lk1 (lk1 (lk1 (lk1 (lk1 lkn)))))) k40
      · replace H := ot c38 H
        refine e_iinc dX2_fill_58 rfl (ii_ (by decide : Int32.ofInt (1) = (1 : Int32))) (Nat.le_of_ble_eq_true rfl) rfl rfl ?_
        obtain rfl := Option.some.inj H
        exact e_wk (lk1 (lk1 (lk1 (lk1 (lk1 (lk1 lkn)))))) k40
def l_X2_fill_18 (y1 : Nat) (y2 : Int32)  : Nat → Int32 → HS → Option HS
  | 0, _, _ => none
  | n + 1, x3, h => (if (20 : Int32) ≤ x3 then (some h) else (Option.bind (l_X2_fill_30 y1 y2 x3 1000 (0 : Int32) (1 : Int32) h) (fun q44 => (l_X2_fill_18 y1 y2 n (x3 + (1 : Int32)) q44))))
set_option maxHeartbeats 4000000 in
set_option maxRecDepth 20000 in
theorem p_X2_fill_18 {y1 : Nat} {y2 : Int32} : ∀ (n : Nat) {x3 : Int32} {h : HS} {q : HS}, l_X2_fill_18 y1 y2 n x3 h = some q → Pr h q := by
  intro n
  induction n with
  | zero => intro x3 h q H; exact nz H
  | succ n ih =>
    intro x3 h q H
    unfold l_X2_fill_18 at H
    replace H := oi H; obtain ⟨c25, H⟩ | ⟨c25, H⟩ := H
    · obtain rfl := Option.some.inj H
      exact Pr.rf
    · replace H := ob H; obtain ⟨q44, c45, H⟩ := H
      have e46 := p_X2_fill_30 1000 c45
      exact e46.tr (ih H)
set_option maxHeartbeats 4000000 in
set_option maxRecDepth 20000 in
theorem w_X2_fill_18 {G : GE} (d : Nat) {y1 : Nat} {y2 : Int32} {r : Option Value} {h' : HS}  : ∀ (n : Nat) {x3 : Int32} {h : HS} {q : HS}, LY TX h → l_X2_fill_18 y1 y2 n x3 h = some q → En G (d + 4) miX2_fill 102 [dum, dum, dum, dum, dum, dum] [] q r h' → En G (d + 4) miX2_fill 18 [.ref 48, .ref y1, .int y2, .int x3, dum, dum] [] h r h' := by
  intro n
  induction n with
  | zero => intro x3 h q hYTX H kE; exact nz H
  | succ n ih =>
    intro x3 h q hYTX H kE
    unfold l_X2_fill_18 at H
    refine e_iload_n dX2_fill_18 rfl ?_
    refine e_bipush (v := (20 : Int32)) dX2_fill_19 (by decide) ?_
    refine e_icmp_ge (tgt := 102) dX2_fill_21 (by decide) (fun c25 => ?_) (fun c25 => ?_)
    · replace H := ot c25 H
      obtain rfl := Option.some.inj H
      exact e_wk (lk0 (lk0 (lk0 (lk0 (lk1 (lk1 lkn)))))) kE
    · replace H := of_ c25 H
      refine e_iconst (v := (0 : Int32)) dX2_fill_24 (by decide) ?_
      refine e_istore dX2_fill_25 (Nat.le_of_ble_eq_true rfl) rfl rfl ?_
      refine e_iconst (v := (1 : Int32)) dX2_fill_27 (by decide) ?_
      refine e_istore dX2_fill_28 (Nat.le_of_ble_eq_true rfl) rfl rfl ?_
      replace H := ob H; obtain ⟨q44, c45, H⟩ := H
      have e46 := p_X2_fill_30 1000 c45
      have hY47 := hYTX.pr okX e46
      refine e_wk (lk1 (lk1 (lk1 (lk1 (lk1 (lk1 lkn)))))) (w_X2_fill_30 d 1000 hYTX c45 ?_)
      refine e_iinc dX2_fill_96 rfl (ii_ (by decide : Int32.ofInt (1) = (1 : Int32))) (Nat.le_of_ble_eq_true rfl) rfl rfl ?_
      refine e_goto (tgt := 18) dX2_fill_99 (by decide) ?_
      exact e_wk (lk1 (lk1 (lk1 (lk1 (lk1 (lk1 lkn)))))) (ih hY47 H kE)
def f_X2_fill (p1 : Nat) (p2 : Int32) (h : HS) : Option HS := (if isSt (hT h p1) = true then (Option.bind (l_X2_fill_18 p1 p2 1000 (1 : Int32) (sI (sI h 48 1 (hI h p1 1)) 48 2 (hI (sI h 48 1 (hI h p1 1)) p1 2))) (fun q48 => (some q48))) else none)
set_option maxHeartbeats 4000000 in
set_option maxRecDepth 20000 in
theorem p_X2_fill {p1 : Nat} {p2 : Int32} {h : HS} {q : HS} (H : f_X2_fill p1 p2 h = some q) : Pr h q := by
  unfold f_X2_fill at H
  replace H := og H; obtain ⟨g1, H⟩ := H
  replace H := ob H; obtain ⟨q48, c49, H⟩ := H
  have e50 := p_X2_fill_18 1000 c49
  obtain rfl := Option.some.inj H
  exact (((Pr.rf.sI).sI).tr e50)
set_option maxHeartbeats 4000000 in
set_option maxRecDepth 20000 in
theorem t_X2_fill {G : GE} (d : Nat) {p1 : Nat} {p2 : Int32} {h : HS} {q : HS} (hY : LY TX h) (H : f_X2_fill p1 p2 h = some q) : CE G (d + 4) yX2_fill miX2_fill [.ref 48, .ref p1, .int p2] h (none) (q) := by
  unfold f_X2_fill at H
  refine ce_of rfl (by decide) (fun q => by first | rfl | cases q) (Nat.le_of_ble_eq_true rfl) rfl ?_
  refine g_aload_n dX2_fill_0 rfl rfl ?_
  refine g_aload_n dX2_fill_1 rfl rfl ?_
  replace H := og H; obtain ⟨g1, H⟩ := H
  refine gmX2_22_isSt g1 dX2_fill_2 ?_
  refine e_putI (hY.t 16 rfl) fpX2_15_3 rfl dX2_fill_5 ?_
  refine g_aload_n dX2_fill_8 rfl rfl ?_
  refine g_aload_n dX2_fill_9 rfl rfl ?_
  refine gmX2_25_isSt (kIb g1) dX2_fill_10 ?_
  refine e_putI ((hY.sI).t 16 rfl) fpX2_19_3 rfl dX2_fill_13 ?_
  refine e_iconst (v := (1 : Int32)) dX2_fill_16 (by decide) ?_
  refine e_istore_n dX2_fill_17 (Nat.le_of_ble_eq_true rfl) rfl rfl ?_
  replace H := ob H; obtain ⟨q48, c49, H⟩ := H
  have e50 := p_X2_fill_18 1000 c49
  have hY51 := ((hY.sI).sI).pr okX e50
  have f52 := e50.b (kIb (kIb g1)) rfl
  refine e_wk (lk1 (lk1 (lk1 (lk1 (lk1 (lk1 lkn)))))) (w_X2_fill_18 d 1000 ((hY.sI).sI) c49 ?_)
  obtain rfl := Option.some.inj H
  exact z_vret rfl dX2_fill_102 rfl rfl
-- X2_line
def f_X2_line (p0 : Int32) : Option Int32 := (some (if (0 : Int32) < (if (p0 + (9 : Int32)) < (19 : Int32) then (p0 + (9 : Int32)) else (19 : Int32)) then (if (p0 + (9 : Int32)) < (19 : Int32) then (p0 + (9 : Int32)) else (19 : Int32)) else (0 : Int32)))
set_option maxHeartbeats 4000000 in
set_option maxRecDepth 20000 in
theorem t_X2_line {G : GE} (d : Nat) {p0 : Int32} {h : HS} {q : Int32} (H : f_X2_line p0 = some q) : CE G (d + 1) yX2_line miX2_line [.int p0] h (some (.int q)) (h) := by
  unfold f_X2_line at H
  refine ce_of rfl (by decide) (fun q => by first | rfl | cases q) (Nat.le_of_ble_eq_true rfl) rfl ?_
  refine e_iconst (v := (0 : Int32)) dX2_line_0 (by decide) ?_
  refine e_bipush (v := (19 : Int32)) dX2_line_1 (by decide) ?_
  refine e_iload_n dX2_line_3 rfl ?_
  refine e_bipush (v := (9 : Int32)) dX2_line_4 (by decide) ?_
  refine e_iadd dX2_line_6 ?_
  refine e_mmin lmX2_53 lsJ9_min_7cf53 msJ9_min_7cf53.2.1 (Nat.le_of_ble_eq_true rfl) (by omega) dX2_line_7 ?_
  refine e_mmax lmX2_58 lsJ9_max_7cf53 msJ9_max_7cf53.2.1 (Nat.le_of_ble_eq_true rfl) (by omega) dX2_line_10 ?_
  obtain rfl := Option.some.inj H
  exact z_iret rfl rfl dX2_line_13 rfl rfl
-- X11_isIn
def f_X11_isIn (p0 : Int32) (p1 : Int32) (p2 : Int32) : Option Bool := (if p0 < p1 then (some false) else (if p2 < p0 then (some false) else (some true)))
set_option maxHeartbeats 4000000 in
set_option maxRecDepth 20000 in
theorem t_X11_isIn {G : GE} (d : Nat) {p0 : Int32} {p1 : Int32} {p2 : Int32} {h : HS} {q : Bool} (H : f_X11_isIn p0 p1 p2 = some q) : CE G (d + 0) yX11_isIn miX11_isIn [.int p0, .int p1, .int p2] h (some (.int (b2i q))) (h) := by
  unfold f_X11_isIn at H
  refine ce_of rfl (by decide) (fun q => by first | rfl | cases q) (Nat.le_of_ble_eq_true rfl) rfl ?_
  refine e_iload_n dX11_isIn_0 rfl ?_
  refine e_iload_n dX11_isIn_1 rfl ?_
  refine e_icmp_lt (tgt := 14) dX11_isIn_2 (by decide) (fun c1 => ?_) (fun c1 => ?_)
  · replace H := ot c1 H
    refine e_iconst (v := (0 : Int32)) dX11_isIn_14 (by decide) ?_
    obtain rfl := Option.some.inj H
    exact z_iret rfl rfl dX11_isIn_15 rfl rfl
  · replace H := of_ c1 H
    refine e_iload_n dX11_isIn_5 rfl ?_
    refine e_iload_n dX11_isIn_6 rfl ?_
    refine e_icmp_gt (tgt := 14) dX11_isIn_7 (by decide) (fun c2 => ?_) (fun c2 => ?_)
    · replace H := ot c2 H
      refine e_iconst (v := (0 : Int32)) dX11_isIn_14 (by decide) ?_
      obtain rfl := Option.some.inj H
      exact z_iret rfl rfl dX11_isIn_15 rfl rfl
    · replace H := of_ c2 H
      refine e_iconst (v := (1 : Int32)) dX11_isIn_10 (by decide) ?_
      refine e_goto (tgt := 15) dX11_isIn_11 (by decide) ?_
      obtain rfl := Option.some.inj H
      exact z_iret rfl rfl dX11_isIn_15 rfl rfl
-- X2_sum
def f_X2_sum (p1 : Int32) (p2 : Int32) (h : HS) : Option Int32 := (Option.bind (f_X11_isIn ((p1 * (20 : Int32)) + p2) (0 : Int32) ((400 : Int32) - (1 : Int32))) (fun q1 => (if q1 = true then (if ixb ((p1 * (20 : Int32)) + p2) 400 = true then (some (hI h 49 ((p1 * (20 : Int32)) + p2).toNatClampNeg)) else none) else (some (0 : Int32)))))
set_option maxHeartbeats 4000000 in
set_option maxRecDepth 20000 in
theorem t_X2_sum {G : GE} (d : Nat) {p1 : Int32} {p2 : Int32} {h : HS} {q : Int32} (hY : LY TX h) (H : f_X2_sum p1 p2 h = some q) : CE G (d + 1) yX2_sum miX2_sum [.ref 48, .int p1, .int p2] h (some (.int q)) (h) := by
  unfold f_X2_sum at H
  refine ce_of rfl (by decide) (fun q => by first | rfl | cases q) (Nat.le_of_ble_eq_true rfl) rfl ?_
  refine e_iload_n dX2_sum_0 rfl ?_
  refine e_bipush (v := (20 : Int32)) dX2_sum_1 (by decide) ?_
  refine e_imul dX2_sum_3 ?_
  refine e_iload_n dX2_sum_4 rfl ?_
  refine e_iadd dX2_sum_5 ?_
  refine e_istore_n dX2_sum_6 (Nat.le_of_ble_eq_true rfl) rfl rfl ?_
  refine e_iload_n dX2_sum_7 rfl ?_
  refine e_iconst (v := (0 : Int32)) dX2_sum_8 (by decide) ?_
  refine g_aload_n dX2_sum_9 rfl rfl ?_
  refine e_getR (hY.t 16 rfl) flX2_11_3 dX2_sum_10 rfl (hY.r 22 rfl) ?_
  refine e_alen (hY.t 17 rfl) (by decide) dX2_sum_13 ?_
  refine e_ci (y := (400 : Int32)) (by rw [(hY.n 17 rfl)]; rfl) ?_
  refine e_iconst (v := (1 : Int32)) dX2_sum_14 (by decide) ?_
  refine e_isub dX2_sum_15 ?_
  replace H := ob H; obtain ⟨q1, c2, H⟩ := H
  refine n1 (host := RX11) (by decide) lsX11_isIn msX11_isIn dX2_sum_16 (t_X11_isIn (d + 0) c2) rfl (Nat.le_of_ble_eq_true rfl) (Nat.le_refl _) ?_
  refine e_ifB_eq (tgt := 31) dX2_sum_19 (by decide) (fun c3 => ?_) (fun c3 => ?_)
  · replace H := of_ (nb c3) H
    refine e_iconst (v := (0 : Int32)) dX2_sum_31 (by decide) ?_
    obtain rfl := Option.some.inj H
    exact z_iret rfl rfl dX2_sum_32 rfl rfl
  · replace H := ot c3 H
    refine g_aload_n dX2_sum_22 rfl rfl ?_
    refine e_getR (hY.t 16 rfl) flX2_11_3 dX2_sum_23 rfl (hY.r 22 rfl) ?_
    refine e_iload_n dX2_sum_26 rfl ?_
    replace H := og H; obtain ⟨g4, H⟩ := H
    refine e_iald (hY.t 17 rfl) (ixb_y (hY.n 17 rfl) g4) dX2_sum_27 ?_
    refine e_goto (tgt := 32) dX2_sum_28 (by decide) ?_
    obtain rfl := Option.some.inj H
    exact z_iret rfl rfl dX2_sum_32 rfl rfl
-- X2_winning
def f_X2_winning (p1 : Nat) (p2 : Int32) (h : HS) : Option Int32 := (if hT h p1 = 5 then (Option.bind (f_X2_line ((((p2 / (100 : Int32)) + (hI h p1 0)) - (hI h 48 1)) - (hI h p1 2))) (fun q2 => (Option.bind (f_X2_line ((((p2 - p2 / (100 : Int32) * (100 : Int32)) + (hI h p1 1)) - (hI h 48 2)) - (hI h p1 2))) (fun q4 => (Option.bind (f_X2_line (((((p2 / (100 : Int32)) + (hI h p1 0)) - (hI h 48 1)) + (hI h p1 2)) + (1 : Int32))) (fun q6 => (Option.bind (f_X2_line (((((p2 - p2 / (100 : Int32) * (100 : Int32)) + (hI h p1 1)) - (hI h 48 2)) + (hI h p1 2)) + (1 : Int32))) (fun q8 => (Option.bind (f_X2_sum q6 q8 h) (fun q10 => (Option.bind (f_X2_sum q2 q8 h) (fun q12 => (Option.bind (f_X2_sum q6 q4 h) (fun q14 => (Option.bind (f_X2_sum q2 q4 h) (fun q16 => (some (((q10 - q12) - q14) + q16)))))))))))))))))) else none)
set_option maxHeartbeats 4000000 in
set_option maxRecDepth 20000 in
theorem t_X2_winning {G : GE} (d : Nat) {p1 : Nat} {p2 : Int32} {h : HS} {q : Int32} (hY : LY TX h) (H : f_X2_winning p1 p2 h = some q) : CE G (d + 2) yX2_winning miX2_winning [.ref 48, .ref p1, .int p2] h (some (.int q)) (h) := by
  unfold f_X2_winning at H
  refine ce_of rfl (by decide) (fun q => by first | rfl | cases q) (Nat.le_of_ble_eq_true rfl) rfl ?_
  refine e_iload_n dX2_winning_0 rfl ?_
  refine e_bipush (v := (100 : Int32)) dX2_winning_1 (by decide) ?_
  refine e_idiv dX2_winning_3 (by decide) ?_
  refine g_aload_n dX2_winning_4 rfl rfl ?_
  replace H := og H; obtain ⟨g1, H⟩ := H
  refine e_getI g1 flX2_30_4 dX2_winning_5 rfl ?_
  refine e_iadd dX2_winning_8 ?_
  refine g_aload_n dX2_winning_9 rfl rfl ?_
  refine e_getI (hY.t 16 rfl) flX2_15_3 dX2_winning_10 rfl ?_
  refine e_isub dX2_winning_13 ?_
  refine e_istore_n dX2_winning_14 (Nat.le_of_ble_eq_true rfl) rfl rfl ?_
  refine e_iload_n dX2_winning_15 rfl ?_
  refine e_bipush (v := (100 : Int32)) dX2_winning_16 (by decide) ?_
  refine e_irem dX2_winning_18 (by decide) ?_
  refine g_aload_n dX2_winning_19 rfl rfl ?_
  refine e_getI g1 flX2_35_4 dX2_winning_20 rfl ?_
  refine e_iadd dX2_winning_23 ?_
  refine g_aload_n dX2_winning_24 rfl rfl ?_
  refine e_getI (hY.t 16 rfl) flX2_19_3 dX2_winning_25 rfl ?_
  refine e_isub dX2_winning_28 ?_
  refine e_istore dX2_winning_29 (Nat.le_of_ble_eq_true rfl) rfl rfl ?_
  refine e_iload_n dX2_winning_31 rfl ?_
  refine g_aload_n dX2_winning_32 rfl rfl ?_
  refine e_getI g1 flX2_38_4 dX2_winning_33 rfl ?_
  refine e_isub dX2_winning_36 ?_
  replace H := ob H; obtain ⟨q2, c3, H⟩ := H
  refine s1 lmX2_41 lsX2_line msX2_line dX2_winning_37 (t_X2_line (d + 0) c3) rfl (Nat.le_of_ble_eq_true rfl) (Nat.le_refl _) ?_
  refine e_istore dX2_winning_40 (Nat.le_of_ble_eq_true rfl) rfl rfl ?_
  refine e_iload dX2_winning_42 rfl ?_
  refine g_aload_n dX2_winning_44 rfl rfl ?_
  refine e_getI g1 flX2_38_4 dX2_winning_45 rfl ?_
  refine e_isub dX2_winning_48 ?_
  replace H := ob H; obtain ⟨q4, c5, H⟩ := H
  refine s1 lmX2_41 lsX2_line msX2_line dX2_winning_49 (t_X2_line (d + 0) c5) rfl (Nat.le_of_ble_eq_true rfl) (Nat.le_refl _) ?_
  refine e_istore dX2_winning_52 (Nat.le_of_ble_eq_true rfl) rfl rfl ?_
  refine e_iload_n dX2_winning_54 rfl ?_
  refine g_aload_n dX2_winning_55 rfl rfl ?_
  refine e_getI g1 flX2_38_4 dX2_winning_56 rfl ?_
  refine e_iadd dX2_winning_59 ?_
  refine e_iconst (v := (1 : Int32)) dX2_winning_60 (by decide) ?_
  refine e_iadd dX2_winning_61 ?_
  replace H := ob H; obtain ⟨q6, c7, H⟩ := H
  refine s1 lmX2_41 lsX2_line msX2_line dX2_winning_62 (t_X2_line (d + 0) c7) rfl (Nat.le_of_ble_eq_true rfl) (Nat.le_refl _) ?_
  refine e_istore dX2_winning_65 (Nat.le_of_ble_eq_true rfl) rfl rfl ?_
  refine e_iload dX2_winning_67 rfl ?_
  refine g_aload_n dX2_winning_69 rfl rfl ?_
  refine e_getI g1 flX2_38_4 dX2_winning_70 rfl ?_
  refine e_iadd dX2_winning_73 ?_
  refine e_iconst (v := (1 : Int32)) dX2_winning_74 (by decide) ?_
  refine e_iadd dX2_winning_75 ?_
  replace H := ob H; obtain ⟨q8, c9, H⟩ := H
  refine s1 lmX2_41 lsX2_line msX2_line dX2_winning_76 (t_X2_line (d + 0) c9) rfl (Nat.le_of_ble_eq_true rfl) (Nat.le_refl _) ?_
  refine e_istore dX2_winning_79 (Nat.le_of_ble_eq_true rfl) rfl rfl ?_
  refine g_aload_n dX2_winning_81 rfl rfl ?_
  refine e_iload dX2_winning_82 rfl ?_
  refine e_iload dX2_winning_84 rfl ?_
  replace H := ob H; obtain ⟨q10, c11, H⟩ := H
  refine v1 (hY.t 16 rfl) (by decide) rfl rfl lmX2_45 liX2_sum lvX2_X2_sum msX2_sum dX2_winning_86 (t_X2_sum (d + 0) hY c11) rfl (Nat.le_of_ble_eq_true rfl) (Nat.le_refl _) ?_
  refine g_aload_n dX2_winning_89 rfl rfl ?_
  refine e_iload dX2_winning_90 rfl ?_
  refine e_iload dX2_winning_92 rfl ?_
  replace H := ob H; obtain ⟨q12, c13, H⟩ := H
  refine v1 (hY.t 16 rfl) (by decide) rfl rfl lmX2_45 liX2_sum lvX2_X2_sum msX2_sum dX2_winning_94 (t_X2_sum (d + 0) hY c13) rfl (Nat.le_of_ble_eq_true rfl) (Nat.le_refl _) ?_
  refine e_isub dX2_winning_97 ?_
  refine g_aload_n dX2_winning_98 rfl rfl ?_
  refine e_iload dX2_winning_99 rfl ?_
  refine e_iload dX2_winning_101 rfl ?_
  replace H := ob H; obtain ⟨q14, c15, H⟩ := H
  refine v1 (hY.t 16 rfl) (by decide) rfl rfl lmX2_45 liX2_sum lvX2_X2_sum msX2_sum dX2_winning_103 (t_X2_sum (d + 0) hY c15) rfl (Nat.le_of_ble_eq_true rfl) (Nat.le_refl _) ?_
  refine e_isub dX2_winning_106 ?_
  refine g_aload_n dX2_winning_107 rfl rfl ?_
  refine e_iload dX2_winning_108 rfl ?_
  refine e_iload dX2_winning_110 rfl ?_
  replace H := ob H; obtain ⟨q16, c17, H⟩ := H
  refine v1 (hY.t 16 rfl) (by decide) rfl rfl lmX2_45 liX2_sum lvX2_X2_sum msX2_sum dX2_winning_112 (t_X2_sum (d + 0) hY c17) rfl (Nat.le_of_ble_eq_true rfl) (Nat.le_refl _) ?_
  refine e_iadd dX2_winning_115 ?_
  obtain rfl := Option.some.inj H
  exact z_iret rfl rfl dX2_winning_116 rfl rfl
-- X2_bestAim
def l_X2_bestAim_17 (y1 : Nat) (y4 : Int32) (h : HS)  : Nat → Int32 → Int32 → Int32 → Option (Int32 × Int32)
  | 0, _, _, _ => none
  | n + 1, x2, x3, x5 => (if (20 : Int32) ≤ x5 then (some (x2, x3)) else (Option.bind (f_X2_winning y1 (((100 : Int32) * x5) + y4) h) (fun q18 => (if q18 ≤ x2 then (l_X2_bestAim_17 y1 y4 h n x2 x3 (x5 + (1 : Int32))) else (l_X2_bestAim_17 y1 y4 h n q18 (((100 : Int32) * x5) + y4) (x5 + (1 : Int32)))))))
set_option maxHeartbeats 4000000 in
set_option maxRecDepth 20000 in
theorem w_X2_bestAim_17 {G : GE} (d : Nat) {y1 : Nat} {y4 : Int32} {h : HS} {r : Option Value} {h' : HS} (hYTX : LY TX h) : ∀ (n : Nat) {x2 : Int32} {x3 : Int32} {x5 : Int32} {q : (Int32 × Int32)}, l_X2_bestAim_17 y1 y4 h n x2 x3 x5 = some q → En G (d + 3) miX2_bestAim 63 [.ref 48, .ref y1, .int q.1, .int q.2, .int y4, dum, dum] [] h r h' → En G (d + 3) miX2_bestAim 17 [.ref 48, .ref y1, .int x2, .int x3, .int y4, .int x5, dum] [] h r h' := by
  intro n
  induction n with
  | zero => intro x2 x3 x5 q H kE; exact nz H
  | succ n ih =>
    intro x2 x3 x5 q H kE
    unfold l_X2_bestAim_17 at H
    refine e_iload dX2_bestAim_17 rfl ?_
    refine e_bipush (v := (20 : Int32)) dX2_bestAim_19 (by decide) ?_
    refine e_icmp_ge (tgt := 63) dX2_bestAim_21 (by decide) (fun c17 => ?_) (fun c17 => ?_)
    · replace H := ot c17 H
      obtain rfl := Option.some.inj H
      exact e_wk (lk1 (lk1 (lk1 (lk1 (lk1 (lk0 (lk1 lkn))))))) kE
    · replace H := of_ c17 H
      refine g_aload_n dX2_bestAim_24 rfl rfl ?_
      refine g_aload_n dX2_bestAim_25 rfl rfl ?_
      refine e_bipush (v := (100 : Int32)) dX2_bestAim_26 (by decide) ?_
      refine e_iload dX2_bestAim_28 rfl ?_
      refine e_imul dX2_bestAim_30 ?_
      refine e_iload dX2_bestAim_31 rfl ?_
      refine e_iadd dX2_bestAim_33 ?_
      replace H := ob H; obtain ⟨q18, c19, H⟩ := H
      refine v1 (hYTX.t 16 rfl) (by decide) rfl rfl lmX2_49 liX2_winning lvX2_X2_winning msX2_winning dX2_bestAim_34 (t_X2_winning (d + 0) hYTX c19) rfl (Nat.le_of_ble_eq_true rfl) (Nat.le_refl _) ?_
      refine e_istore dX2_bestAim_37 (Nat.le_of_ble_eq_true rfl) rfl rfl ?_
      refine e_iload dX2_bestAim_39 rfl ?_
      refine e_iload_n dX2_bestAim_41 rfl ?_
      refine e_icmp_le (tgt := 57) dX2_bestAim_42 (by decide) (fun c20 => ?_) (fun c20 => ?_)
      · replace H := ot c20 H
        refine e_iinc dX2_bestAim_57 rfl (ii_ (by decide : Int32.ofInt (1) = (1 : Int32))) (Nat.le_of_ble_eq_true rfl) rfl rfl ?_
        refine e_goto (tgt := 17) dX2_bestAim_60 (by decide) ?_
        exact e_wk (lk1 (lk1 (lk1 (lk1 (lk1 (lk1 (lk0 lkn))))))) (ih H kE)
      · replace H := of_ c20 H
        refine e_iload dX2_bestAim_45 rfl ?_
        refine e_istore_n dX2_bestAim_47 (Nat.le_of_ble_eq_true rfl) rfl rfl ?_
        refine e_bipush (v := (100 : Int32)) dX2_bestAim_48 (by decide) ?_
        refine e_iload dX2_bestAim_50 rfl ?_
        refine e_imul dX2_bestAim_52 ?_
        refine e_iload dX2_bestAim_53 rfl ?_
        refine e_iadd dX2_bestAim_55 ?_
        refine e_istore_n dX2_bestAim_56 (Nat.le_of_ble_eq_true rfl) rfl rfl ?_
        refine e_iinc dX2_bestAim_57 rfl (ii_ (by decide : Int32.ofInt (1) = (1 : Int32))) (Nat.le_of_ble_eq_true rfl) rfl rfl ?_
        refine e_goto (tgt := 17) dX2_bestAim_60 (by decide) ?_
        exact e_wk (lk1 (lk1 (lk1 (lk1 (lk1 (lk1 (lk0 lkn))))))) (ih H kE)
def l_X2_bestAim_7 (y1 : Nat) (h : HS)  : Nat → Int32 → Int32 → Int32 → Option Int32
  | 0, _, _, _ => none
  | n + 1, x2, x3, x4 => (if (20 : Int32) ≤ x4 then (some x3) else (Option.bind (l_X2_bestAim_17 y1 x4 h 1000 x2 x3 (0 : Int32)) (fun q21 => (l_X2_bestAim_7 y1 h n q21.1 q21.2 (x4 + (1 : Int32))))))
set_option maxHeartbeats 4000000 in
set_option maxRecDepth 20000 in
theorem w_X2_bestAim_7 {G : GE} (d : Nat) {y1 : Nat} {h : HS} {r : Option Value} {h' : HS} (hYTX : LY TX h) : ∀ (n : Nat) {x2 : Int32} {x3 : Int32} {x4 : Int32} {q : Int32}, l_X2_bestAim_7 y1 h n x2 x3 x4 = some q → En G (d + 3) miX2_bestAim 69 [dum, dum, dum, .int q, dum, dum, dum] [] h r h' → En G (d + 3) miX2_bestAim 7 [.ref 48, .ref y1, .int x2, .int x3, .int x4, dum, dum] [] h r h' := by
  intro n
  induction n with
  | zero => intro x2 x3 x4 q H kE; exact nz H
  | succ n ih =>
    intro x2 x3 x4 q H kE
    unfold l_X2_bestAim_7 at H
    refine e_iload dX2_bestAim_7 rfl ?_
    refine e_bipush (v := (20 : Int32)) dX2_bestAim_9 (by decide) ?_
    refine e_icmp_ge (tgt := 69) dX2_bestAim_11 (by decide) (fun c12 => ?_) (fun c12 => ?_)
    · replace H := ot c12 H
      obtain rfl := Option.some.inj H
      exact e_wk (lk0 (lk0 (lk0 (lk1 (lk0 (lk1 (lk1 lkn))))))) kE
    · replace H := of_ c12 H
      refine e_iconst (v := (0 : Int32)) dX2_bestAim_14 (by decide) ?_
      refine e_istore dX2_bestAim_15 (Nat.le_of_ble_eq_true rfl) rfl rfl ?_
      replace H := ob H; obtain ⟨q21, c22, H⟩ := H
      refine e_wk (lk1 (lk1 (lk1 (lk1 (lk1 (lk1 (lk1 lkn))))))) (w_X2_bestAim_17 d hYTX 1000 c22 ?_)
      refine e_iinc dX2_bestAim_63 rfl (ii_ (by decide : Int32.ofInt (1) = (1 : Int32))) (Nat.le_of_ble_eq_true rfl) rfl rfl ?_
      refine e_goto (tgt := 7) dX2_bestAim_66 (by decide) ?_
      exact e_wk (lk1 (lk1 (lk1 (lk1 (lk1 (lk1 (lk1 lkn))))))) (ih H kE)
def f_X2_bestAim (p1 : Nat) (h : HS) : Option Int32 := (Option.bind (l_X2_bestAim_7 p1 h 1000 (-1 : Int32) (0 : Int32) (0 : Int32)) (fun q23 => (some q23)))
set_option maxHeartbeats 4000000 in
set_option maxRecDepth 20000 in
theorem t_X2_bestAim {G : GE} (d : Nat) {p1 : Nat} {h : HS} {q : Int32} (hY : LY TX h) (H : f_X2_bestAim p1 h = some q) : CE G (d + 3) yX2_bestAim miX2_bestAim [.ref 48, .ref p1] h (some (.int q)) (h) := by
  unfold f_X2_bestAim at H
  refine ce_of rfl (by decide) (fun q => by first | rfl | cases q) (Nat.le_of_ble_eq_true rfl) rfl ?_
  refine e_iconst (v := (-1 : Int32)) dX2_bestAim_0 (by decide) ?_
  refine e_istore_n dX2_bestAim_1 (Nat.le_of_ble_eq_true rfl) rfl rfl ?_
  refine e_iconst (v := (0 : Int32)) dX2_bestAim_2 (by decide) ?_
  refine e_istore_n dX2_bestAim_3 (Nat.le_of_ble_eq_true rfl) rfl rfl ?_
  refine e_iconst (v := (0 : Int32)) dX2_bestAim_4 (by decide) ?_
  refine e_istore dX2_bestAim_5 (Nat.le_of_ble_eq_true rfl) rfl rfl ?_
  replace H := ob H; obtain ⟨q23, c24, H⟩ := H
  refine e_wk (lk1 (lk1 (lk1 (lk1 (lk1 (lk1 (lk1 lkn))))))) (w_X2_bestAim_7 d hY 1000 c24 ?_)
  refine e_iload_n dX2_bestAim_69 rfl ?_
  obtain rfl := Option.some.inj H
  exact z_iret rfl rfl dX2_bestAim_70 rfl rfl
-- X3_init
def f_X3_init (p0 : Nat) (p1 : Int32) (p2 : Int32) (p3 : Int32) (h : HS) : Option HS := (if hT h p0 = 5 then (bh (sI (sI (sI (sI (sI h p0 0 p1) p0 1 p2) p0 2 p3) p0 3 (((2 : Int32) * p3) + (1 : Int32))) p0 4 ((hI (sI (sI (sI (sI h p0 0 p1) p0 1 p2) p0 2 p3) p0 3 (((2 : Int32) * p3) + (1 : Int32))) p0 3) * (hI (sI (sI (sI (sI h p0 0 p1) p0 1 p2) p0 2 p3) p0 3 (((2 : Int32) * p3) + (1 : Int32))) p0 3))) (fun h2 => (some h2))) else none)
set_option maxHeartbeats 4000000 in
set_option maxRecDepth 20000 in
theorem p_X3_init {p0 : Nat} {p1 : Int32} {p2 : Int32} {p3 : Int32} {h : HS} {q : HS} (H : f_X3_init p0 p1 p2 p3 h = some q) : Pr h q := by
  unfold f_X3_init at H
  replace H := og H; obtain ⟨g1, H⟩ := H
  replace H := obh H; obtain ⟨h2, e3, H⟩ := H
  obtain rfl := Option.some.inj H
  exact (kP e3 (((((Pr.rf.sI).sI).sI).sI).sI))
set_option maxHeartbeats 4000000 in
set_option maxRecDepth 20000 in
theorem t_X3_init {G : GE} (d : Nat) {p0 : Nat} {p1 : Int32} {p2 : Int32} {p3 : Int32} {h : HS} {q : HS} (H : f_X3_init p0 p1 p2 p3 h = some q) : CE G (d + 1) yX3_init miX3_init [.ref p0, .int p1, .int p2, .int p3] h (none) (q) := by
  unfold f_X3_init at H
  refine ce_of rfl (by decide) (fun q => by first | rfl | cases q) (Nat.le_of_ble_eq_true rfl) rfl ?_
  refine g_aload_n dX3_init_0 rfl rfl ?_
  refine e_objI lmX3_1 dX3_init_1 (Nat.le_of_ble_eq_true rfl) (by omega) ?_
  refine g_aload_n dX3_init_4 rfl rfl ?_
  refine e_iload_n dX3_init_5 rfl ?_
  replace H := og H; obtain ⟨g1, H⟩ := H
  refine e_putI g1 fpX3_7_4i rfl dX3_init_6 ?_
  refine g_aload_n dX3_init_9 rfl rfl ?_
  refine e_iload_n dX3_init_10 rfl ?_
  refine e_putI (kI g1) fpX3_13_4i rfl dX3_init_11 ?_
  refine g_aload_n dX3_init_14 rfl rfl ?_
  refine e_iload_n dX3_init_15 rfl ?_
  refine e_putI (kI (kI g1)) fpX3_16_4i rfl dX3_init_16 ?_
  refine g_aload_n dX3_init_19 rfl rfl ?_
  refine e_iconst (v := (2 : Int32)) dX3_init_20 (by decide) ?_
  refine e_iload_n dX3_init_21 rfl ?_
  refine e_imul dX3_init_22 ?_
  refine e_iconst (v := (1 : Int32)) dX3_init_23 (by decide) ?_
  refine e_iadd dX3_init_24 ?_
  refine e_putI (kI (kI (kI g1))) fpX3_19_4i rfl dX3_init_25 ?_
  refine g_aload_n dX3_init_28 rfl rfl ?_
  refine g_aload_n dX3_init_29 rfl rfl ?_
  refine e_getI (kI (kI (kI (kI g1)))) flX3_19_4 dX3_init_30 rfl ?_
  refine g_aload_n dX3_init_33 rfl rfl ?_
  refine e_getI (kI (kI (kI (kI g1)))) flX3_19_4 dX3_init_34 rfl ?_
  refine e_imul dX3_init_37 ?_
  refine e_putI (kI (kI (kI (kI g1)))) fpX3_22_4i rfl dX3_init_38 ?_
  replace H := obh H; obtain ⟨h2, e3, H⟩ := H
  refine e_hq e3 ?_
  have f4 := kT e3 (kI (kI (kI (kI (kI g1)))))
  obtain rfl := Option.some.inj H
  exact z_vret rfl dX3_init_41 rfl rfl
-- X5_init
def f_X5_init (p0 : Nat) (h : HS) : Option HS := (if hT h p0 = 7 then (if hT (sI (sI (sI (sI h p0 0 (0 : Int32)) p0 1 (0 : Int32)) p0 2 (0 : Int32)) p0 3 (0 : Int32)) (hN (sI (sI (sI (sI h p0 0 (0 : Int32)) p0 1 (0 : Int32)) p0 2 (0 : Int32)) p0 3 (0 : Int32))) = 0 then (bh (hNew (sI (sI (sI (sI h p0 0 (0 : Int32)) p0 1 (0 : Int32)) p0 2 (0 : Int32)) p0 3 (0 : Int32)) 15 (32 : Int32).toNatClampNeg (32 : Int32).toNatClampNeg) (fun h5 => (some (sR h5 p0 4 (some (hN (sI (sI (sI (sI h p0 0 (0 : Int32)) p0 1 (0 : Int32)) p0 2 (0 : Int32)) p0 3 (0 : Int32)))))))) else none) else none)
set_option maxHeartbeats 4000000 in
set_option maxRecDepth 20000 in
theorem p_X5_init {p0 : Nat} {h : HS} {q : HS} (H : f_X5_init p0 h = some q) : Prw h q := by
  unfold f_X5_init at H
  replace H := og H; obtain ⟨g1, H⟩ := H
  replace H := og H; obtain ⟨g2, H⟩ := H
  have e3 := Prw.nw (h := (sI (sI (sI (sI h p0 0 (0 : Int32)) p0 1 (0 : Int32)) p0 2 (0 : Int32)) p0 3 (0 : Int32))) (kd := 15) (ln := (32 : Int32).toNatClampNeg) (ns := (32 : Int32).toNatClampNeg) Prw.rf g2
  replace H := obh H; obtain ⟨h5, e6, H⟩ := H
  have e9 := Prw.sR (h := h5) (a := p0) (k := 4) (v := some (hN (sI (sI (sI (sI h p0 0 (0 : Int32)) p0 1 (0 : Int32)) p0 2 (0 : Int32)) p0 3 (0 : Int32)))) Prw.rf 
  obtain rfl := Option.some.inj H
  exact ((kW e6 (((((Prw.rf.sI).sI).sI).sI).tr e3)).tr e9)
set_option maxHeartbeats 4000000 in
set_option maxRecDepth 20000 in
theorem t_X5_init {G : GE} (d : Nat) {p0 : Nat} {h : HS} {q : HS} (H : f_X5_init p0 h = some q) : CE G (d + 1) yX5_init miX5_init [.ref p0] h (none) (q) := by
  unfold f_X5_init at H
  refine ce_of rfl (by decide) (fun q => by first | rfl | cases q) (Nat.le_of_ble_eq_true rfl) rfl ?_
  refine g_aload_n dX5_init_0 rfl rfl ?_
  refine e_objI lmX5_3 dX5_init_1 (Nat.le_of_ble_eq_true rfl) (by omega) ?_
  refine g_aload_n dX5_init_4 rfl rfl ?_
  refine e_iconst (v := (0 : Int32)) dX5_init_5 (by decide) ?_
  replace H := og H; obtain ⟨g1, H⟩ := H
  refine e_putZ g1 fpX5_9_6i rfl (Or.inl rfl) dX5_init_6 ?_
  refine g_aload_n dX5_init_9 rfl rfl ?_
  refine e_iconst (v := (0 : Int32)) dX5_init_10 (by decide) ?_
  refine e_putI (kI g1) fpX5_15_6i rfl dX5_init_11 ?_
  refine g_aload_n dX5_init_14 rfl rfl ?_
  refine e_iconst (v := (0 : Int32)) dX5_init_15 (by decide) ?_
  refine e_putI (kI (kI g1)) fpX5_19_6i rfl dX5_init_16 ?_
  refine g_aload_n dX5_init_19 rfl rfl ?_
  refine e_iconst (v := (0 : Int32)) dX5_init_20 (by decide) ?_
  refine e_putI (kI (kI (kI g1))) fpX5_22_6i rfl dX5_init_21 ?_
  refine g_aload_n dX5_init_24 rfl rfl ?_
  refine e_bipush (v := (32 : Int32)) dX5_init_25 (by decide) ?_
  replace H := og H; obtain ⟨g2, H⟩ := H
  refine e_newa (atype := .int) (kd := 15) rfl (by decide) la_int (by decide) (by decide) dX5_init_27 ?_
  have e3 := Prw.nw (h := (sI (sI (sI (sI h p0 0 (0 : Int32)) p0 1 (0 : Int32)) p0 2 (0 : Int32)) p0 3 (0 : Int32))) (kd := 15) (ln := (32 : Int32).toNatClampNeg) (ns := (32 : Int32).toNatClampNeg) Prw.rf g2
  have f4 := e3.k (kI (kI (kI (kI g1)))) (by decide)
  replace H := obh H; obtain ⟨h5, e6, H⟩ := H
  refine e_hq e6 ?_
  have f7 := kT e6 f4
  have f8 := kT e6 hT_new
  refine e_putR f7 fpX5_25_6i (by first | exact Or.inl ⟨_, rfl⟩ | exact Or.inr ⟨_, rfl⟩) dX5_init_29 ?_
  have e9 := Prw.sR (h := h5) (a := p0) (k := 4) (v := some (hN (sI (sI (sI (sI h p0 0 (0 : Int32)) p0 1 (0 : Int32)) p0 2 (0 : Int32)) p0 3 (0 : Int32)))) Prw.rf 
  have f10 := e9.k f7 (by decide)
  have f11 := e9.k f8 (by decide)
  obtain rfl := Option.some.inj H
  exact z_vret rfl dX5_init_32 rfl rfl
-- X8_changeable
def f_X8_changeable (p0 : Nat) (p1 : Int32) (h : HS) : Option Int32 := (if p1 = (0 : Int32) then (if isSt (hT h p0) = true then (some (hI h p0 4)) else none) else (if p1 = (1 : Int32) then (if isSt (hT h p0) = true then (some (hI h p0 5)) else none) else (if p1 = (2 : Int32) then (if isSt (hT h p0) = true then (some (hI h p0 6)) else none) else (if isSt (hT h p0) = true then (some (hI h p0 7)) else none))))
set_option maxHeartbeats 4000000 in
set_option maxRecDepth 20000 in
theorem t_X8_changeable {G : GE} (d : Nat) {p0 : Nat} {p1 : Int32} {h : HS} {q : Int32} (H : f_X8_changeable p0 p1 h = some q) : CE G (d + 0) yX8_changeable miX8_changeable [.ref p0, .int p1] h (some (.int q)) (h) := by
  unfold f_X8_changeable at H
  refine ce_of rfl (by decide) (fun q => by first | rfl | cases q) (Nat.le_of_ble_eq_true rfl) rfl ?_
  refine e_iload_n dX8_changeable_0 rfl ?_
  by_cases k1 : p1 = (0 : Int32)
  · replace H := ot k1 H
    refine e_tableIn (off := 27) (tgt := 28) dX8_changeable_1 (by rw [k1]; decide) (by rw [k1]; decide) (by rw [k1]; rfl) (by decide) ?_
    refine g_aload_n dX8_changeable_28 rfl rfl ?_
    replace H := og H; obtain ⟨g7, H⟩ := H
    refine gmX8_31_isSt g7 dX8_changeable_29 ?_
    obtain rfl := Option.some.inj H
    exact z_iret rfl rfl dX8_changeable_32 rfl rfl
  · replace H := of_ k1 H
    by_cases k2 : p1 = (1 : Int32)
    · replace H := ot k2 H
      refine e_tableIn (off := 32) (tgt := 33) dX8_changeable_1 (by rw [k2]; decide) (by rw [k2]; decide) (by rw [k2]; rfl) (by decide) ?_
      refine g_aload_n dX8_changeable_33 rfl rfl ?_
      replace H := og H; obtain ⟨g6, H⟩ := H
      refine gmX8_7_isSt g6 dX8_changeable_34 ?_
      obtain rfl := Option.some.inj H
      exact z_iret rfl rfl dX8_changeable_37 rfl rfl
    · replace H := of_ k2 H
      by_cases k3 : p1 = (2 : Int32)
      · replace H := ot k3 H
        refine e_tableIn (off := 37) (tgt := 38) dX8_changeable_1 (by rw [k3]; decide) (by rw [k3]; decide) (by rw [k3]; rfl) (by decide) ?_
        refine g_aload_n dX8_changeable_38 rfl rfl ?_
        replace H := og H; obtain ⟨g5, H⟩ := H
        refine gmX8_13_isSt g5 dX8_changeable_39 ?_
        obtain rfl := Option.some.inj H
        exact z_iret rfl rfl dX8_changeable_42 rfl rfl
      · replace H := of_ k3 H
        refine e_tableOut (tgt := 43) dX8_changeable_1 (by have q0 : p1.toInt ≠ 0 := i32_ne k1; have q1 : p1.toInt ≠ 1 := i32_ne k2; have q2 : p1.toInt ≠ 2 := i32_ne k3; omega) (by decide) ?_
        refine g_aload_n dX8_changeable_43 rfl rfl ?_
        replace H := og H; obtain ⟨g4, H⟩ := H
        refine gmX8_16_isSt g4 dX8_changeable_44 ?_
        obtain rfl := Option.some.inj H
        exact z_iret rfl rfl dX8_changeable_47 rfl rfl
-- vd_changeableX5
def f_V_changeable (p0 : Nat) (p1 : Int32) (h : HS) : Option Int32 := if hT h p0 = 10 then f_X8_changeable p0 p1 h else if hT h p0 = 6 then f_X8_changeable p0 p1 h else if hT h p0 = 12 then f_X8_changeable p0 p1 h else if hT h p0 = 9 then f_X8_changeable p0 p1 h else if hT h p0 = 2 then f_X8_changeable p0 p1 h else if hT h p0 = 3 then f_X8_changeable p0 p1 h else none
theorem vrchangeable_X5 {G : GE} {D : Nat} {M : ByteArray × Nat × Option FieldType × Bool} {pc : Nat} {ls st : List Value} {r : Option Value} {h' : HS} {p0 : Nat} {p1 : Int32} {h : HS} {q : Int32} (c : f_V_changeable p0 p1 h = some q) (d : Nat) (hd : decode M.1 pc = .ok (.invokevirtual 33, 3)) (hw : wS st ≤ 8) (hdd : d + 0 + 1 ≤ D) (kk : En G D (RX5, M) (pc + 3) ls (.int q :: st) h r h') : En G D (RX5, M) pc ls (.int p1 :: .ref p0 :: st) h r h' := by
  unfold f_V_changeable at c
  replace c := oi c; obtain ⟨g, c⟩ | ⟨-, c⟩ := c
  · exact v1 g (by decide) rfl rfl lmX5_33 liX8_changeable lvX8_X8_changeable msX8_changeable hd (t_X8_changeable (d + 0) c) rfl hw (by omega) kk
  replace c := oi c; obtain ⟨g, c⟩ | ⟨-, c⟩ := c
  · exact e_callU (owner := RX8) g (by decide) rfl lmX5_33 lqX8_changeable liX8_changeable lvX4_X8_changeable liX8_changeable msX8_changeable.2.1 ⟨by decide, by decide, by show _ = some (1 : Nat); decide⟩ msX8_changeable hd hw (by omega) rfl (t_X8_changeable (d + 0) c) kk
  replace c := oi c; obtain ⟨g, c⟩ | ⟨-, c⟩ := c
  · exact e_callU (owner := RX8) g (by decide) rfl lmX5_33 lqX8_changeable liX8_changeable lvX10_X8_changeable liX8_changeable msX8_changeable.2.1 ⟨by decide, by decide, by show _ = some (1 : Nat); decide⟩ msX8_changeable hd hw (by omega) rfl (t_X8_changeable (d + 0) c) kk
  replace c := oi c; obtain ⟨g, c⟩ | ⟨-, c⟩ := c
  · exact e_callU (owner := RX8) g (by decide) rfl lmX5_33 lqX8_changeable liX8_changeable lvX7_X8_changeable liX8_changeable msX8_changeable.2.1 ⟨by decide, by decide, by show _ = some (1 : Nat); decide⟩ msX8_changeable hd hw (by omega) rfl (t_X8_changeable (d + 0) c) kk
  replace c := oi c; obtain ⟨g, c⟩ | ⟨-, c⟩ := c
  · exact e_callU (owner := RX8) g (by decide) rfl lmX5_33 lqX8_changeable liX8_changeable lvX0_X8_changeable liX8_changeable msX8_changeable.2.1 ⟨by decide, by decide, by show _ = some (1 : Nat); decide⟩ msX8_changeable hd hw (by omega) rfl (t_X8_changeable (d + 0) c) kk
  replace c := oi c; obtain ⟨g, c⟩ | ⟨-, c⟩ := c
  · exact e_callU (owner := RX8) g (by decide) rfl lmX5_33 lqX8_changeable liX8_changeable lvX1_X8_changeable liX8_changeable msX8_changeable.2.1 ⟨by decide, by decide, by show _ = some (1 : Nat); decide⟩ msX8_changeable hd hw (by omega) rfl (t_X8_changeable (d + 0) c) kk
  exact nz c
-- X5_keep
def l_X5_keep_12 (y1 : Int32) (y2 : Nat)  : Nat → Int32 → HS → Option HS
  | 0, _, _ => none
  | n + 1, x3, h => (if (4 : Int32) ≤ x3 then (some h) else (Option.bind (f_V_changeable y2 x3 h) (fun q9 => (if ixb ((y1 * (4 : Int32)) + x3) 32 = true then (l_X5_keep_12 y1 y2 n (x3 + (1 : Int32)) (sI h 45 ((y1 * (4 : Int32)) + x3).toNatClampNeg q9)) else none))))
set_option maxHeartbeats 4000000 in
set_option maxRecDepth 20000 in
theorem p_X5_keep_12 {y1 : Int32} {y2 : Nat} : ∀ (n : Nat) {x3 : Int32} {h : HS} {q : HS}, l_X5_keep_12 y1 y2 n x3 h = some q → Pr h q := by
  intro n
  induction n with
  | zero => intro x3 h q H; exact nz H
  | succ n ih =>
    intro x3 h q H
    unfold l_X5_keep_12 at H
    replace H := oi H; obtain ⟨c8, H⟩ | ⟨c8, H⟩ := H
    · obtain rfl := Option.some.inj H
      exact Pr.rf
    · replace H := ob H; obtain ⟨q9, c10, H⟩ := H
      replace H := og H; obtain ⟨g11, H⟩ := H
      exact (Pr.rf.sI).tr (ih H)
set_option maxHeartbeats 4000000 in
set_option maxRecDepth 20000 in
theorem w_X5_keep_12 {G : GE} (d : Nat) {y1 : Int32} {y2 : Nat} {r : Option Value} {h' : HS}  : ∀ (n : Nat) {x3 : Int32} {h : HS} {q : HS}, LY TX h → l_X5_keep_12 y1 y2 n x3 h = some q → En G (d + 1) miX5_keep 38 [dum, dum, dum, dum] [] q r h' → En G (d + 1) miX5_keep 12 [.ref 44, .int y1, .ref y2, .int x3] [] h r h' := by
  intro n
  induction n with
  | zero => intro x3 h q hYTX H kE; exact nz H
  | succ n ih =>
    intro x3 h q hYTX H kE
    unfold l_X5_keep_12 at H
    refine e_iload_n dX5_keep_12 rfl ?_
    refine e_iconst (v := (4 : Int32)) dX5_keep_13 (by decide) ?_
    refine e_icmp_ge (tgt := 38) dX5_keep_14 (by decide) (fun c8 => ?_) (fun c8 => ?_)
    · replace H := ot c8 H
      obtain rfl := Option.some.inj H
      exact e_wk (lk0 (lk0 (lk0 (lk0 lkn)))) kE
    · replace H := of_ c8 H
      refine g_aload_n dX5_keep_17 rfl rfl ?_
      refine e_getR (hYTX.t 12 rfl) flX5_25_6 dX5_keep_18 rfl (hYTX.r 21 rfl) ?_
      refine e_iload_n dX5_keep_21 rfl ?_
      refine e_iconst (v := (4 : Int32)) dX5_keep_22 (by decide) ?_
      refine e_imul dX5_keep_23 ?_
      refine e_iload_n dX5_keep_24 rfl ?_
      refine e_iadd dX5_keep_25 ?_
      refine g_aload_n dX5_keep_26 rfl rfl ?_
      refine e_iload_n dX5_keep_27 rfl ?_
      replace H := ob H; obtain ⟨q9, c10, H⟩ := H
      refine vrchangeable_X5 c10 (d + 0) dX5_keep_28 (Nat.le_of_ble_eq_true rfl) (Nat.le_refl _) ?_
      replace H := og H; obtain ⟨g11, H⟩ := H
      refine e_iast (hYTX.t 13 rfl) (ixb_y (hYTX.n 13 rfl) g11) dX5_keep_31 ?_
      refine e_iinc dX5_keep_32 rfl (ii_ (by decide : Int32.ofInt (1) = (1 : Int32))) (Nat.le_of_ble_eq_true rfl) rfl rfl ?_
      refine e_goto (tgt := 12) dX5_keep_35 (by decide) ?_
      exact e_wk (lk1 (lk1 (lk1 (lk1 lkn)))) (ih (hYTX.sI) H kE)
def f_X5_keep (p1 : Int32) (p2 : Nat) (h : HS) : Option HS := (Option.bind (f_X11_isIn p1 (0 : Int32) (7 : Int32)) (fun q1 => (if q1 = true then (Option.bind (l_X5_keep_12 p1 p2 1000 (0 : Int32) h) (fun q12 => (some q12))) else (some h))))
set_option maxHeartbeats 4000000 in
set_option maxRecDepth 20000 in
theorem p_X5_keep {p1 : Int32} {p2 : Nat} {h : HS} {q : HS} (H : f_X5_keep p1 p2 h = some q) : Pr h q := by
  unfold f_X5_keep at H
  replace H := ob H; obtain ⟨q1, c2, H⟩ := H
  replace H := oi H; obtain ⟨c3, H⟩ | ⟨c3, H⟩ := H
  · replace H := ob H; obtain ⟨q12, c13, H⟩ := H
    have e14 := p_X5_keep_12 1000 c13
    obtain rfl := Option.some.inj H
    exact e14
  · obtain rfl := Option.some.inj H
    exact Pr.rf
set_option maxHeartbeats 4000000 in
set_option maxRecDepth 20000 in
theorem t_X5_keep {G : GE} (d : Nat) {p1 : Int32} {p2 : Nat} {h : HS} {q : HS} (hY : LY TX h) (H : f_X5_keep p1 p2 h = some q) : CE G (d + 1) yX5_keep miX5_keep [.ref 44, .int p1, .ref p2] h (none) (q) := by
  unfold f_X5_keep at H
  refine ce_of rfl (by decide) (fun q => by first | rfl | cases q) (Nat.le_of_ble_eq_true rfl) rfl ?_
  refine e_iload_n dX5_keep_0 rfl ?_
  refine e_iconst (v := (0 : Int32)) dX5_keep_1 (by decide) ?_
  refine e_bipush (v := (7 : Int32)) dX5_keep_2 (by decide) ?_
  replace H := ob H; obtain ⟨q1, c2, H⟩ := H
  refine n1 (host := RX11) (by decide) lsX11_isIn msX11_isIn dX5_keep_4 (t_X11_isIn (d + 0) c2) rfl (Nat.le_of_ble_eq_true rfl) (Nat.le_refl _) ?_
  refine e_ifB_eq (tgt := 38) dX5_keep_7 (by decide) (fun c3 => ?_) (fun c3 => ?_)
  · replace H := of_ (nb c3) H
    obtain rfl := Option.some.inj H
    exact z_vret rfl dX5_keep_38 rfl rfl
  · replace H := ot c3 H
    refine e_iconst (v := (0 : Int32)) dX5_keep_10 (by decide) ?_
    refine e_istore_n dX5_keep_11 (Nat.le_of_ble_eq_true rfl) rfl rfl ?_
    replace H := ob H; obtain ⟨q12, c13, H⟩ := H
    have e14 := p_X5_keep_12 1000 c13
    have hY15 := hY.pr okX e14
    refine e_wk (lk1 (lk1 (lk1 (lk1 lkn)))) (w_X5_keep_12 d 1000 hY c13 ?_)
    obtain rfl := Option.some.inj H
    exact z_vret rfl dX5_keep_38 rfl rfl
-- X8_change
def f_X8_change (p0 : Nat) (p1 : Int32) (p2 : Int32) (h : HS) : Option HS := (if p1 = (0 : Int32) then (if isSt (hT h p0) = true then (some (sI h p0 4 p2)) else none) else (if p1 = (1 : Int32) then (if isSt (hT h p0) = true then (some (sI h p0 5 p2)) else none) else (if p1 = (2 : Int32) then (if isSt (hT h p0) = true then (some (sI h p0 6 p2)) else none) else (if isSt (hT h p0) = true then (some (sI h p0 7 p2)) else none))))
set_option maxHeartbeats 4000000 in
set_option maxRecDepth 20000 in
theorem p_X8_change {p0 : Nat} {p1 : Int32} {p2 : Int32} {h : HS} {q : HS} (H : f_X8_change p0 p1 p2 h = some q) : Pr h q := by
  unfold f_X8_change at H
  replace H := oi H; obtain ⟨k1, H⟩ | ⟨k1, H⟩ := H
  · replace H := og H; obtain ⟨g7, H⟩ := H
    obtain rfl := Option.some.inj H
    exact (Pr.rf.sI)
  · replace H := oi H; obtain ⟨k2, H⟩ | ⟨k2, H⟩ := H
    · replace H := og H; obtain ⟨g6, H⟩ := H
      obtain rfl := Option.some.inj H
      exact (Pr.rf.sI)
    · replace H := oi H; obtain ⟨k3, H⟩ | ⟨k3, H⟩ := H
      · replace H := og H; obtain ⟨g5, H⟩ := H
        obtain rfl := Option.some.inj H
        exact (Pr.rf.sI)
      · replace H := og H; obtain ⟨g4, H⟩ := H
        obtain rfl := Option.some.inj H
        exact (Pr.rf.sI)
set_option maxHeartbeats 4000000 in
set_option maxRecDepth 20000 in
theorem t_X8_change {G : GE} (d : Nat) {p0 : Nat} {p1 : Int32} {p2 : Int32} {h : HS} {q : HS} (H : f_X8_change p0 p1 p2 h = some q) : CE G (d + 0) yX8_change miX8_change [.ref p0, .int p1, .int p2] h (none) (q) := by
  unfold f_X8_change at H
  refine ce_of rfl (by decide) (fun q => by first | rfl | cases q) (Nat.le_of_ble_eq_true rfl) rfl ?_
  refine e_iload_n dX8_change_0 rfl ?_
  by_cases k1 : p1 = (0 : Int32)
  · replace H := ot k1 H
    refine e_tableIn (off := 27) (tgt := 28) dX8_change_1 (by rw [k1]; decide) (by rw [k1]; decide) (by rw [k1]; rfl) (by decide) ?_
    refine g_aload_n dX8_change_28 rfl rfl ?_
    refine e_iload_n dX8_change_29 rfl ?_
    replace H := og H; obtain ⟨g7, H⟩ := H
    refine pmX8_31_isSt g7 dX8_change_30 ?_
    refine e_goto (tgt := 57) dX8_change_33 (by decide) ?_
    obtain rfl := Option.some.inj H
    exact z_vret rfl dX8_change_57 rfl rfl
  · replace H := of_ k1 H
    by_cases k2 : p1 = (1 : Int32)
    · replace H := ot k2 H
      refine e_tableIn (off := 35) (tgt := 36) dX8_change_1 (by rw [k2]; decide) (by rw [k2]; decide) (by rw [k2]; rfl) (by decide) ?_
      refine g_aload_n dX8_change_36 rfl rfl ?_
      refine e_iload_n dX8_change_37 rfl ?_
      replace H := og H; obtain ⟨g6, H⟩ := H
      refine pmX8_7_isSt g6 dX8_change_38 ?_
      refine e_goto (tgt := 57) dX8_change_41 (by decide) ?_
      obtain rfl := Option.some.inj H
      exact z_vret rfl dX8_change_57 rfl rfl
    · replace H := of_ k2 H
      by_cases k3 : p1 = (2 : Int32)
      · replace H := ot k3 H
        refine e_tableIn (off := 43) (tgt := 44) dX8_change_1 (by rw [k3]; decide) (by rw [k3]; decide) (by rw [k3]; rfl) (by decide) ?_
        refine g_aload_n dX8_change_44 rfl rfl ?_
        refine e_iload_n dX8_change_45 rfl ?_
        replace H := og H; obtain ⟨g5, H⟩ := H
        refine pmX8_13_isSt g5 dX8_change_46 ?_
        refine e_goto (tgt := 57) dX8_change_49 (by decide) ?_
        obtain rfl := Option.some.inj H
        exact z_vret rfl dX8_change_57 rfl rfl
      · replace H := of_ k3 H
        refine e_tableOut (tgt := 52) dX8_change_1 (by have q0 : p1.toInt ≠ 0 := i32_ne k1; have q1 : p1.toInt ≠ 1 := i32_ne k2; have q2 : p1.toInt ≠ 2 := i32_ne k3; omega) (by decide) ?_
        refine g_aload_n dX8_change_52 rfl rfl ?_
        refine e_iload_n dX8_change_53 rfl ?_
        replace H := og H; obtain ⟨g4, H⟩ := H
        refine pmX8_16_isSt g4 dX8_change_54 ?_
        obtain rfl := Option.some.inj H
        exact z_vret rfl dX8_change_57 rfl rfl
-- vd_changeX5
def f_V_change (p0 : Nat) (p1 : Int32) (p2 : Int32) (h : HS) : Option HS := if hT h p0 = 10 then f_X8_change p0 p1 p2 h else if hT h p0 = 6 then f_X8_change p0 p1 p2 h else if hT h p0 = 12 then f_X8_change p0 p1 p2 h else if hT h p0 = 9 then f_X8_change p0 p1 p2 h else if hT h p0 = 2 then f_X8_change p0 p1 p2 h else if hT h p0 = 3 then f_X8_change p0 p1 p2 h else none
theorem p_V_change {p0 : Nat} {p1 : Int32} {p2 : Int32} {h : HS} {q : HS} (H : f_V_change p0 p1 p2 h = some q) : Pr h q := by
  unfold f_V_change at H
  replace H := oi H; obtain ⟨-, H⟩ | ⟨-, H⟩ := H
  · exact p_X8_change H
  replace H := oi H; obtain ⟨-, H⟩ | ⟨-, H⟩ := H
  · exact p_X8_change H
  replace H := oi H; obtain ⟨-, H⟩ | ⟨-, H⟩ := H
  · exact p_X8_change H
  replace H := oi H; obtain ⟨-, H⟩ | ⟨-, H⟩ := H
  · exact p_X8_change H
  replace H := oi H; obtain ⟨-, H⟩ | ⟨-, H⟩ := H
  · exact p_X8_change H
  replace H := oi H; obtain ⟨-, H⟩ | ⟨-, H⟩ := H
  · exact p_X8_change H
  exact nz H
theorem vrchange_X5 {G : GE} {D : Nat} {M : ByteArray × Nat × Option FieldType × Bool} {pc : Nat} {ls st : List Value} {r : Option Value} {h' : HS} {p0 : Nat} {p1 : Int32} {p2 : Int32} {h : HS} {q : HS} (c : f_V_change p0 p1 p2 h = some q) (d : Nat) (hd : decode M.1 pc = .ok (.invokevirtual 39, 3)) (hw : wS st ≤ 8) (hdd : d + 0 + 1 ≤ D) (kk : En G D (RX5, M) (pc + 3) ls (st) q r h') : En G D (RX5, M) pc ls (.int p2 :: .int p1 :: .ref p0 :: st) h r h' := by
  unfold f_V_change at c
  replace c := oi c; obtain ⟨g, c⟩ | ⟨-, c⟩ := c
  · exact v0 g (by decide) rfl rfl lmX5_39 liX8_change lvX8_X8_change msX8_change hd (t_X8_change (d + 0) c) rfl hw (by omega) kk
  replace c := oi c; obtain ⟨g, c⟩ | ⟨-, c⟩ := c
  · exact e_callU (owner := RX8) g (by decide) rfl lmX5_39 lqX8_change liX8_change lvX4_X8_change liX8_change msX8_change.2.1 ⟨by decide, by decide, by show _ = some (2 : Nat); decide⟩ msX8_change hd hw (by omega) rfl (t_X8_change (d + 0) c) kk
  replace c := oi c; obtain ⟨g, c⟩ | ⟨-, c⟩ := c
  · exact e_callU (owner := RX8) g (by decide) rfl lmX5_39 lqX8_change liX8_change lvX10_X8_change liX8_change msX8_change.2.1 ⟨by decide, by decide, by show _ = some (2 : Nat); decide⟩ msX8_change hd hw (by omega) rfl (t_X8_change (d + 0) c) kk
  replace c := oi c; obtain ⟨g, c⟩ | ⟨-, c⟩ := c
  · exact e_callU (owner := RX8) g (by decide) rfl lmX5_39 lqX8_change liX8_change lvX7_X8_change liX8_change msX8_change.2.1 ⟨by decide, by decide, by show _ = some (2 : Nat); decide⟩ msX8_change hd hw (by omega) rfl (t_X8_change (d + 0) c) kk
  replace c := oi c; obtain ⟨g, c⟩ | ⟨-, c⟩ := c
  · exact e_callU (owner := RX8) g (by decide) rfl lmX5_39 lqX8_change liX8_change lvX0_X8_change liX8_change msX8_change.2.1 ⟨by decide, by decide, by show _ = some (2 : Nat); decide⟩ msX8_change hd hw (by omega) rfl (t_X8_change (d + 0) c) kk
  replace c := oi c; obtain ⟨g, c⟩ | ⟨-, c⟩ := c
  · exact e_callU (owner := RX8) g (by decide) rfl lmX5_39 lqX8_change liX8_change lvX1_X8_change liX8_change msX8_change.2.1 ⟨by decide, by decide, by show _ = some (2 : Nat); decide⟩ msX8_change hd hw (by omega) rfl (t_X8_change (d + 0) c) kk
  exact nz c
-- X5_layBack
def l_X5_layBack_12 (y1 : Int32) (y2 : Nat)  : Nat → Int32 → HS → Option HS
  | 0, _, _ => none
  | n + 1, x3, h => (if (4 : Int32) ≤ x3 then (some h) else (if ixb ((y1 * (4 : Int32)) + x3) 32 = true then (Option.bind (f_V_change y2 x3 (hI h 45 ((y1 * (4 : Int32)) + x3).toNatClampNeg) h) (fun q12 => (l_X5_layBack_12 y1 y2 n (x3 + (1 : Int32)) q12))) else none))
set_option maxHeartbeats 4000000 in
set_option maxRecDepth 20000 in
theorem p_X5_layBack_12 {y1 : Int32} {y2 : Nat} : ∀ (n : Nat) {x3 : Int32} {h : HS} {q : HS}, l_X5_layBack_12 y1 y2 n x3 h = some q → Pr h q := by
  intro n
  induction n with
  | zero => intro x3 h q H; exact nz H
  | succ n ih =>
    intro x3 h q H
    unfold l_X5_layBack_12 at H
    replace H := oi H; obtain ⟨c10, H⟩ | ⟨c10, H⟩ := H
    · obtain rfl := Option.some.inj H
      exact Pr.rf
    · replace H := og H; obtain ⟨g11, H⟩ := H
      replace H := ob H; obtain ⟨q12, c13, H⟩ := H
      have e14 := p_V_change c13
      exact e14.tr (ih H)
set_option maxHeartbeats 4000000 in
set_option maxRecDepth 20000 in
theorem w_X5_layBack_12 {G : GE} (d : Nat) {y1 : Int32} {y2 : Nat} {r : Option Value} {h' : HS}  : ∀ (n : Nat) {x3 : Int32} {h : HS} {q : HS}, LY TX h → l_X5_layBack_12 y1 y2 n x3 h = some q → En G (d + 1) miX5_layBack 38 [dum, dum, dum, dum] [] q r h' → En G (d + 1) miX5_layBack 12 [.ref 44, .int y1, .ref y2, .int x3] [] h r h' := by
  intro n
  induction n with
  | zero => intro x3 h q hYTX H kE; exact nz H
  | succ n ih =>
    intro x3 h q hYTX H kE
    unfold l_X5_layBack_12 at H
    refine e_iload_n dX5_layBack_12 rfl ?_
    refine e_iconst (v := (4 : Int32)) dX5_layBack_13 (by decide) ?_
    refine e_icmp_ge (tgt := 38) dX5_layBack_14 (by decide) (fun c10 => ?_) (fun c10 => ?_)
    · replace H := ot c10 H
      obtain rfl := Option.some.inj H
      exact e_wk (lk0 (lk0 (lk0 (lk0 lkn)))) kE
    · replace H := of_ c10 H
      refine g_aload_n dX5_layBack_17 rfl rfl ?_
      refine e_iload_n dX5_layBack_18 rfl ?_
      refine g_aload_n dX5_layBack_19 rfl rfl ?_
      refine e_getR (hYTX.t 12 rfl) flX5_25_6 dX5_layBack_20 rfl (hYTX.r 21 rfl) ?_
      refine e_iload_n dX5_layBack_23 rfl ?_
      refine e_iconst (v := (4 : Int32)) dX5_layBack_24 (by decide) ?_
      refine e_imul dX5_layBack_25 ?_
      refine e_iload_n dX5_layBack_26 rfl ?_
      refine e_iadd dX5_layBack_27 ?_
      replace H := og H; obtain ⟨g11, H⟩ := H
      refine e_iald (hYTX.t 13 rfl) (ixb_y (hYTX.n 13 rfl) g11) dX5_layBack_28 ?_
      replace H := ob H; obtain ⟨q12, c13, H⟩ := H
      refine vrchange_X5 c13 (d + 0) dX5_layBack_29 (Nat.le_of_ble_eq_true rfl) (Nat.le_refl _) ?_
      have e14 := p_V_change c13
      have hY15 := hYTX.pr okX e14
      refine e_iinc dX5_layBack_32 rfl (ii_ (by decide : Int32.ofInt (1) = (1 : Int32))) (Nat.le_of_ble_eq_true rfl) rfl rfl ?_
      refine e_goto (tgt := 12) dX5_layBack_35 (by decide) ?_
      exact e_wk (lk1 (lk1 (lk1 (lk1 lkn)))) (ih hY15 H kE)
def f_X5_layBack (p1 : Int32) (p2 : Nat) (h : HS) : Option HS := (Option.bind (f_X11_isIn p1 (0 : Int32) (7 : Int32)) (fun q1 => (if q1 = true then (Option.bind (l_X5_layBack_12 p1 p2 1000 (0 : Int32) h) (fun q16 => (some q16))) else (some h))))
set_option maxHeartbeats 4000000 in
set_option maxRecDepth 20000 in
theorem p_X5_layBack {p1 : Int32} {p2 : Nat} {h : HS} {q : HS} (H : f_X5_layBack p1 p2 h = some q) : Pr h q := by
  unfold f_X5_layBack at H
  replace H := ob H; obtain ⟨q1, c2, H⟩ := H
  replace H := oi H; obtain ⟨c3, H⟩ | ⟨c3, H⟩ := H
  · replace H := ob H; obtain ⟨q16, c17, H⟩ := H
    have e18 := p_X5_layBack_12 1000 c17
    obtain rfl := Option.some.inj H
    exact e18
  · obtain rfl := Option.some.inj H
    exact Pr.rf
set_option maxHeartbeats 4000000 in
set_option maxRecDepth 20000 in
theorem t_X5_layBack {G : GE} (d : Nat) {p1 : Int32} {p2 : Nat} {h : HS} {q : HS} (hY : LY TX h) (H : f_X5_layBack p1 p2 h = some q) : CE G (d + 1) yX5_layBack miX5_layBack [.ref 44, .int p1, .ref p2] h (none) (q) := by
  unfold f_X5_layBack at H
  refine ce_of rfl (by decide) (fun q => by first | rfl | cases q) (Nat.le_of_ble_eq_true rfl) rfl ?_
  refine e_iload_n dX5_layBack_0 rfl ?_
  refine e_iconst (v := (0 : Int32)) dX5_layBack_1 (by decide) ?_
  refine e_bipush (v := (7 : Int32)) dX5_layBack_2 (by decide) ?_
  replace H := ob H; obtain ⟨q1, c2, H⟩ := H
  refine n1 (host := RX11) (by decide) lsX11_isIn msX11_isIn dX5_layBack_4 (t_X11_isIn (d + 0) c2) rfl (Nat.le_of_ble_eq_true rfl) (Nat.le_refl _) ?_
  refine e_ifB_eq (tgt := 38) dX5_layBack_7 (by decide) (fun c3 => ?_) (fun c3 => ?_)
  · replace H := of_ (nb c3) H
    obtain rfl := Option.some.inj H
    exact z_vret rfl dX5_layBack_38 rfl rfl
  · replace H := ot c3 H
    refine e_iconst (v := (0 : Int32)) dX5_layBack_10 (by decide) ?_
    refine e_istore_n dX5_layBack_11 (Nat.le_of_ble_eq_true rfl) rfl rfl ?_
    replace H := ob H; obtain ⟨q16, c17, H⟩ := H
    have e18 := p_X5_layBack_12 1000 c17
    have hY19 := hY.pr okX e18
    refine e_wk (lk1 (lk1 (lk1 (lk1 lkn)))) (w_X5_layBack_12 d 1000 hY c17 ?_)
    obtain rfl := Option.some.inj H
    exact z_vret rfl dX5_layBack_38 rfl rfl
-- X6_init
def f_X6_init (p0 : Nat) (h : HS) : Option HS := (if hT h (hN h) = 0 then (bh (hNew h 15 (160 : Int32).toNatClampNeg (160 : Int32).toNatClampNeg) (fun h3 => (if hT h3 p0 = 8 then (if hT (sI (sR h3 p0 0 (some (hN h))) p0 1 (0 : Int32)) (hN (sI (sR h3 p0 0 (some (hN h))) p0 1 (0 : Int32))) = 0 then (bh (hNew (sI (sR h3 p0 0 (some (hN h))) p0 1 (0 : Int32)) 15 (161 : Int32).toNatClampNeg (161 : Int32).toNatClampNeg) (fun h14 => (if hT (sR h14 p0 2 (some (hN (sI (sR h3 p0 0 (some (hN h))) p0 1 (0 : Int32))))) (hN (sR h14 p0 2 (some (hN (sI (sR h3 p0 0 (some (hN h))) p0 1 (0 : Int32)))))) = 0 then (bh (hNew (sR h14 p0 2 (some (hN (sI (sR h3 p0 0 (some (hN h))) p0 1 (0 : Int32))))) 15 (161 : Int32).toNatClampNeg (161 : Int32).toNatClampNeg) (fun h28 => (if hT (sI (sI (sR h28 p0 3 (some (hN (sR h14 p0 2 (some (hN (sI (sR h3 p0 0 (some (hN h))) p0 1 (0 : Int32)))))))) p0 4 (0 : Int32)) p0 5 (0 : Int32)) (hN (sI (sI (sR h28 p0 3 (some (hN (sR h14 p0 2 (some (hN (sI (sR h3 p0 0 (some (hN h))) p0 1 (0 : Int32)))))))) p0 4 (0 : Int32)) p0 5 (0 : Int32))) = 0 then (bh (hNew (sI (sI (sR h28 p0 3 (some (hN (sR h14 p0 2 (some (hN (sI (sR h3 p0 0 (some (hN h))) p0 1 (0 : Int32)))))))) p0 4 (0 : Int32)) p0 5 (0 : Int32)) 15 (160 : Int32).toNatClampNeg (160 : Int32).toNatClampNeg) (fun h45 => (bh (sR h45 p0 6 (some (hN (sI (sI (sR h28 p0 3 (some (hN (sR h14 p0 2 (some (hN (sI (sR h3 p0 0 (some (hN h))) p0 1 (0 : Int32)))))))) p0 4 (0 : Int32)) p0 5 (0 : Int32))))) (fun h58 => (some (sI (sI h58 p0 7 (0 : Int32)) p0 8 (-1 : Int32))))))) else none))) else none))) else none) else none))) else none)
set_option maxHeartbeats 4000000 in
set_option maxRecDepth 20000 in
theorem p_X6_init {p0 : Nat} {h : HS} {q : HS} (H : f_X6_init p0 h = some q) : Prw h q := by
  unfold f_X6_init at H
  replace H := og H; obtain ⟨g1, H⟩ := H
  have e2 := Prw.nw (h := h) (kd := 15) (ln := (160 : Int32).toNatClampNeg) (ns := (160 : Int32).toNatClampNeg) Prw.rf g1
  replace H := obh H; obtain ⟨h3, e4, H⟩ := H
  replace H := og H; obtain ⟨g6, H⟩ := H
  have e7 := Prw.sR (h := h3) (a := p0) (k := 0) (v := some (hN h)) Prw.rf 
  replace H := og H; obtain ⟨g10, H⟩ := H
  have e11 := Prw.nw (h := (sI (sR h3 p0 0 (some (hN h))) p0 1 (0 : Int32))) (kd := 15) (ln := (161 : Int32).toNatClampNeg) (ns := (161 : Int32).toNatClampNeg) Prw.rf g10
  replace H := obh H; obtain ⟨h14, e15, H⟩ := H
  have e19 := Prw.sR (h := h14) (a := p0) (k := 2) (v := some (hN (sI (sR h3 p0 0 (some (hN h))) p0 1 (0 : Int32)))) Prw.rf 
  replace H := og H; obtain ⟨g23, H⟩ := H
  have e24 := Prw.nw (h := (sR h14 p0 2 (some (hN (sI (sR h3 p0 0 (some (hN h))) p0 1 (0 : Int32)))))) (kd := 15) (ln := (161 : Int32).toNatClampNeg) (ns := (161 : Int32).toNatClampNeg) Prw.rf g23
  replace H := obh H; obtain ⟨h28, e29, H⟩ := H
  have e34 := Prw.sR (h := h28) (a := p0) (k := 3) (v := some (hN (sR h14 p0 2 (some (hN (sI (sR h3 p0 0 (some (hN h))) p0 1 (0 : Int32))))))) Prw.rf 
  replace H := og H; obtain ⟨g39, H⟩ := H
  have e40 := Prw.nw (h := (sI (sI (sR h28 p0 3 (some (hN (sR h14 p0 2 (some (hN (sI (sR h3 p0 0 (some (hN h))) p0 1 (0 : Int32)))))))) p0 4 (0 : Int32)) p0 5 (0 : Int32))) (kd := 15) (ln := (160 : Int32).toNatClampNeg) (ns := (160 : Int32).toNatClampNeg) Prw.rf g39
  replace H := obh H; obtain ⟨h45, e46, H⟩ := H
  have e52 := Prw.sR (h := h45) (a := p0) (k := 6) (v := some (hN (sI (sI (sR h28 p0 3 (some (hN (sR h14 p0 2 (some (hN (sI (sR h3 p0 0 (some (hN h))) p0 1 (0 : Int32)))))))) p0 4 (0 : Int32)) p0 5 (0 : Int32)))) Prw.rf 
  replace H := obh H; obtain ⟨h58, e59, H⟩ := H
  obtain rfl := Option.some.inj H
  exact (((kW e59 ((kW e46 (((((kW e29 (((kW e15 ((((kW e4 e2).tr e7).sI).tr e11)).tr e19).tr e24)).tr e34).sI).sI).tr e40)).tr e52)).sI).sI)
set_option maxHeartbeats 4000000 in
set_option maxRecDepth 20000 in
theorem t_X6_init {G : GE} (d : Nat) {p0 : Nat} {h : HS} {q : HS} (H : f_X6_init p0 h = some q) : CE G (d + 1) yX6_init miX6_init [.ref p0] h (none) (q) := by
  unfold f_X6_init at H
  refine ce_of rfl (by decide) (fun q => by first | rfl | cases q) (Nat.le_of_ble_eq_true rfl) rfl ?_
  refine g_aload_n dX6_init_0 rfl rfl ?_
  refine e_objI lmX6_3 dX6_init_1 (Nat.le_of_ble_eq_true rfl) (by omega) ?_
  refine g_aload_n dX6_init_4 rfl rfl ?_
  refine e_sipush (v := (160 : Int32)) dX6_init_5 (by decide) ?_
  replace H := og H; obtain ⟨g1, H⟩ := H
  refine e_newa (atype := .int) (kd := 15) rfl (by decide) la_int (by decide) (by decide) dX6_init_8 ?_
  have e2 := Prw.nw (h := h) (kd := 15) (ln := (160 : Int32).toNatClampNeg) (ns := (160 : Int32).toNatClampNeg) Prw.rf g1
  replace H := obh H; obtain ⟨h3, e4, H⟩ := H
  refine e_hq e4 ?_
  have f5 := kT e4 hT_new
  replace H := og H; obtain ⟨g6, H⟩ := H
  refine e_putR g6 fpX6_11_7i (by first | exact Or.inl ⟨_, rfl⟩ | exact Or.inr ⟨_, rfl⟩) dX6_init_10 ?_
  have e7 := Prw.sR (h := h3) (a := p0) (k := 0) (v := some (hN h)) Prw.rf 
  have f8 := e7.k f5 (by decide)
  have f9 := e7.k g6 (by decide)
  refine g_aload_n dX6_init_13 rfl rfl ?_
  refine e_iconst (v := (0 : Int32)) dX6_init_14 (by decide) ?_
  refine e_putI f9 fpX6_15_7i rfl dX6_init_15 ?_
  refine g_aload_n dX6_init_18 rfl rfl ?_
  refine e_sipush (v := (161 : Int32)) dX6_init_19 (by decide) ?_
  replace H := og H; obtain ⟨g10, H⟩ := H
  refine e_newa (atype := .int) (kd := 15) rfl (by decide) la_int (by decide) (by decide) dX6_init_22 ?_
  have e11 := Prw.nw (h := (sI (sR h3 p0 0 (some (hN h))) p0 1 (0 : Int32))) (kd := 15) (ln := (161 : Int32).toNatClampNeg) (ns := (161 : Int32).toNatClampNeg) Prw.rf g10
  have f12 := e11.k (kI f8) (by decide)
  have f13 := e11.k (kI f9) (by decide)
  replace H := obh H; obtain ⟨h14, e15, H⟩ := H
  refine e_hq e15 ?_
  have f16 := kT e15 f12
  have f17 := kT e15 f13
  have f18 := kT e15 hT_new
  refine e_putR f17 fpX6_19_7i (by first | exact Or.inl ⟨_, rfl⟩ | exact Or.inr ⟨_, rfl⟩) dX6_init_24 ?_
  have e19 := Prw.sR (h := h14) (a := p0) (k := 2) (v := some (hN (sI (sR h3 p0 0 (some (hN h))) p0 1 (0 : Int32)))) Prw.rf 
  have f20 := e19.k f16 (by decide)
  have f21 := e19.k f17 (by decide)
  have f22 := e19.k f18 (by decide)
  refine g_aload_n dX6_init_27 rfl rfl ?_
  refine e_sipush (v := (161 : Int32)) dX6_init_28 (by decide) ?_
  replace H := og H; obtain ⟨g23, H⟩ := H
  refine e_newa (atype := .int) (kd := 15) rfl (by decide) la_int (by decide) (by decide) dX6_init_31 ?_
  have e24 := Prw.nw (h := (sR h14 p0 2 (some (hN (sI (sR h3 p0 0 (some (hN h))) p0 1 (0 : Int32)))))) (kd := 15) (ln := (161 : Int32).toNatClampNeg) (ns := (161 : Int32).toNatClampNeg) Prw.rf g23
  have f25 := e24.k f20 (by decide)
  have f26 := e24.k f21 (by decide)
  have f27 := e24.k f22 (by decide)
  replace H := obh H; obtain ⟨h28, e29, H⟩ := H
  refine e_hq e29 ?_
  have f30 := kT e29 f25
  have f31 := kT e29 f26
  have f32 := kT e29 f27
  have f33 := kT e29 hT_new
  refine e_putR f31 fpX6_22_7i (by first | exact Or.inl ⟨_, rfl⟩ | exact Or.inr ⟨_, rfl⟩) dX6_init_33 ?_
  have e34 := Prw.sR (h := h28) (a := p0) (k := 3) (v := some (hN (sR h14 p0 2 (some (hN (sI (sR h3 p0 0 (some (hN h))) p0 1 (0 : Int32))))))) Prw.rf 
  have f35 := e34.k f30 (by decide)
  have f36 := e34.k f31 (by decide)
  have f37 := e34.k f32 (by decide)
  have f38 := e34.k f33 (by decide)
  refine g_aload_n dX6_init_36 rfl rfl ?_
  refine e_iconst (v := (0 : Int32)) dX6_init_37 (by decide) ?_
  refine e_putI f36 fpX6_25_7i rfl dX6_init_38 ?_
  refine g_aload_n dX6_init_41 rfl rfl ?_
  refine e_iconst (v := (0 : Int32)) dX6_init_42 (by decide) ?_
  refine e_putI (kI f36) fpX6_28_7i rfl dX6_init_43 ?_
  refine g_aload_n dX6_init_46 rfl rfl ?_
  refine e_sipush (v := (160 : Int32)) dX6_init_47 (by decide) ?_
  replace H := og H; obtain ⟨g39, H⟩ := H
  refine e_newa (atype := .int) (kd := 15) rfl (by decide) la_int (by decide) (by decide) dX6_init_50 ?_
  have e40 := Prw.nw (h := (sI (sI (sR h28 p0 3 (some (hN (sR h14 p0 2 (some (hN (sI (sR h3 p0 0 (some (hN h))) p0 1 (0 : Int32)))))))) p0 4 (0 : Int32)) p0 5 (0 : Int32))) (kd := 15) (ln := (160 : Int32).toNatClampNeg) (ns := (160 : Int32).toNatClampNeg) Prw.rf g39
  have f41 := e40.k (kI (kI f35)) (by decide)
  have f42 := e40.k (kI (kI f36)) (by decide)
  have f43 := e40.k (kI (kI f37)) (by decide)
  have f44 := e40.k (kI (kI f38)) (by decide)
  replace H := obh H; obtain ⟨h45, e46, H⟩ := H
  refine e_hq e46 ?_
  have f47 := kT e46 f41
  have f48 := kT e46 f42
  have f49 := kT e46 f43
  have f50 := kT e46 f44
  have f51 := kT e46 hT_new
  refine e_putR f48 fpX6_31_7i (by first | exact Or.inl ⟨_, rfl⟩ | exact Or.inr ⟨_, rfl⟩) dX6_init_52 ?_
  have e52 := Prw.sR (h := h45) (a := p0) (k := 6) (v := some (hN (sI (sI (sR h28 p0 3 (some (hN (sR h14 p0 2 (some (hN (sI (sR h3 p0 0 (some (hN h))) p0 1 (0 : Int32)))))))) p0 4 (0 : Int32)) p0 5 (0 : Int32)))) Prw.rf 
  have f53 := e52.k f47 (by decide)
  have f54 := e52.k f48 (by decide)
  have f55 := e52.k f49 (by decide)
  have f56 := e52.k f50 (by decide)
  have f57 := e52.k f51 (by decide)
  replace H := obh H; obtain ⟨h58, e59, H⟩ := H
  refine e_hq e59 ?_
  have f60 := kT e59 f53
  have f61 := kT e59 f54
  have f62 := kT e59 f55
  have f63 := kT e59 f56
  have f64 := kT e59 f57
  refine g_aload_n dX6_init_55 rfl rfl ?_
  refine e_iconst (v := (0 : Int32)) dX6_init_56 (by decide) ?_
  refine e_putI f61 fpX6_34_7i rfl dX6_init_57 ?_
  refine g_aload_n dX6_init_60 rfl rfl ?_
  refine e_iconst (v := (-1 : Int32)) dX6_init_61 (by decide) ?_
  refine e_putI (kI f61) fpX6_37_7i rfl dX6_init_62 ?_
  obtain rfl := Option.some.inj H
  exact z_vret rfl dX6_init_65 rfl rfl
