-- X11_tried
def f_X11_tried (p1 : Int32) (p2 : Int32) (p3 : Int32) (p4 : Int32) (h : HS) : Option (Int32 × HS) := (Option.bind (f_X11_stallAt p1 h) (fun q1 => (om q1 (Option.bind (f_X11_handAt p2 h) (fun q5 => (om q5 (some ((-2 : Int32), h)) (fun b8 => (some ((-2 : Int32), h)))))) (fun b4 => (Option.bind (f_X11_handAt p2 h) (fun q11 => (om q11 (some ((-2 : Int32), h)) (fun b14 => (Option.bind (f_X11_isPlace p3) (fun q19 => (if q19 = true then (Option.bind (f_X11_isSeed p4) (fun q22 => (if q22 = true then (if (hI h 32 5) < (60 : Int32) then (Option.bind (f_X11_firstLot p4) (fun q26 => (Option.bind (f_X11_lands b4 b14 p3 q26 h) (fun q28 => (Option.bind (f_X11_asBit q28) (fun q30 => (Option.bind (f_X11_keepTry p1 p2 p3 q30 h) (fun q32 => (some (q30, q32)))))))))) else (some ((-4 : Int32), h))) else (some ((-2 : Int32), h))))) else (some ((-2 : Int32), h)))))))))))))
set_option maxHeartbeats 4000000 in
set_option maxRecDepth 20000 in
theorem p_X11_tried {p1 : Int32} {p2 : Int32} {p3 : Int32} {p4 : Int32} {h : HS} {q : (Int32 × HS)} (H : f_X11_tried p1 p2 p3 p4 h = some q) : Pr h q.2 := by
  unfold f_X11_tried at H
  replace H := ob H; obtain ⟨q1, c2, H⟩ := H
  replace H := oom H; obtain ⟨e3, H⟩ | ⟨b4, e3, H⟩ := H
  · replace H := ob H; obtain ⟨q5, c6, H⟩ := H
    replace H := oom H; obtain ⟨e7, H⟩ | ⟨b8, e7, H⟩ := H
    · obtain rfl := Option.some.inj H
      exact Pr.rf
    · obtain rfl := Option.some.inj H
      exact Pr.rf
  · replace H := ob H; obtain ⟨q11, c12, H⟩ := H
    replace H := oom H; obtain ⟨e13, H⟩ | ⟨b14, e13, H⟩ := H
    · obtain rfl := Option.some.inj H
      exact Pr.rf
    · replace H := ob H; obtain ⟨q19, c20, H⟩ := H
      replace H := oi H; obtain ⟨c21, H⟩ | ⟨c21, H⟩ := H
      · replace H := ob H; obtain ⟨q22, c23, H⟩ := H
        replace H := oi H; obtain ⟨c24, H⟩ | ⟨c24, H⟩ := H
        · replace H := oi H; obtain ⟨c25, H⟩ | ⟨c25, H⟩ := H
          · replace H := ob H; obtain ⟨q26, c27, H⟩ := H
            replace H := ob H; obtain ⟨q28, c29, H⟩ := H
            replace H := ob H; obtain ⟨q30, c31, H⟩ := H
            replace H := ob H; obtain ⟨q32, c33, H⟩ := H
            have e34 := p_X11_keepTry c33
            obtain rfl := Option.some.inj H
            exact e34
          · obtain rfl := Option.some.inj H
            exact Pr.rf
        · obtain rfl := Option.some.inj H
          exact Pr.rf
      · obtain rfl := Option.some.inj H
        exact Pr.rf
set_option maxHeartbeats 4000000 in
set_option maxRecDepth 20000 in
theorem t_X11_tried {G : GE} (d : Nat) {p1 : Int32} {p2 : Int32} {p3 : Int32} {p4 : Int32} {h : HS} {q : (Int32 × HS)} (hY : LY TX h) (H : f_X11_tried p1 p2 p3 p4 h = some q) : CE G (d + 5) yX11_tried miX11_tried [.ref 32, .int p1, .int p2, .int p3, .int p4] h (some (.int q.1)) (q.2) := by
  unfold f_X11_tried at H
  refine ce_of rfl (by decide) (fun q => by first | rfl | cases q) (Nat.le_of_ble_eq_true rfl) rfl ?_
  refine g_aload_n dX11_tried_0 rfl rfl ?_
  refine e_iload_n dX11_tried_1 rfl ?_
  replace H := ob H; obtain ⟨q1, c2, H⟩ := H
  replace H := oom H; obtain ⟨e3, H⟩ | ⟨b4, e3, H⟩ := H
  · refine v1 (hY.t 0 rfl) (by decide) rfl rfl lmX11_122 liX11_stallAt lvX11_X11_stallAt msX11_stallAt dX11_tried_2 (ceN e3 (t_X11_stallAt (d + 1) hY c2)) rfl (Nat.le_of_ble_eq_true rfl) (Nat.le_refl _) ?_
    refine g_astore dX11_tried_5 (Nat.le_of_ble_eq_true rfl) rfl rfl rfl ?_
    refine g_aload_n dX11_tried_7 rfl rfl ?_
    refine e_iload_n dX11_tried_8 rfl ?_
    replace H := ob H; obtain ⟨q5, c6, H⟩ := H
    replace H := oom H; obtain ⟨e7, H⟩ | ⟨b8, e7, H⟩ := H
    · refine v1 (hY.t 0 rfl) (by decide) rfl rfl lmX11_182 liX11_handAt lvX11_X11_handAt msX11_handAt dX11_tried_9 (ceN e7 (t_X11_handAt (d + 1) hY c6)) rfl (Nat.le_of_ble_eq_true rfl) (Nat.le_refl _) ?_
      refine g_astore dX11_tried_12 (Nat.le_of_ble_eq_true rfl) rfl rfl rfl ?_
      refine g_aload dX11_tried_14 rfl rfl ?_
      refine e_ifnullN (tgt := 39) dX11_tried_16 (by decide) ?_
      refine e_bipush (v := (-2 : Int32)) dX11_tried_39 (by decide) ?_
      obtain rfl := Option.some.inj H
      exact z_iret rfl rfl dX11_tried_41 rfl rfl
    · refine v1 (hY.t 0 rfl) (by decide) rfl rfl lmX11_182 liX11_handAt lvX11_X11_handAt msX11_handAt dX11_tried_9 (ceS e7 (t_X11_handAt (d + 1) hY c6)) rfl (Nat.le_of_ble_eq_true rfl) (Nat.le_refl _) ?_
      refine g_astore dX11_tried_12 (Nat.le_of_ble_eq_true rfl) rfl rfl rfl ?_
      refine g_aload dX11_tried_14 rfl rfl ?_
      refine e_ifnullN (tgt := 39) dX11_tried_16 (by decide) ?_
      refine e_bipush (v := (-2 : Int32)) dX11_tried_39 (by decide) ?_
      obtain rfl := Option.some.inj H
      exact z_iret rfl rfl dX11_tried_41 rfl rfl
  · refine v1 (hY.t 0 rfl) (by decide) rfl rfl lmX11_122 liX11_stallAt lvX11_X11_stallAt msX11_stallAt dX11_tried_2 (ceS e3 (t_X11_stallAt (d + 1) hY c2)) rfl (Nat.le_of_ble_eq_true rfl) (Nat.le_refl _) ?_
    refine g_astore dX11_tried_5 (Nat.le_of_ble_eq_true rfl) rfl rfl rfl ?_
    refine g_aload_n dX11_tried_7 rfl rfl ?_
    refine e_iload_n dX11_tried_8 rfl ?_
    replace H := ob H; obtain ⟨q11, c12, H⟩ := H
    replace H := oom H; obtain ⟨e13, H⟩ | ⟨b14, e13, H⟩ := H
    · refine v1 (hY.t 0 rfl) (by decide) rfl rfl lmX11_182 liX11_handAt lvX11_X11_handAt msX11_handAt dX11_tried_9 (ceN e13 (t_X11_handAt (d + 1) hY c12)) rfl (Nat.le_of_ble_eq_true rfl) (Nat.le_refl _) ?_
      refine g_astore dX11_tried_12 (Nat.le_of_ble_eq_true rfl) rfl rfl rfl ?_
      refine g_aload dX11_tried_14 rfl rfl ?_
      refine e_ifnull dX11_tried_16 ?_
      refine g_aload dX11_tried_19 rfl rfl ?_
      refine e_ifnullN (tgt := 39) dX11_tried_21 (by decide) ?_
      refine e_bipush (v := (-2 : Int32)) dX11_tried_39 (by decide) ?_
      obtain rfl := Option.some.inj H
      exact z_iret rfl rfl dX11_tried_41 rfl rfl
    · refine v1 (hY.t 0 rfl) (by decide) rfl rfl lmX11_182 liX11_handAt lvX11_X11_handAt msX11_handAt dX11_tried_9 (ceS e13 (t_X11_handAt (d + 1) hY c12)) rfl (Nat.le_of_ble_eq_true rfl) (Nat.le_refl _) ?_
      refine g_astore dX11_tried_12 (Nat.le_of_ble_eq_true rfl) rfl rfl rfl ?_
      refine g_aload dX11_tried_14 rfl rfl ?_
      refine e_ifnull dX11_tried_16 ?_
      refine g_aload dX11_tried_19 rfl rfl ?_
      refine e_ifnull dX11_tried_21 ?_
      refine e_iload_n dX11_tried_24 rfl ?_
      replace H := ob H; obtain ⟨q19, c20, H⟩ := H
      refine s1 lmX11_110 lsX11_isPlace msX11_isPlace dX11_tried_25 (t_X11_isPlace (d + 4) c20) rfl (Nat.le_of_ble_eq_true rfl) (Nat.le_refl _) ?_
      refine e_ifB_eq (tgt := 39) dX11_tried_28 (by decide) (fun c21 => ?_) (fun c21 => ?_)
      · replace H := of_ (nb c21) H
        refine e_bipush (v := (-2 : Int32)) dX11_tried_39 (by decide) ?_
        obtain rfl := Option.some.inj H
        exact z_iret rfl rfl dX11_tried_41 rfl rfl
      · replace H := ot c21 H
        refine e_iload dX11_tried_31 rfl ?_
        replace H := ob H; obtain ⟨q22, c23, H⟩ := H
        refine s1 lmX11_228 lsX11_isSeed msX11_isSeed dX11_tried_33 (t_X11_isSeed (d + 3) c23) rfl (Nat.le_of_ble_eq_true rfl) (Nat.le_refl _) ?_
        refine e_ifB_ne (tgt := 42) dX11_tried_36 (by decide) (fun c24 => ?_) (fun c24 => ?_)
        · replace H := ot c24 H
          refine g_aload_n dX11_tried_42 rfl rfl ?_
          refine e_getI (hY.t 0 rfl) flX11_30_12 dX11_tried_43 rfl ?_
          refine e_bipush (v := (60 : Int32)) dX11_tried_46 (by decide) ?_
          refine e_icmp_lt (tgt := 54) dX11_tried_48 (by decide) (fun c25 => ?_) (fun c25 => ?_)
          · replace H := ot c25 H
            refine g_aload dX11_tried_54 rfl rfl ?_
            refine g_aload dX11_tried_56 rfl rfl ?_
            refine e_iload_n dX11_tried_58 rfl ?_
            refine e_iload dX11_tried_59 rfl ?_
            replace H := ob H; obtain ⟨q26, c27, H⟩ := H
            refine s1 lmX11_231 lsX11_firstLot msX11_firstLot dX11_tried_61 (t_X11_firstLot (d + 4) c27) rfl (Nat.le_of_ble_eq_true rfl) (Nat.le_refl _) ?_
            replace H := ob H; obtain ⟨q28, c29, H⟩ := H
            refine s1 lmX11_235 lsX11_lands msX11_lands dX11_tried_64 (t_X11_lands (d + 0) c29) rfl (Nat.le_of_ble_eq_true rfl) (Nat.le_refl _) ?_
            replace H := ob H; obtain ⟨q30, c31, H⟩ := H
            refine s1 lmX11_173 lsX11_asBit msX11_asBit dX11_tried_67 (t_X11_asBit (d + 4) c31) rfl (Nat.le_of_ble_eq_true rfl) (Nat.le_refl _) ?_
            refine e_istore dX11_tried_70 (Nat.le_of_ble_eq_true rfl) rfl rfl ?_
            refine g_aload_n dX11_tried_72 rfl rfl ?_
            refine e_iload_n dX11_tried_73 rfl ?_
            refine e_iload_n dX11_tried_74 rfl ?_
            refine e_iload_n dX11_tried_75 rfl ?_
            refine e_iload dX11_tried_76 rfl ?_
            replace H := ob H; obtain ⟨q32, c33, H⟩ := H
            refine v0 (hY.t 0 rfl) (by decide) rfl rfl lmX11_239 liX11_keepTry lvX11_X11_keepTry msX11_keepTry dX11_tried_78 (t_X11_keepTry (d + 0) hY c33) rfl (Nat.le_of_ble_eq_true rfl) (Nat.le_refl _) ?_
            have e34 := p_X11_keepTry c33
            have hY35 := hY.pr okX e34
            refine e_iload dX11_tried_81 rfl ?_
            obtain rfl := Option.some.inj H
            exact z_iret rfl rfl dX11_tried_83 rfl rfl
          · replace H := of_ c25 H
            refine e_bipush (v := (-4 : Int32)) dX11_tried_51 (by decide) ?_
            obtain rfl := Option.some.inj H
            exact z_iret rfl rfl dX11_tried_53 rfl rfl
        · replace H := of_ (nb c24) H
          refine e_bipush (v := (-2 : Int32)) dX11_tried_39 (by decide) ?_
          obtain rfl := Option.some.inj H
          exact z_iret rfl rfl dX11_tried_41 rfl rfl
-- X11_isTry
def f_X11_isTry (p1 : Int32) (p2 : Int32) (p3 : Int32) (p4 : Int32) (h : HS) : Option Bool := (Option.bind (f_X11_stallAt p1 h) (fun q1 => (om q1 (some false) (fun b4 => (Option.bind (f_X11_handAt p2 h) (fun q7 => (om q7 (some false) (fun b10 => (Option.bind (f_X11_isPlace p3) (fun q13 => (if q13 = true then (Option.bind (f_X11_isBit p4) (fun q16 => (if q16 = true then (some true) else (some false)))) else (some false))))))))))))
set_option maxHeartbeats 4000000 in
set_option maxRecDepth 20000 in
theorem t_X11_isTry {G : GE} (d : Nat) {p1 : Int32} {p2 : Int32} {p3 : Int32} {p4 : Int32} {h : HS} {q : Bool} (hY : LY TX h) (H : f_X11_isTry p1 p2 p3 p4 h = some q) : CE G (d + 4) yX11_isTry miX11_isTry [.ref 32, .int p1, .int p2, .int p3, .int p4] h (some (.int (b2i q))) (h) := by
  unfold f_X11_isTry at H
  refine ce_of rfl (by decide) (fun q => by first | rfl | cases q) (Nat.le_of_ble_eq_true rfl) rfl ?_
  refine g_aload_n dX11_isTry_0 rfl rfl ?_
  refine e_iload_n dX11_isTry_1 rfl ?_
  replace H := ob H; obtain ⟨q1, c2, H⟩ := H
  replace H := oom H; obtain ⟨e3, H⟩ | ⟨b4, e3, H⟩ := H
  · refine v1 (hY.t 0 rfl) (by decide) rfl rfl lmX11_122 liX11_stallAt lvX11_X11_stallAt msX11_stallAt dX11_isTry_2 (ceN e3 (t_X11_stallAt (d + 0) hY c2)) rfl (Nat.le_of_ble_eq_true rfl) (Nat.le_refl _) ?_
    refine e_ifnullN (tgt := 35) dX11_isTry_5 (by decide) ?_
    refine e_iconst (v := (0 : Int32)) dX11_isTry_35 (by decide) ?_
    obtain rfl := Option.some.inj H
    exact z_iret rfl rfl dX11_isTry_36 rfl rfl
  · refine v1 (hY.t 0 rfl) (by decide) rfl rfl lmX11_122 liX11_stallAt lvX11_X11_stallAt msX11_stallAt dX11_isTry_2 (ceS e3 (t_X11_stallAt (d + 0) hY c2)) rfl (Nat.le_of_ble_eq_true rfl) (Nat.le_refl _) ?_
    refine e_ifnull dX11_isTry_5 ?_
    refine g_aload_n dX11_isTry_8 rfl rfl ?_
    refine e_iload_n dX11_isTry_9 rfl ?_
    replace H := ob H; obtain ⟨q7, c8, H⟩ := H
    replace H := oom H; obtain ⟨e9, H⟩ | ⟨b10, e9, H⟩ := H
    · refine v1 (hY.t 0 rfl) (by decide) rfl rfl lmX11_182 liX11_handAt lvX11_X11_handAt msX11_handAt dX11_isTry_10 (ceN e9 (t_X11_handAt (d + 0) hY c8)) rfl (Nat.le_of_ble_eq_true rfl) (Nat.le_refl _) ?_
      refine e_ifnullN (tgt := 35) dX11_isTry_13 (by decide) ?_
      refine e_iconst (v := (0 : Int32)) dX11_isTry_35 (by decide) ?_
      obtain rfl := Option.some.inj H
      exact z_iret rfl rfl dX11_isTry_36 rfl rfl
    · refine v1 (hY.t 0 rfl) (by decide) rfl rfl lmX11_182 liX11_handAt lvX11_X11_handAt msX11_handAt dX11_isTry_10 (ceS e9 (t_X11_handAt (d + 0) hY c8)) rfl (Nat.le_of_ble_eq_true rfl) (Nat.le_refl _) ?_
      refine e_ifnull dX11_isTry_13 ?_
      refine e_iload_n dX11_isTry_16 rfl ?_
      replace H := ob H; obtain ⟨q13, c14, H⟩ := H
      refine s1 lmX11_110 lsX11_isPlace msX11_isPlace dX11_isTry_17 (t_X11_isPlace (d + 3) c14) rfl (Nat.le_of_ble_eq_true rfl) (Nat.le_refl _) ?_
      refine e_ifB_eq (tgt := 35) dX11_isTry_20 (by decide) (fun c15 => ?_) (fun c15 => ?_)
      · replace H := of_ (nb c15) H
        refine e_iconst (v := (0 : Int32)) dX11_isTry_35 (by decide) ?_
        obtain rfl := Option.some.inj H
        exact z_iret rfl rfl dX11_isTry_36 rfl rfl
      · replace H := ot c15 H
        refine e_iload dX11_isTry_23 rfl ?_
        replace H := ob H; obtain ⟨q16, c17, H⟩ := H
        refine s1 lmX11_186 lsX11_isBit msX11_isBit dX11_isTry_25 (t_X11_isBit (d + 3) c17) rfl (Nat.le_of_ble_eq_true rfl) (Nat.le_refl _) ?_
        refine e_ifB_eq (tgt := 35) dX11_isTry_28 (by decide) (fun c18 => ?_) (fun c18 => ?_)
        · replace H := of_ (nb c18) H
          refine e_iconst (v := (0 : Int32)) dX11_isTry_35 (by decide) ?_
          obtain rfl := Option.some.inj H
          exact z_iret rfl rfl dX11_isTry_36 rfl rfl
        · replace H := ot c18 H
          refine e_iconst (v := (1 : Int32)) dX11_isTry_31 (by decide) ?_
          refine e_goto (tgt := 36) dX11_isTry_32 (by decide) ?_
          obtain rfl := Option.some.inj H
          exact z_iret rfl rfl dX11_isTry_36 rfl rfl
-- X11_shown
def f_X11_shown (p1 : Int32) (p2 : Int32) (p3 : Int32) (p4 : Int32) (h : HS) : Option (Int32 × HS) := (Option.bind (f_X11_isTry p1 p2 p3 p4 h) (fun q1 => (if q1 = true then (if (hI h 32 5) < (60 : Int32) then (Option.bind (f_X11_keepTry p1 p2 p3 p4 h) (fun q5 => (some (((hI q5 32 5) - (1 : Int32)), q5)))) else (some ((-4 : Int32), h))) else (some ((-2 : Int32), h)))))
set_option maxHeartbeats 4000000 in
set_option maxRecDepth 20000 in
theorem p_X11_shown {p1 : Int32} {p2 : Int32} {p3 : Int32} {p4 : Int32} {h : HS} {q : (Int32 × HS)} (H : f_X11_shown p1 p2 p3 p4 h = some q) : Pr h q.2 := by
  unfold f_X11_shown at H
  replace H := ob H; obtain ⟨q1, c2, H⟩ := H
  replace H := oi H; obtain ⟨c3, H⟩ | ⟨c3, H⟩ := H
  · replace H := oi H; obtain ⟨c4, H⟩ | ⟨c4, H⟩ := H
    · replace H := ob H; obtain ⟨q5, c6, H⟩ := H
      have e7 := p_X11_keepTry c6
      obtain rfl := Option.some.inj H
      exact e7
    · obtain rfl := Option.some.inj H
      exact Pr.rf
  · obtain rfl := Option.some.inj H
    exact Pr.rf
set_option maxHeartbeats 4000000 in
set_option maxRecDepth 20000 in
theorem t_X11_shown {G : GE} (d : Nat) {p1 : Int32} {p2 : Int32} {p3 : Int32} {p4 : Int32} {h : HS} {q : (Int32 × HS)} (hY : LY TX h) (H : f_X11_shown p1 p2 p3 p4 h = some q) : CE G (d + 5) yX11_shown miX11_shown [.ref 32, .int p1, .int p2, .int p3, .int p4] h (some (.int q.1)) (q.2) := by
  unfold f_X11_shown at H
  refine ce_of rfl (by decide) (fun q => by first | rfl | cases q) (Nat.le_of_ble_eq_true rfl) rfl ?_
  refine g_aload_n dX11_shown_0 rfl rfl ?_
  refine e_iload_n dX11_shown_1 rfl ?_
  refine e_iload_n dX11_shown_2 rfl ?_
  refine e_iload_n dX11_shown_3 rfl ?_
  refine e_iload dX11_shown_4 rfl ?_
  replace H := ob H; obtain ⟨q1, c2, H⟩ := H
  refine v1 (hY.t 0 rfl) (by decide) rfl rfl lmX11_242 liX11_isTry lvX11_X11_isTry msX11_isTry dX11_shown_6 (t_X11_isTry (d + 0) hY c2) rfl (Nat.le_of_ble_eq_true rfl) (Nat.le_refl _) ?_
  refine e_ifB_ne (tgt := 15) dX11_shown_9 (by decide) (fun c3 => ?_) (fun c3 => ?_)
  · replace H := ot c3 H
    refine g_aload_n dX11_shown_15 rfl rfl ?_
    refine e_getI (hY.t 0 rfl) flX11_30_12 dX11_shown_16 rfl ?_
    refine e_bipush (v := (60 : Int32)) dX11_shown_19 (by decide) ?_
    refine e_icmp_lt (tgt := 27) dX11_shown_21 (by decide) (fun c4 => ?_) (fun c4 => ?_)
    · replace H := ot c4 H
      refine g_aload_n dX11_shown_27 rfl rfl ?_
      refine e_iload_n dX11_shown_28 rfl ?_
      refine e_iload_n dX11_shown_29 rfl ?_
      refine e_iload_n dX11_shown_30 rfl ?_
      refine e_iload dX11_shown_31 rfl ?_
      replace H := ob H; obtain ⟨q5, c6, H⟩ := H
      refine v0 (hY.t 0 rfl) (by decide) rfl rfl lmX11_239 liX11_keepTry lvX11_X11_keepTry msX11_keepTry dX11_shown_33 (t_X11_keepTry (d + 0) hY c6) rfl (Nat.le_of_ble_eq_true rfl) (Nat.le_refl _) ?_
      have e7 := p_X11_keepTry c6
      have hY8 := hY.pr okX e7
      refine g_aload_n dX11_shown_36 rfl rfl ?_
      refine e_getI (hY8.t 0 rfl) flX11_30_12 dX11_shown_37 rfl ?_
      refine e_iconst (v := (1 : Int32)) dX11_shown_40 (by decide) ?_
      refine e_isub dX11_shown_41 ?_
      obtain rfl := Option.some.inj H
      exact z_iret rfl rfl dX11_shown_42 rfl rfl
    · replace H := of_ c4 H
      refine e_bipush (v := (-4 : Int32)) dX11_shown_24 (by decide) ?_
      obtain rfl := Option.some.inj H
      exact z_iret rfl rfl dX11_shown_26 rfl rfl
  · replace H := of_ (nb c3) H
    refine e_bipush (v := (-2 : Int32)) dX11_shown_12 (by decide) ?_
    obtain rfl := Option.some.inj H
    exact z_iret rfl rfl dX11_shown_14 rfl rfl
-- X11_tryField
def f_X11_tryField (p1 : Int32) (p2 : Int32) (h : HS) : Option Int32 := (Option.bind (f_X11_isIn ((p1 * (5 : Int32)) + p2) (0 : Int32) ((300 : Int32) - (1 : Int32))) (fun q1 => (if q1 = true then (if ixb ((p1 * (5 : Int32)) + p2) 300 = true then (some (hI h 36 ((p1 * (5 : Int32)) + p2).toNatClampNeg)) else none) else (some (-1 : Int32)))))
set_option maxHeartbeats 4000000 in
set_option maxRecDepth 20000 in
theorem t_X11_tryField {G : GE} (d : Nat) {p1 : Int32} {p2 : Int32} {h : HS} {q : Int32} (hY : LY TX h) (H : f_X11_tryField p1 p2 h = some q) : CE G (d + 1) yX11_tryField miX11_tryField [.ref 32, .int p1, .int p2] h (some (.int q)) (h) := by
  unfold f_X11_tryField at H
  refine ce_of rfl (by decide) (fun q => by first | rfl | cases q) (Nat.le_of_ble_eq_true rfl) rfl ?_
  refine e_iload_n dX11_tryField_0 rfl ?_
  refine e_iconst (v := (5 : Int32)) dX11_tryField_1 (by decide) ?_
  refine e_imul dX11_tryField_2 ?_
  refine e_iload_n dX11_tryField_3 rfl ?_
  refine e_iadd dX11_tryField_4 ?_
  refine e_istore_n dX11_tryField_5 (Nat.le_of_ble_eq_true rfl) rfl rfl ?_
  refine e_iload_n dX11_tryField_6 rfl ?_
  refine e_iconst (v := (0 : Int32)) dX11_tryField_7 (by decide) ?_
  refine g_aload_n dX11_tryField_8 rfl rfl ?_
  refine e_getR (hY.t 0 rfl) flX11_26_12 dX11_tryField_9 rfl (hY.r 3 rfl) ?_
  refine e_alen (hY.t 4 rfl) (by decide) dX11_tryField_12 ?_
  refine e_ci (y := (300 : Int32)) (by rw [(hY.n 4 rfl)]; rfl) ?_
  refine e_iconst (v := (1 : Int32)) dX11_tryField_13 (by decide) ?_
  refine e_isub dX11_tryField_14 ?_
  replace H := ob H; obtain ⟨q1, c2, H⟩ := H
  refine s1 lmX11_106 lsX11_isIn msX11_isIn dX11_tryField_15 (t_X11_isIn (d + 0) c2) rfl (Nat.le_of_ble_eq_true rfl) (Nat.le_refl _) ?_
  refine e_ifB_eq (tgt := 30) dX11_tryField_18 (by decide) (fun c3 => ?_) (fun c3 => ?_)
  · replace H := of_ (nb c3) H
    refine e_iconst (v := (-1 : Int32)) dX11_tryField_30 (by decide) ?_
    obtain rfl := Option.some.inj H
    exact z_iret rfl rfl dX11_tryField_31 rfl rfl
  · replace H := ot c3 H
    refine g_aload_n dX11_tryField_21 rfl rfl ?_
    refine e_getR (hY.t 0 rfl) flX11_26_12 dX11_tryField_22 rfl (hY.r 3 rfl) ?_
    refine e_iload_n dX11_tryField_25 rfl ?_
    replace H := og H; obtain ⟨g4, H⟩ := H
    refine e_iald (hY.t 4 rfl) (ixb_y (hY.n 4 rfl) g4) dX11_tryField_26 ?_
    refine e_goto (tgt := 31) dX11_tryField_27 (by decide) ?_
    obtain rfl := Option.some.inj H
    exact z_iret rfl rfl dX11_tryField_31 rfl rfl
-- X11_tryTold
def f_X11_tryTold (p1 : Int32) (p2 : Int32) (h : HS) : Option Int32 := (Option.bind (f_X11_isIn p1 (0 : Int32) ((hI h 32 5) - (1 : Int32))) (fun q1 => (if q1 = true then (Option.bind (f_X11_isIn p2 (0 : Int32) (4 : Int32)) (fun q4 => (if q4 = true then (Option.bind (f_X11_tryField p1 p2 h) (fun q7 => (some q7))) else (some (-1 : Int32))))) else (some (-1 : Int32)))))
set_option maxHeartbeats 4000000 in
set_option maxRecDepth 20000 in
theorem t_X11_tryTold {G : GE} (d : Nat) {p1 : Int32} {p2 : Int32} {h : HS} {q : Int32} (hY : LY TX h) (H : f_X11_tryTold p1 p2 h = some q) : CE G (d + 2) yX11_tryTold miX11_tryTold [.ref 32, .int p1, .int p2] h (some (.int q)) (h) := by
  unfold f_X11_tryTold at H
  refine ce_of rfl (by decide) (fun q => by first | rfl | cases q) (Nat.le_of_ble_eq_true rfl) rfl ?_
  refine e_iload_n dX11_tryTold_0 rfl ?_
  refine e_iconst (v := (0 : Int32)) dX11_tryTold_1 (by decide) ?_
  refine g_aload_n dX11_tryTold_2 rfl rfl ?_
  refine e_getI (hY.t 0 rfl) flX11_30_12 dX11_tryTold_3 rfl ?_
  refine e_iconst (v := (1 : Int32)) dX11_tryTold_6 (by decide) ?_
  refine e_isub dX11_tryTold_7 ?_
  replace H := ob H; obtain ⟨q1, c2, H⟩ := H
  refine s1 lmX11_106 lsX11_isIn msX11_isIn dX11_tryTold_8 (t_X11_isIn (d + 1) c2) rfl (Nat.le_of_ble_eq_true rfl) (Nat.le_refl _) ?_
  refine e_ifB_eq (tgt := 23) dX11_tryTold_11 (by decide) (fun c3 => ?_) (fun c3 => ?_)
  · replace H := of_ (nb c3) H
    refine e_iconst (v := (-1 : Int32)) dX11_tryTold_23 (by decide) ?_
    obtain rfl := Option.some.inj H
    exact z_iret rfl rfl dX11_tryTold_24 rfl rfl
  · replace H := ot c3 H
    refine e_iload_n dX11_tryTold_14 rfl ?_
    refine e_iconst (v := (0 : Int32)) dX11_tryTold_15 (by decide) ?_
    refine e_iconst (v := (4 : Int32)) dX11_tryTold_16 (by decide) ?_
    replace H := ob H; obtain ⟨q4, c5, H⟩ := H
    refine s1 lmX11_106 lsX11_isIn msX11_isIn dX11_tryTold_17 (t_X11_isIn (d + 1) c5) rfl (Nat.le_of_ble_eq_true rfl) (Nat.le_refl _) ?_
    refine e_ifB_ne (tgt := 25) dX11_tryTold_20 (by decide) (fun c6 => ?_) (fun c6 => ?_)
    · replace H := ot c6 H
      refine g_aload_n dX11_tryTold_25 rfl rfl ?_
      refine e_iload_n dX11_tryTold_26 rfl ?_
      refine e_iload_n dX11_tryTold_27 rfl ?_
      replace H := ob H; obtain ⟨q7, c8, H⟩ := H
      refine v1 (hY.t 0 rfl) (by decide) rfl rfl lmX11_246 liX11_tryField lvX11_X11_tryField msX11_tryField dX11_tryTold_28 (t_X11_tryField (d + 0) hY c8) rfl (Nat.le_of_ble_eq_true rfl) (Nat.le_refl _) ?_
      obtain rfl := Option.some.inj H
      exact z_iret rfl rfl dX11_tryTold_31 rfl rfl
    · replace H := of_ (nb c6) H
      refine e_iconst (v := (-1 : Int32)) dX11_tryTold_23 (by decide) ?_
      obtain rfl := Option.some.inj H
      exact z_iret rfl rfl dX11_tryTold_24 rfl rfl
-- X11_waysOfTry
def f_X11_waysOfTry (p1 : Int32) (h : HS) : Option Int32 := (Option.bind (f_X11_tryField p1 (1 : Int32) h) (fun q1 => (Option.bind (f_X11_handAt q1 h) (fun q3 => (om q3 (some (1 : Int32)) (fun b6 => (Option.bind (f_X11_tryField p1 (2 : Int32) h) (fun q9 => (Option.bind (f_X2_winning b6 q9 h) (fun q11 => (Option.bind (f_X11_tryField p1 (3 : Int32) h) (fun q13 => (if q13 = (1 : Int32) then (some q11) else (if hT h b6 = 5 then (some ((hI h b6 4) - q11)) else none))))))))))))))
set_option maxHeartbeats 4000000 in
set_option maxRecDepth 20000 in
theorem t_X11_waysOfTry {G : GE} (d : Nat) {p1 : Int32} {h : HS} {q : Int32} (hY : LY TX h) (H : f_X11_waysOfTry p1 h = some q) : CE G (d + 4) yX11_waysOfTry miX11_waysOfTry [.ref 32, .int p1] h (some (.int q)) (h) := by
  unfold f_X11_waysOfTry at H
  refine ce_of rfl (by decide) (fun q => by first | rfl | cases q) (Nat.le_of_ble_eq_true rfl) rfl ?_
  refine g_aload_n dX11_waysOfTry_0 rfl rfl ?_
  refine g_aload_n dX11_waysOfTry_1 rfl rfl ?_
  refine e_iload_n dX11_waysOfTry_2 rfl ?_
  refine e_iconst (v := (1 : Int32)) dX11_waysOfTry_3 (by decide) ?_
  replace H := ob H; obtain ⟨q1, c2, H⟩ := H
  refine v1 (hY.t 0 rfl) (by decide) rfl rfl lmX11_246 liX11_tryField lvX11_X11_tryField msX11_tryField dX11_waysOfTry_4 (t_X11_tryField (d + 2) hY c2) rfl (Nat.le_of_ble_eq_true rfl) (Nat.le_refl _) ?_
  replace H := ob H; obtain ⟨q3, c4, H⟩ := H
  replace H := oom H; obtain ⟨e5, H⟩ | ⟨b6, e5, H⟩ := H
  · refine v1 (hY.t 0 rfl) (by decide) rfl rfl lmX11_182 liX11_handAt lvX11_X11_handAt msX11_handAt dX11_waysOfTry_7 (ceN e5 (t_X11_handAt (d + 0) hY c4)) rfl (Nat.le_of_ble_eq_true rfl) (Nat.le_refl _) ?_
    refine g_astore_n dX11_waysOfTry_10 (Nat.le_of_ble_eq_true rfl) rfl rfl rfl ?_
    refine g_aload_n dX11_waysOfTry_11 rfl rfl ?_
    refine e_ifnonnullN dX11_waysOfTry_12 ?_
    refine e_iconst (v := (1 : Int32)) dX11_waysOfTry_15 (by decide) ?_
    obtain rfl := Option.some.inj H
    exact z_iret rfl rfl dX11_waysOfTry_16 rfl rfl
  · refine v1 (hY.t 0 rfl) (by decide) rfl rfl lmX11_182 liX11_handAt lvX11_X11_handAt msX11_handAt dX11_waysOfTry_7 (ceS e5 (t_X11_handAt (d + 0) hY c4)) rfl (Nat.le_of_ble_eq_true rfl) (Nat.le_refl _) ?_
    refine g_astore_n dX11_waysOfTry_10 (Nat.le_of_ble_eq_true rfl) rfl rfl rfl ?_
    refine g_aload_n dX11_waysOfTry_11 rfl rfl ?_
    refine e_ifnonnull (tgt := 17) dX11_waysOfTry_12 (by decide) ?_
    refine g_aload_n dX11_waysOfTry_17 rfl rfl ?_
    refine e_getR (hY.t 0 rfl) flX11_67_12 dX11_waysOfTry_18 rfl (hY.r 10 rfl) ?_
    refine g_aload_n dX11_waysOfTry_21 rfl rfl ?_
    refine g_aload_n dX11_waysOfTry_22 rfl rfl ?_
    refine e_iload_n dX11_waysOfTry_23 rfl ?_
    refine e_iconst (v := (2 : Int32)) dX11_waysOfTry_24 (by decide) ?_
    replace H := ob H; obtain ⟨q9, c10, H⟩ := H
    refine v1 (hY.t 0 rfl) (by decide) rfl rfl lmX11_246 liX11_tryField lvX11_X11_tryField msX11_tryField dX11_waysOfTry_25 (t_X11_tryField (d + 2) hY c10) rfl (Nat.le_of_ble_eq_true rfl) (Nat.le_refl _) ?_
    replace H := ob H; obtain ⟨q11, c12, H⟩ := H
    refine v1 (hY.t 16 rfl) (by decide) rfl rfl lmX11_195 liX2_winning lvX2_X2_winning msX2_winning dX11_waysOfTry_28 (t_X2_winning (d + 1) hY c12) rfl (Nat.le_of_ble_eq_true rfl) (Nat.le_refl _) ?_
    refine e_istore_n dX11_waysOfTry_31 (Nat.le_of_ble_eq_true rfl) rfl rfl ?_
    refine g_aload_n dX11_waysOfTry_32 rfl rfl ?_
    refine e_iload_n dX11_waysOfTry_33 rfl ?_
    refine e_iconst (v := (3 : Int32)) dX11_waysOfTry_34 (by decide) ?_
    replace H := ob H; obtain ⟨q13, c14, H⟩ := H
    refine v1 (hY.t 0 rfl) (by decide) rfl rfl lmX11_246 liX11_tryField lvX11_X11_tryField msX11_tryField dX11_waysOfTry_35 (t_X11_tryField (d + 2) hY c14) rfl (Nat.le_of_ble_eq_true rfl) (Nat.le_refl _) ?_
    refine e_iconst (v := (1 : Int32)) dX11_waysOfTry_38 (by decide) ?_
    refine e_icmp_ne (tgt := 46) dX11_waysOfTry_39 (by decide) (fun c15 => ?_) (fun c15 => ?_)
    · replace H := of_ c15 H
      refine g_aload_n dX11_waysOfTry_46 rfl rfl ?_
      replace H := og H; obtain ⟨g16, H⟩ := H
      refine e_getI g16 flX11_199_4 dX11_waysOfTry_47 rfl ?_
      refine e_iload_n dX11_waysOfTry_50 rfl ?_
      refine e_isub dX11_waysOfTry_51 ?_
      obtain rfl := Option.some.inj H
      exact z_iret rfl rfl dX11_waysOfTry_52 rfl rfl
    · replace H := ot c15 H
      refine e_iload_n dX11_waysOfTry_42 rfl ?_
      refine e_goto (tgt := 52) dX11_waysOfTry_43 (by decide) ?_
      obtain rfl := Option.some.inj H
      exact z_iret rfl rfl dX11_waysOfTry_52 rfl rfl
-- X11_setAll
def l_X11_setAll_59 (y1 : Int32) (h : HS)  : Nat → Int64 → Int32 → Int32 → Option Int64
  | 0, _, _, _ => none
  | n + 1, x5, x7, x8 => (if x8 < 0 then (some x5) else (if x7 ≤ 0 then (some x5) else (Option.bind (f_X11_tryField x8 (0 : Int32) h) (fun q26 => (if q26 = y1 then (Option.bind (f_X11_waysOfTry x8 h) (fun q29 => (l_X11_setAll_59 y1 h n (x5 * q29.toInt64) (x7 + (-1 : Int32)) (x8 + (-1 : Int32))))) else (l_X11_setAll_59 y1 h n x5 x7 (x8 + (-1 : Int32))))))))
set_option maxHeartbeats 4000000 in
set_option maxRecDepth 20000 in
theorem w_X11_setAll_59 {G : GE} (d : Nat) {y1 : Int32} {h : HS} {r : Option Value} {h' : HS} (hYTX : LY TX h) : ∀ (n : Nat) {x5 : Int64} {x7 : Int32} {x8 : Int32} {q : Int64}, l_X11_setAll_59 y1 h n x5 x7 x8 = some q → En G (d + 5) miX11_setAll 101 [dum, dum, dum, dum, dum, .long q, dum, dum, dum] [] h r h' → En G (d + 5) miX11_setAll 59 [.ref 32, .int y1, dum, dum, dum, .long x5, dum, .int x7, .int x8] [] h r h' := by
  intro n
  induction n with
  | zero => intro x5 x7 x8 q H kE; exact nz H
  | succ n ih =>
    intro x5 x7 x8 q H kE
    unfold l_X11_setAll_59 at H
    refine e_iload dX11_setAll_59 rfl ?_
    refine e_if_lt (tgt := 101) dX11_setAll_61 (by decide) (fun c24 => ?_) (fun c24 => ?_)
    · replace H := ot c24 H
      obtain rfl := Option.some.inj H
      exact e_wk (lk0 (lk0 (lk1 (lk1 (lk1 (lk1 (lk1 (lk0 (lk0 lkn))))))))) kE
    · replace H := of_ c24 H
      refine e_iload dX11_setAll_64 rfl ?_
      refine e_if_le (tgt := 101) dX11_setAll_66 (by decide) (fun c25 => ?_) (fun c25 => ?_)
      · replace H := ot c25 H
        obtain rfl := Option.some.inj H
        exact e_wk (lk0 (lk0 (lk1 (lk1 (lk1 (lk1 (lk1 (lk0 (lk0 lkn))))))))) kE
      · replace H := of_ c25 H
        refine g_aload_n dX11_setAll_69 rfl rfl ?_
        refine e_iload dX11_setAll_70 rfl ?_
        refine e_iconst (v := (0 : Int32)) dX11_setAll_72 (by decide) ?_
        replace H := ob H; obtain ⟨q26, c27, H⟩ := H
        refine v1 (hYTX.t 0 rfl) (by decide) rfl rfl lmX11_246 liX11_tryField lvX11_X11_tryField msX11_tryField dX11_setAll_73 (t_X11_tryField (d + 3) hYTX c27) rfl (Nat.le_of_ble_eq_true rfl) (Nat.le_refl _) ?_
        refine e_iload_n dX11_setAll_76 rfl ?_
        refine e_icmp_ne (tgt := 95) dX11_setAll_77 (by decide) (fun c28 => ?_) (fun c28 => ?_)
        · replace H := of_ c28 H
          refine e_iinc dX11_setAll_95 rfl (ii_ (by decide : Int32.ofInt (-1) = (-1 : Int32))) (Nat.le_of_ble_eq_true rfl) rfl rfl ?_
          refine e_goto (tgt := 59) dX11_setAll_98 (by decide) ?_
          exact e_wk (lk1 (lk1 (lk1 (lk1 (lk1 (lk1 (lk1 (lk1 (lk1 lkn))))))))) (ih H kE)
        · replace H := ot c28 H
          refine e_lload dX11_setAll_80 rfl ?_
          refine g_aload_n dX11_setAll_82 rfl rfl ?_
          refine e_iload dX11_setAll_83 rfl ?_
          replace H := ob H; obtain ⟨q29, c30, H⟩ := H
          refine v1 (hYTX.t 0 rfl) (by decide) rfl rfl lmX11_250 liX11_waysOfTry lvX11_X11_waysOfTry msX11_waysOfTry dX11_setAll_85 (t_X11_waysOfTry (d + 0) hYTX c30) rfl (Nat.le_of_ble_eq_true rfl) (Nat.le_refl _) ?_
          refine e_i2l dX11_setAll_88 ?_
          refine e_lmul dX11_setAll_89 ?_
          refine e_lstore dX11_setAll_90 (Nat.le_of_ble_eq_true rfl) rfl rfl ?_
          refine e_iinc dX11_setAll_92 rfl (ii_ (by decide : Int32.ofInt (-1) = (-1 : Int32))) (Nat.le_of_ble_eq_true rfl) rfl rfl ?_
          refine e_iinc dX11_setAll_95 rfl (ii_ (by decide : Int32.ofInt (-1) = (-1 : Int32))) (Nat.le_of_ble_eq_true rfl) rfl rfl ?_
          refine e_goto (tgt := 59) dX11_setAll_98 (by decide) ?_
          exact e_wk (lk1 (lk1 (lk1 (lk1 (lk1 (lk1 (lk1 (lk1 (lk1 lkn))))))))) (ih H kE)
def f_X11_setAll (p1 : Int32) (p2 : Int32) (p3 : Int32) (h : HS) : Option (Int64 × HS) := (Option.bind (f_X11_stallAt p1 h) (fun q1 => (om q1 (some ((-4611686018427387904 : Int64), h)) (fun b4 => (Option.bind (f_X11_isIn p2 (1 : Int32) (8 : Int32)) (fun q7 => (if q7 = true then (Option.bind (f_X11_isBit p3) (fun q10 => (if q10 = true then (Option.bind (f_X2_fill b4 ((1 : Int32) - p3) h) (fun q13 => (Option.bind (l_X11_setAll_59 p1 q13 1000 (1 : Int64) p2 ((hI q13 32 5) - (1 : Int32))) (fun q31 => (some (q31, q13)))))) else (some ((-4611686018427387904 : Int64), h))))) else (some ((-4611686018427387904 : Int64), h)))))))))
set_option maxHeartbeats 4000000 in
set_option maxRecDepth 20000 in
theorem p_X11_setAll {p1 : Int32} {p2 : Int32} {p3 : Int32} {h : HS} {q : (Int64 × HS)} (H : f_X11_setAll p1 p2 p3 h = some q) : Pr h q.2 := by
  unfold f_X11_setAll at H
  replace H := ob H; obtain ⟨q1, c2, H⟩ := H
  replace H := oom H; obtain ⟨e3, H⟩ | ⟨b4, e3, H⟩ := H
  · obtain rfl := Option.some.inj H
    exact Pr.rf
  · replace H := ob H; obtain ⟨q7, c8, H⟩ := H
    replace H := oi H; obtain ⟨c9, H⟩ | ⟨c9, H⟩ := H
    · replace H := ob H; obtain ⟨q10, c11, H⟩ := H
      replace H := oi H; obtain ⟨c12, H⟩ | ⟨c12, H⟩ := H
      · replace H := ob H; obtain ⟨q13, c14, H⟩ := H
        have e15 := p_X2_fill c14
        replace H := ob H; obtain ⟨q31, c32, H⟩ := H
        obtain rfl := Option.some.inj H
        exact e15
      · obtain rfl := Option.some.inj H
        exact Pr.rf
    · obtain rfl := Option.some.inj H
      exact Pr.rf
set_option maxHeartbeats 4000000 in
set_option maxRecDepth 20000 in
theorem t_X11_setAll {G : GE} (d : Nat) {p1 : Int32} {p2 : Int32} {p3 : Int32} {h : HS} {q : (Int64 × HS)} (hY : LY TX h) (H : f_X11_setAll p1 p2 p3 h = some q) : CE G (d + 5) yX11_setAll miX11_setAll [.ref 32, .int p1, .int p2, .int p3] h (some (.long q.1)) (q.2) := by
  unfold f_X11_setAll at H
  refine ce_of rfl (by decide) (fun q => by first | rfl | cases q) (Nat.le_of_ble_eq_true rfl) rfl ?_
  refine g_aload_n dX11_setAll_0 rfl rfl ?_
  refine e_iload_n dX11_setAll_1 rfl ?_
  replace H := ob H; obtain ⟨q1, c2, H⟩ := H
  replace H := oom H; obtain ⟨e3, H⟩ | ⟨b4, e3, H⟩ := H
  · refine v1 (hY.t 0 rfl) (by decide) rfl rfl lmX11_122 liX11_stallAt lvX11_X11_stallAt msX11_stallAt dX11_setAll_2 (ceN e3 (t_X11_stallAt (d + 1) hY c2)) rfl (Nat.le_of_ble_eq_true rfl) (Nat.le_refl _) ?_
    refine g_astore dX11_setAll_5 (Nat.le_of_ble_eq_true rfl) rfl rfl rfl ?_
    refine g_aload dX11_setAll_7 rfl rfl ?_
    refine e_ifnullN (tgt := 29) dX11_setAll_9 (by decide) ?_
    refine e_ldc2 (v := (-4611686018427387904 : Int64)) lkX11_189 dX11_setAll_29 ?_
    obtain rfl := Option.some.inj H
    exact z_lret rfl dX11_setAll_32 rfl rfl
  · refine v1 (hY.t 0 rfl) (by decide) rfl rfl lmX11_122 liX11_stallAt lvX11_X11_stallAt msX11_stallAt dX11_setAll_2 (ceS e3 (t_X11_stallAt (d + 1) hY c2)) rfl (Nat.le_of_ble_eq_true rfl) (Nat.le_refl _) ?_
    refine g_astore dX11_setAll_5 (Nat.le_of_ble_eq_true rfl) rfl rfl rfl ?_
    refine g_aload dX11_setAll_7 rfl rfl ?_
    refine e_ifnull dX11_setAll_9 ?_
    refine e_iload_n dX11_setAll_12 rfl ?_
    refine e_iconst (v := (1 : Int32)) dX11_setAll_13 (by decide) ?_
    refine e_bipush (v := (8 : Int32)) dX11_setAll_14 (by decide) ?_
    replace H := ob H; obtain ⟨q7, c8, H⟩ := H
    refine s1 lmX11_106 lsX11_isIn msX11_isIn dX11_setAll_16 (t_X11_isIn (d + 4) c8) rfl (Nat.le_of_ble_eq_true rfl) (Nat.le_refl _) ?_
    refine e_ifB_eq (tgt := 29) dX11_setAll_19 (by decide) (fun c9 => ?_) (fun c9 => ?_)
    · replace H := of_ (nb c9) H
      refine e_ldc2 (v := (-4611686018427387904 : Int64)) lkX11_189 dX11_setAll_29 ?_
      obtain rfl := Option.some.inj H
      exact z_lret rfl dX11_setAll_32 rfl rfl
    · replace H := ot c9 H
      refine e_iload_n dX11_setAll_22 rfl ?_
      replace H := ob H; obtain ⟨q10, c11, H⟩ := H
      refine s1 lmX11_186 lsX11_isBit msX11_isBit dX11_setAll_23 (t_X11_isBit (d + 4) c11) rfl (Nat.le_of_ble_eq_true rfl) (Nat.le_refl _) ?_
      refine e_ifB_ne (tgt := 33) dX11_setAll_26 (by decide) (fun c12 => ?_) (fun c12 => ?_)
      · replace H := ot c12 H
        refine g_aload_n dX11_setAll_33 rfl rfl ?_
        refine e_getR (hY.t 0 rfl) flX11_67_12 dX11_setAll_34 rfl (hY.r 10 rfl) ?_
        refine g_aload dX11_setAll_37 rfl rfl ?_
        refine e_iconst (v := (1 : Int32)) dX11_setAll_39 (by decide) ?_
        refine e_iload_n dX11_setAll_40 rfl ?_
        refine e_isub dX11_setAll_41 ?_
        replace H := ob H; obtain ⟨q13, c14, H⟩ := H
        refine v0 (hY.t 16 rfl) (by decide) rfl rfl lmX11_191 liX2_fill lvX2_X2_fill msX2_fill dX11_setAll_42 (t_X2_fill (d + 0) hY c14) rfl (Nat.le_of_ble_eq_true rfl) (Nat.le_refl _) ?_
        have e15 := p_X2_fill c14
        have hY16 := hY.pr okX e15
        refine e_lconst (v := (1 : Int64)) dX11_setAll_45 (by decide) ?_
        refine e_lstore dX11_setAll_46 (Nat.le_of_ble_eq_true rfl) rfl rfl ?_
        refine e_iload_n dX11_setAll_48 rfl ?_
        refine e_istore dX11_setAll_49 (Nat.le_of_ble_eq_true rfl) rfl rfl ?_
        refine g_aload_n dX11_setAll_51 rfl rfl ?_
        refine e_getI (hY16.t 0 rfl) flX11_30_12 dX11_setAll_52 rfl ?_
        refine e_iconst (v := (1 : Int32)) dX11_setAll_55 (by decide) ?_
        refine e_isub dX11_setAll_56 ?_
        refine e_istore dX11_setAll_57 (Nat.le_of_ble_eq_true rfl) rfl rfl ?_
        replace H := ob H; obtain ⟨q31, c32, H⟩ := H
        refine e_wk (lk1 (lk1 (lk0 (lk0 (lk0 (lk1 (lk1 (lk1 (lk1 lkn))))))))) (w_X11_setAll_59 d hY16 1000 c32 ?_)
        refine e_lload dX11_setAll_101 rfl ?_
        obtain rfl := Option.some.inj H
        exact z_lret rfl dX11_setAll_103 rfl rfl
      · replace H := of_ (nb c12) H
        refine e_ldc2 (v := (-4611686018427387904 : Int64)) lkX11_189 dX11_setAll_29 ?_
        obtain rfl := Option.some.inj H
        exact z_lret rfl dX11_setAll_32 rfl rfl
-- X11_nextLot
def f_X11_nextLot (p0 : Int64) : Option Int64 := (some ((p0 * (48271 : Int64)) - (p0 * (48271 : Int64)) / (2147483647 : Int64) * (2147483647 : Int64)))
set_option maxHeartbeats 4000000 in
set_option maxRecDepth 20000 in
theorem t_X11_nextLot {G : GE} (d : Nat) {p0 : Int64} {h : HS} {q : Int64} (H : f_X11_nextLot p0 = some q) : CE G (d + 0) yX11_nextLot miX11_nextLot [.long p0] h (some (.long q)) (h) := by
  unfold f_X11_nextLot at H
  refine ce_of rfl (by decide) (fun q => by first | rfl | cases q) (Nat.le_of_ble_eq_true rfl) rfl ?_
  refine e_lload_n dX11_nextLot_0 rfl ?_
  refine e_ldc2 (v := (48271 : Int64)) lkX11_253 dX11_nextLot_1 ?_
  refine e_lmul dX11_nextLot_4 ?_
  refine e_ldc2 (v := (2147483647 : Int64)) lkX11_255 dX11_nextLot_5 ?_
  refine e_lrem dX11_nextLot_8 (by decide) ?_
  obtain rfl := Option.some.inj H
  exact z_lret rfl dX11_nextLot_9 rfl rfl
-- X11_worth
def f_X11_worth (p1 : Int32) (p2 : Int32) (p3 : Int32) (p4 : Int32) (p5 : Int32) (h : HS) : Option (Int64 × HS) := (Option.bind (f_X11_stallAt p1 h) (fun q1 => (om q1 (Option.bind (f_X11_handAt p2 h) (fun q5 => (om q5 (some ((-4611686018427387904 : Int64), h)) (fun b8 => (some ((-4611686018427387904 : Int64), h)))))) (fun b4 => (Option.bind (f_X11_handAt p2 h) (fun q11 => (om q11 (some ((-4611686018427387904 : Int64), h)) (fun b14 => (Option.bind (f_X11_isPlace p3) (fun q19 => (if q19 = true then (Option.bind (f_X11_isBit p4) (fun q22 => (if q22 = true then (Option.bind (f_X11_isBit p5) (fun q25 => (if q25 = true then (if isSt (hT h b4) = true then (Option.bind (f_X2_fill b4 (hI h b4 7) h) (fun q29 => (Option.bind (if p4 = 0 then (some (hI q29 b4 5)) else (some (hI q29 b4 6))) (fun q35 => (Option.bind (f_X2_winning b14 p3 q29) (fun q38 => (if hT q29 b14 = 5 then (Option.bind (f_X11_lowest ((q38 * q35) - ((hI q29 b4 4) * (hI q29 b14 4))).toInt64 (hI q29 b14 4).toInt64 p5) (fun q41 => (some (q41, q29)))) else none))))))) else none) else (some ((-4611686018427387904 : Int64), h))))) else (some ((-4611686018427387904 : Int64), h))))) else (some ((-4611686018427387904 : Int64), h)))))))))))))
set_option maxHeartbeats 4000000 in
set_option maxRecDepth 20000 in
theorem p_X11_worth {p1 : Int32} {p2 : Int32} {p3 : Int32} {p4 : Int32} {p5 : Int32} {h : HS} {q : (Int64 × HS)} (H : f_X11_worth p1 p2 p3 p4 p5 h = some q) : Pr h q.2 := by
  unfold f_X11_worth at H
  replace H := ob H; obtain ⟨q1, c2, H⟩ := H
  replace H := oom H; obtain ⟨e3, H⟩ | ⟨b4, e3, H⟩ := H
  · replace H := ob H; obtain ⟨q5, c6, H⟩ := H
    replace H := oom H; obtain ⟨e7, H⟩ | ⟨b8, e7, H⟩ := H
    · obtain rfl := Option.some.inj H
      exact Pr.rf
    · obtain rfl := Option.some.inj H
      exact Pr.rf
  · replace H := ob H; obtain ⟨q11, c12, H⟩ := H
    replace H := oom H; obtain ⟨e13, H⟩ | ⟨b14, e13, H⟩ := H
    · obtain rfl := Option.some.inj H
      exact Pr.rf
    · replace H := ob H; obtain ⟨q19, c20, H⟩ := H
      replace H := oi H; obtain ⟨c21, H⟩ | ⟨c21, H⟩ := H
      · replace H := ob H; obtain ⟨q22, c23, H⟩ := H
        replace H := oi H; obtain ⟨c24, H⟩ | ⟨c24, H⟩ := H
        · replace H := ob H; obtain ⟨q25, c26, H⟩ := H
          replace H := oi H; obtain ⟨c27, H⟩ | ⟨c27, H⟩ := H
          · replace H := og H; obtain ⟨g28, H⟩ := H
            replace H := ob H; obtain ⟨q29, c30, H⟩ := H
            have e31 := p_X2_fill c30
            replace H := ob H; obtain ⟨q35, c37, H⟩ := H
            replace H := ob H; obtain ⟨q38, c39, H⟩ := H
            replace H := og H; obtain ⟨g40, H⟩ := H
            replace H := ob H; obtain ⟨q41, c42, H⟩ := H
            obtain rfl := Option.some.inj H
            exact e31
          · obtain rfl := Option.some.inj H
            exact Pr.rf
        · obtain rfl := Option.some.inj H
          exact Pr.rf
      · obtain rfl := Option.some.inj H
        exact Pr.rf
set_option maxHeartbeats 4000000 in
set_option maxRecDepth 20000 in
theorem t_X11_worth {G : GE} (d : Nat) {p1 : Int32} {p2 : Int32} {p3 : Int32} {p4 : Int32} {p5 : Int32} {h : HS} {q : (Int64 × HS)} (hY : LY TX h) (H : f_X11_worth p1 p2 p3 p4 p5 h = some q) : CE G (d + 5) yX11_worth miX11_worth [.ref 32, .int p1, .int p2, .int p3, .int p4, .int p5] h (some (.long q.1)) (q.2) := by
  unfold f_X11_worth at H
  refine ce_of rfl (by decide) (fun q => by first | rfl | cases q) (Nat.le_of_ble_eq_true rfl) rfl ?_
  refine g_aload_n dX11_worth_0 rfl rfl ?_
  refine e_iload_n dX11_worth_1 rfl ?_
  replace H := ob H; obtain ⟨q1, c2, H⟩ := H
  replace H := oom H; obtain ⟨e3, H⟩ | ⟨b4, e3, H⟩ := H
  · refine v1 (hY.t 0 rfl) (by decide) rfl rfl lmX11_122 liX11_stallAt lvX11_X11_stallAt msX11_stallAt dX11_worth_2 (ceN e3 (t_X11_stallAt (d + 1) hY c2)) rfl (Nat.le_of_ble_eq_true rfl) (Nat.le_refl _) ?_
    refine g_astore dX11_worth_5 (Nat.le_of_ble_eq_true rfl) rfl rfl rfl ?_
    refine g_aload_n dX11_worth_7 rfl rfl ?_
    refine e_iload_n dX11_worth_8 rfl ?_
    replace H := ob H; obtain ⟨q5, c6, H⟩ := H
    replace H := oom H; obtain ⟨e7, H⟩ | ⟨b8, e7, H⟩ := H
    · refine v1 (hY.t 0 rfl) (by decide) rfl rfl lmX11_182 liX11_handAt lvX11_X11_handAt msX11_handAt dX11_worth_9 (ceN e7 (t_X11_handAt (d + 1) hY c6)) rfl (Nat.le_of_ble_eq_true rfl) (Nat.le_refl _) ?_
      refine g_astore dX11_worth_12 (Nat.le_of_ble_eq_true rfl) rfl rfl rfl ?_
      refine g_aload dX11_worth_14 rfl rfl ?_
      refine e_ifnullN (tgt := 47) dX11_worth_16 (by decide) ?_
      refine e_ldc2 (v := (-4611686018427387904 : Int64)) lkX11_189 dX11_worth_47 ?_
      obtain rfl := Option.some.inj H
      exact z_lret rfl dX11_worth_50 rfl rfl
    · refine v1 (hY.t 0 rfl) (by decide) rfl rfl lmX11_182 liX11_handAt lvX11_X11_handAt msX11_handAt dX11_worth_9 (ceS e7 (t_X11_handAt (d + 1) hY c6)) rfl (Nat.le_of_ble_eq_true rfl) (Nat.le_refl _) ?_
      refine g_astore dX11_worth_12 (Nat.le_of_ble_eq_true rfl) rfl rfl rfl ?_
      refine g_aload dX11_worth_14 rfl rfl ?_
      refine e_ifnullN (tgt := 47) dX11_worth_16 (by decide) ?_
      refine e_ldc2 (v := (-4611686018427387904 : Int64)) lkX11_189 dX11_worth_47 ?_
      obtain rfl := Option.some.inj H
      exact z_lret rfl dX11_worth_50 rfl rfl
  · refine v1 (hY.t 0 rfl) (by decide) rfl rfl lmX11_122 liX11_stallAt lvX11_X11_stallAt msX11_stallAt dX11_worth_2 (ceS e3 (t_X11_stallAt (d + 1) hY c2)) rfl (Nat.le_of_ble_eq_true rfl) (Nat.le_refl _) ?_
    refine g_astore dX11_worth_5 (Nat.le_of_ble_eq_true rfl) rfl rfl rfl ?_
    refine g_aload_n dX11_worth_7 rfl rfl ?_
    refine e_iload_n dX11_worth_8 rfl ?_
    replace H := ob H; obtain ⟨q11, c12, H⟩ := H
    replace H := oom H; obtain ⟨e13, H⟩ | ⟨b14, e13, H⟩ := H
    · refine v1 (hY.t 0 rfl) (by decide) rfl rfl lmX11_182 liX11_handAt lvX11_X11_handAt msX11_handAt dX11_worth_9 (ceN e13 (t_X11_handAt (d + 1) hY c12)) rfl (Nat.le_of_ble_eq_true rfl) (Nat.le_refl _) ?_
      refine g_astore dX11_worth_12 (Nat.le_of_ble_eq_true rfl) rfl rfl rfl ?_
      refine g_aload dX11_worth_14 rfl rfl ?_
      refine e_ifnull dX11_worth_16 ?_
      refine g_aload dX11_worth_19 rfl rfl ?_
      refine e_ifnullN (tgt := 47) dX11_worth_21 (by decide) ?_
      refine e_ldc2 (v := (-4611686018427387904 : Int64)) lkX11_189 dX11_worth_47 ?_
      obtain rfl := Option.some.inj H
      exact z_lret rfl dX11_worth_50 rfl rfl
    · refine v1 (hY.t 0 rfl) (by decide) rfl rfl lmX11_182 liX11_handAt lvX11_X11_handAt msX11_handAt dX11_worth_9 (ceS e13 (t_X11_handAt (d + 1) hY c12)) rfl (Nat.le_of_ble_eq_true rfl) (Nat.le_refl _) ?_
      refine g_astore dX11_worth_12 (Nat.le_of_ble_eq_true rfl) rfl rfl rfl ?_
      refine g_aload dX11_worth_14 rfl rfl ?_
      refine e_ifnull dX11_worth_16 ?_
      refine g_aload dX11_worth_19 rfl rfl ?_
      refine e_ifnull dX11_worth_21 ?_
      refine e_iload_n dX11_worth_24 rfl ?_
      replace H := ob H; obtain ⟨q19, c20, H⟩ := H
      refine s1 lmX11_110 lsX11_isPlace msX11_isPlace dX11_worth_25 (t_X11_isPlace (d + 4) c20) rfl (Nat.le_of_ble_eq_true rfl) (Nat.le_refl _) ?_
      refine e_ifB_eq (tgt := 47) dX11_worth_28 (by decide) (fun c21 => ?_) (fun c21 => ?_)
      · replace H := of_ (nb c21) H
        refine e_ldc2 (v := (-4611686018427387904 : Int64)) lkX11_189 dX11_worth_47 ?_
        obtain rfl := Option.some.inj H
        exact z_lret rfl dX11_worth_50 rfl rfl
      · replace H := ot c21 H
        refine e_iload dX11_worth_31 rfl ?_
        replace H := ob H; obtain ⟨q22, c23, H⟩ := H
        refine s1 lmX11_186 lsX11_isBit msX11_isBit dX11_worth_33 (t_X11_isBit (d + 4) c23) rfl (Nat.le_of_ble_eq_true rfl) (Nat.le_refl _) ?_
        refine e_ifB_eq (tgt := 47) dX11_worth_36 (by decide) (fun c24 => ?_) (fun c24 => ?_)
        · replace H := of_ (nb c24) H
          refine e_ldc2 (v := (-4611686018427387904 : Int64)) lkX11_189 dX11_worth_47 ?_
          obtain rfl := Option.some.inj H
          exact z_lret rfl dX11_worth_50 rfl rfl
        · replace H := ot c24 H
          refine e_iload dX11_worth_39 rfl ?_
          replace H := ob H; obtain ⟨q25, c26, H⟩ := H
          refine s1 lmX11_186 lsX11_isBit msX11_isBit dX11_worth_41 (t_X11_isBit (d + 4) c26) rfl (Nat.le_of_ble_eq_true rfl) (Nat.le_refl _) ?_
          refine e_ifB_ne (tgt := 51) dX11_worth_44 (by decide) (fun c27 => ?_) (fun c27 => ?_)
          · replace H := ot c27 H
            refine g_aload_n dX11_worth_51 rfl rfl ?_
            refine e_getR (hY.t 0 rfl) flX11_67_12 dX11_worth_52 rfl (hY.r 10 rfl) ?_
            refine g_aload dX11_worth_55 rfl rfl ?_
            refine g_aload dX11_worth_57 rfl rfl ?_
            replace H := og H; obtain ⟨g28, H⟩ := H
            refine gmX11_160_isSt g28 dX11_worth_59 ?_
            replace H := ob H; obtain ⟨q29, c30, H⟩ := H
            refine v0 (hY.t 16 rfl) (by decide) rfl rfl lmX11_191 liX2_fill lvX2_X2_fill msX2_fill dX11_worth_62 (t_X2_fill (d + 0) hY c30) rfl (Nat.le_of_ble_eq_true rfl) (Nat.le_refl _) ?_
            have e31 := p_X2_fill c30
            have hY32 := hY.pr okX e31
            have f33 := e31.b g28 rfl
            refine e_iload dX11_worth_65 rfl ?_
            replace H := ob H; obtain ⟨q35, c37, H⟩ := H
            have k36 : En G (d + 5) miX11_worth 83 [.ref 32, dum, dum, .int p3, dum, .int p5, .ref b4, .ref b14, dum] [.int q35] q29 (some (.long q.1)) (q.2) := by
              refine e_istore dX11_worth_83 (Nat.le_of_ble_eq_true rfl) rfl rfl ?_
              refine g_aload_n dX11_worth_85 rfl rfl ?_
              refine e_getR (hY32.t 0 rfl) flX11_67_12 dX11_worth_86 rfl (hY32.r 10 rfl) ?_
              refine g_aload dX11_worth_89 rfl rfl ?_
              refine e_iload_n dX11_worth_91 rfl ?_
              replace H := ob H; obtain ⟨q38, c39, H⟩ := H
              refine v1 (hY32.t 16 rfl) (by decide) rfl rfl lmX11_195 liX2_winning lvX2_X2_winning msX2_winning dX11_worth_92 (t_X2_winning (d + 2) hY32 c39) rfl (Nat.le_of_ble_eq_true rfl) (Nat.le_refl _) ?_
              refine e_iload dX11_worth_95 rfl ?_
              refine e_imul dX11_worth_97 ?_
              refine g_aload dX11_worth_98 rfl rfl ?_
              refine gmX11_151_isSt f33 dX11_worth_100 ?_
              refine g_aload dX11_worth_103 rfl rfl ?_
              replace H := og H; obtain ⟨g40, H⟩ := H
              refine e_getI g40 flX11_199_4 dX11_worth_105 rfl ?_
              refine e_imul dX11_worth_108 ?_
              refine e_isub dX11_worth_109 ?_
              refine e_i2l dX11_worth_110 ?_
              refine g_aload dX11_worth_111 rfl rfl ?_
              refine e_getI g40 flX11_199_4 dX11_worth_113 rfl ?_
              refine e_i2l dX11_worth_116 ?_
              refine e_iload dX11_worth_117 rfl ?_
              replace H := ob H; obtain ⟨q41, c42, H⟩ := H
              refine s1 lmX11_202 lsX11_lowest msX11_lowest dX11_worth_119 (t_X11_lowest (d + 3) c42) rfl (Nat.le_of_ble_eq_true rfl) (Nat.le_refl _) ?_
              obtain rfl := Option.some.inj H
              exact z_lret rfl dX11_worth_122 rfl rfl
            replace H := c37
            refine e_if_ne (tgt := 78) dX11_worth_67 (by decide) (fun c34 => ?_) (fun c34 => ?_)
            · replace H := of_ c34 H
              refine g_aload dX11_worth_78 rfl rfl ?_
              refine gmX11_157_isSt f33 dX11_worth_80 ?_
              obtain rfl := Option.some.inj H
              exact e_wk (lk1 (lk0 (lk0 (lk1 (lk0 (lk1 (lk1 (lk1 (lk1 lkn))))))))) k36
            · replace H := ot c34 H
              refine g_aload dX11_worth_70 rfl rfl ?_
              refine gmX11_154_isSt f33 dX11_worth_72 ?_
              refine e_goto (tgt := 83) dX11_worth_75 (by decide) ?_
              obtain rfl := Option.some.inj H
              exact e_wk (lk1 (lk0 (lk0 (lk1 (lk0 (lk1 (lk1 (lk1 (lk1 lkn))))))))) k36
          · replace H := of_ (nb c27) H
            refine e_ldc2 (v := (-4611686018427387904 : Int64)) lkX11_189 dX11_worth_47 ?_
            obtain rfl := Option.some.inj H
            exact z_lret rfl dX11_worth_50 rfl rfl
-- X11_mostWinning
def f_X11_mostWinning (p1 : Nat) (p2 : Nat) (h : HS) : Option (Int32 × HS) := (if isSt (hT h p1) = true then (Option.bind (f_X2_fill p1 (hI h p1 7) h) (fun q2 => (Option.bind (f_X2_bestAim p2 q2) (fun q7 => (Option.bind (f_X2_winning p2 q7 q2) (fun q9 => (some (q9, q2)))))))) else none)
set_option maxHeartbeats 4000000 in
set_option maxRecDepth 20000 in
theorem p_X11_mostWinning {p1 : Nat} {p2 : Nat} {h : HS} {q : (Int32 × HS)} (H : f_X11_mostWinning p1 p2 h = some q) : Pr h q.2 := by
  unfold f_X11_mostWinning at H
  replace H := og H; obtain ⟨g1, H⟩ := H
  replace H := ob H; obtain ⟨q2, c3, H⟩ := H
  have e4 := p_X2_fill c3
  replace H := ob H; obtain ⟨q7, c8, H⟩ := H
  replace H := ob H; obtain ⟨q9, c10, H⟩ := H
  obtain rfl := Option.some.inj H
  exact e4
set_option maxHeartbeats 4000000 in
set_option maxRecDepth 20000 in
theorem t_X11_mostWinning {G : GE} (d : Nat) {p1 : Nat} {p2 : Nat} {h : HS} {q : (Int32 × HS)} (hY : LY TX h) (H : f_X11_mostWinning p1 p2 h = some q) : CE G (d + 5) yX11_mostWinning miX11_mostWinning [.ref 32, .ref p1, .ref p2] h (some (.int q.1)) (q.2) := by
  unfold f_X11_mostWinning at H
  refine ce_of rfl (by decide) (fun q => by first | rfl | cases q) (Nat.le_of_ble_eq_true rfl) rfl ?_
  refine g_aload_n dX11_mostWinning_0 rfl rfl ?_
  refine e_getR (hY.t 0 rfl) flX11_67_12 dX11_mostWinning_1 rfl (hY.r 10 rfl) ?_
  refine g_aload_n dX11_mostWinning_4 rfl rfl ?_
  refine g_aload_n dX11_mostWinning_5 rfl rfl ?_
  replace H := og H; obtain ⟨g1, H⟩ := H
  refine gmX11_160_isSt g1 dX11_mostWinning_6 ?_
  replace H := ob H; obtain ⟨q2, c3, H⟩ := H
  refine v0 (hY.t 16 rfl) (by decide) rfl rfl lmX11_191 liX2_fill lvX2_X2_fill msX2_fill dX11_mostWinning_9 (t_X2_fill (d + 0) hY c3) rfl (Nat.le_of_ble_eq_true rfl) (Nat.le_refl _) ?_
  have e4 := p_X2_fill c3
  have hY5 := hY.pr okX e4
  have f6 := e4.b g1 rfl
  refine g_aload_n dX11_mostWinning_12 rfl rfl ?_
  refine e_getR (hY5.t 0 rfl) flX11_67_12 dX11_mostWinning_13 rfl (hY5.r 10 rfl) ?_
  refine g_aload_n dX11_mostWinning_16 rfl rfl ?_
  refine g_aload_n dX11_mostWinning_17 rfl rfl ?_
  refine e_getR (hY5.t 0 rfl) flX11_67_12 dX11_mostWinning_18 rfl (hY5.r 10 rfl) ?_
  refine g_aload_n dX11_mostWinning_21 rfl rfl ?_
  replace H := ob H; obtain ⟨q7, c8, H⟩ := H
  refine v1 (hY5.t 16 rfl) (by decide) rfl rfl lmX11_206 liX2_bestAim lvX2_X2_bestAim msX2_bestAim dX11_mostWinning_22 (t_X2_bestAim (d + 1) hY5 c8) rfl (Nat.le_of_ble_eq_true rfl) (Nat.le_refl _) ?_
  replace H := ob H; obtain ⟨q9, c10, H⟩ := H
  refine v1 (hY5.t 16 rfl) (by decide) rfl rfl lmX11_195 liX2_winning lvX2_X2_winning msX2_winning dX11_mostWinning_25 (t_X2_winning (d + 2) hY5 c10) rfl (Nat.le_of_ble_eq_true rfl) (Nat.le_refl _) ?_
  obtain rfl := Option.some.inj H
  exact z_iret rfl rfl dX11_mostWinning_28 rfl rfl
-- X11_leaves
def l_X11_leaves_27 (y2 : Int32) (y3 : Nat)  : Nat → Int64 → Int32 → HS → Option (Int64 × HS)
  | 0, _, _, _ => none
  | n + 1, x4, x6, h => (if hT h 33 = 1 then (Option.bind (f_Jx4a65c_size_8abf5 33 h) (fun q27 => (if q27 ≤ x6 then (some (x4, h)) else (Option.bind (f_Jx4a65c_get_915e3 33 x6 h) (fun q31 => (om q31 none (fun b34 => (if isSt (hT h b34) = true then (if hT h y3 = 5 then (Option.bind (f_X11_mostWinning b34 y3 h) (fun q37 => (l_X11_leaves_27 y2 y3 n (x4 + (((hI h b34 4) * (hI h y3 4)) - (q37.1 * (hI q37.2 b34 5))).toInt64) (x6 + (1 : Int32)) q37.2))) else none) else none)))))))) else none)
set_option maxHeartbeats 4000000 in
set_option maxRecDepth 20000 in
theorem p_X11_leaves_27 {y2 : Int32} {y3 : Nat} : ∀ (n : Nat) {x4 : Int64} {x6 : Int32} {h : HS} {q : (Int64 × HS)}, l_X11_leaves_27 y2 y3 n x4 x6 h = some q → Pr h q.2 := by
  intro n
  induction n with
  | zero => intro x4 x6 h q H; exact nz H
  | succ n ih =>
    intro x4 x6 h q H
    unfold l_X11_leaves_27 at H
    replace H := og H; obtain ⟨g29, H⟩ := H
    replace H := ob H; obtain ⟨q27, c28, H⟩ := H
    replace H := oi H; obtain ⟨c30, H⟩ | ⟨c30, H⟩ := H
    · obtain rfl := Option.some.inj H
      exact Pr.rf
    · replace H := ob H; obtain ⟨q31, c32, H⟩ := H
      replace H := oom H; obtain ⟨e33, H⟩ | ⟨b34, e33, H⟩ := H
      · exact nz H
      · replace H := og H; obtain ⟨g35, H⟩ := H
        replace H := og H; obtain ⟨g36, H⟩ := H
        replace H := ob H; obtain ⟨q37, c38, H⟩ := H
        have e39 := p_X11_mostWinning c38
        exact e39.tr (ih H)
set_option maxHeartbeats 4000000 in
set_option maxRecDepth 20000 in
theorem w_X11_leaves_27 {G : GE} (d : Nat) {y2 : Int32} {y3 : Nat} {r : Option Value} {h' : HS}  : ∀ (n : Nat) {x4 : Int64} {x6 : Int32} {h : HS} {q : (Int64 × HS)}, LY TX h → l_X11_leaves_27 y2 y3 n x4 x6 h = some q → En G (d + 6) miX11_leaves 89 [dum, dum, .int y2, .ref y3, .long q.1, dum, dum, dum] [] q.2 r h' → En G (d + 6) miX11_leaves 27 [.ref 32, dum, .int y2, .ref y3, .long x4, dum, .int x6, dum] [] h r h' := by
  intro n
  induction n with
  | zero => intro x4 x6 h q hYTX H kE; exact nz H
  | succ n ih =>
    intro x4 x6 h q hYTX H kE
    unfold l_X11_leaves_27 at H
    refine e_iload dX11_leaves_27 rfl ?_
    refine g_aload_n dX11_leaves_29 rfl rfl ?_
    refine e_getR (hYTX.t 0 rfl) flX11_12_12 dX11_leaves_30 rfl (hYTX.r 0 rfl) ?_
    replace H := og H; obtain ⟨g29, H⟩ := H
    replace H := ob H; obtain ⟨q27, c28, H⟩ := H
    refine v1 (hYTX.t 1 rfl) (by decide) rfl rfl lmX11_114 liJx4a65c_size_8abf5 lvJx4a65c_Jx4a65c_size_8abf5 msJx4a65c_size_8abf5 dX11_leaves_33 (t_Jx4a65c_size_8abf5 (d + 5) c28) rfl (Nat.le_of_ble_eq_true rfl) (Nat.le_refl _) ?_
    refine e_icmp_ge (tgt := 89) dX11_leaves_36 (by decide) (fun c30 => ?_) (fun c30 => ?_)
    · replace H := ot c30 H
      obtain rfl := Option.some.inj H
      exact e_wk (lk0 (lk1 (lk1 (lk1 (lk1 (lk1 (lk0 (lk1 lkn)))))))) kE
    · replace H := of_ c30 H
      refine g_aload_n dX11_leaves_39 rfl rfl ?_
      refine e_getR (hYTX.t 0 rfl) flX11_12_12 dX11_leaves_40 rfl (hYTX.r 0 rfl) ?_
      refine e_iload dX11_leaves_43 rfl ?_
      replace H := ob H; obtain ⟨q31, c32, H⟩ := H
      replace H := oom H; obtain ⟨e33, H⟩ | ⟨b34, e33, H⟩ := H
      · refine v1 (hYTX.t 1 rfl) (by decide) rfl rfl lmX11_276 liJx4a65c_get_915e3 lvJx4a65c_Jx4a65c_get_915e3 msJx4a65c_get_915e3 dX11_leaves_45 (ceN e33 (t_Jx4a65c_get_915e3 (d + 3) c32)) rfl (Nat.le_of_ble_eq_true rfl) (Nat.le_refl _) ?_
        exact nz H
      · refine v1 (hYTX.t 1 rfl) (by decide) rfl rfl lmX11_276 liJx4a65c_get_915e3 lvJx4a65c_Jx4a65c_get_915e3 msJx4a65c_get_915e3 dX11_leaves_45 (ceS e33 (t_Jx4a65c_get_915e3 (d + 3) c32)) rfl (Nat.le_of_ble_eq_true rfl) (Nat.le_refl _) ?_
        replace H := og H; obtain ⟨g35, H⟩ := H
        refine e_castSt g35 lcX11_131 dX11_leaves_48 ?_
        refine g_astore dX11_leaves_51 (Nat.le_of_ble_eq_true rfl) rfl rfl rfl ?_
        refine e_lload dX11_leaves_53 rfl ?_
        refine g_aload dX11_leaves_55 rfl rfl ?_
        refine gmX11_151_isSt g35 dX11_leaves_57 ?_
        refine g_aload_n dX11_leaves_60 rfl rfl ?_
        replace H := og H; obtain ⟨g36, H⟩ := H
        refine e_getI g36 flX11_199_4 dX11_leaves_61 rfl ?_
        refine e_imul dX11_leaves_64 ?_
        refine g_aload_n dX11_leaves_65 rfl rfl ?_
        refine g_aload dX11_leaves_66 rfl rfl ?_
        refine g_aload_n dX11_leaves_68 rfl rfl ?_
        replace H := ob H; obtain ⟨q37, c38, H⟩ := H
        refine v1 (hYTX.t 0 rfl) (by decide) rfl rfl lmX11_280 liX11_mostWinning lvX11_X11_mostWinning msX11_mostWinning dX11_leaves_69 (t_X11_mostWinning (d + 0) hYTX c38) rfl (Nat.le_of_ble_eq_true rfl) (Nat.le_refl _) ?_
        have e39 := p_X11_mostWinning c38
        have hY40 := hYTX.pr okX e39
        have f41 := e39.k g29 (by decide)
        have f42 := e39.b g35 rfl
        have f43 := e39.k g36 (by decide)
        refine g_aload dX11_leaves_72 rfl rfl ?_
        refine gmX11_154_isSt f42 dX11_leaves_74 ?_
        refine e_imul dX11_leaves_77 ?_
        refine e_isub dX11_leaves_78 ?_
        refine e_i2l dX11_leaves_79 ?_
        refine e_ladd dX11_leaves_80 ?_
        refine e_lstore dX11_leaves_81 (Nat.le_of_ble_eq_true rfl) rfl rfl ?_
        refine e_iinc dX11_leaves_83 rfl (ii_ (by decide : Int32.ofInt (1) = (1 : Int32))) (Nat.le_of_ble_eq_true rfl) rfl rfl ?_
        refine e_goto (tgt := 27) dX11_leaves_86 (by decide) ?_
        exact e_wk (lk1 (lk1 (lk1 (lk1 (lk1 (lk1 (lk1 (lk0 lkn)))))))) (ih hY40 H kE)
def f_X11_leaves (p1 : Int32) (p2 : Int32) (h : HS) : Option (Int64 × HS) := (Option.bind (f_X11_handAt p1 h) (fun q1 => (om q1 (some ((-4611686018427387904 : Int64), h)) (fun b4 => (Option.bind (f_X11_isBit p2) (fun q7 => (if q7 = true then (Option.bind (l_X11_leaves_27 p2 b4 1000 (0 : Int64) (0 : Int32) h) (fun q44 => (if hT q44.2 b4 = 5 then (Option.bind (f_X11_lowest q44.1 (hI q44.2 b4 4).toInt64 p2) (fun q49 => (some (q49, q44.2)))) else none))) else (some ((-4611686018427387904 : Int64), h)))))))))
set_option maxHeartbeats 4000000 in
set_option maxRecDepth 20000 in
theorem p_X11_leaves {p1 : Int32} {p2 : Int32} {h : HS} {q : (Int64 × HS)} (H : f_X11_leaves p1 p2 h = some q) : Pr h q.2 := by
  unfold f_X11_leaves at H
  replace H := ob H; obtain ⟨q1, c2, H⟩ := H
  replace H := oom H; obtain ⟨e3, H⟩ | ⟨b4, e3, H⟩ := H
  · obtain rfl := Option.some.inj H
    exact Pr.rf
  · replace H := ob H; obtain ⟨q7, c8, H⟩ := H
    replace H := oi H; obtain ⟨c9, H⟩ | ⟨c9, H⟩ := H
    · replace H := ob H; obtain ⟨q44, c45, H⟩ := H
      have e46 := p_X11_leaves_27 1000 c45
      replace H := og H; obtain ⟨g48, H⟩ := H
      replace H := ob H; obtain ⟨q49, c50, H⟩ := H
      obtain rfl := Option.some.inj H
      exact e46
    · obtain rfl := Option.some.inj H
      exact Pr.rf
set_option maxHeartbeats 4000000 in
set_option maxRecDepth 20000 in
theorem t_X11_leaves {G : GE} (d : Nat) {p1 : Int32} {p2 : Int32} {h : HS} {q : (Int64 × HS)} (hY : LY TX h) (H : f_X11_leaves p1 p2 h = some q) : CE G (d + 6) yX11_leaves miX11_leaves [.ref 32, .int p1, .int p2] h (some (.long q.1)) (q.2) := by
  unfold f_X11_leaves at H
  refine ce_of rfl (by decide) (fun q => by first | rfl | cases q) (Nat.le_of_ble_eq_true rfl) rfl ?_
  refine g_aload_n dX11_leaves_0 rfl rfl ?_
  refine e_iload_n dX11_leaves_1 rfl ?_
  replace H := ob H; obtain ⟨q1, c2, H⟩ := H
  replace H := oom H; obtain ⟨e3, H⟩ | ⟨b4, e3, H⟩ := H
  · refine v1 (hY.t 0 rfl) (by decide) rfl rfl lmX11_182 liX11_handAt lvX11_X11_handAt msX11_handAt dX11_leaves_2 (ceN e3 (t_X11_handAt (d + 2) hY c2)) rfl (Nat.le_of_ble_eq_true rfl) (Nat.le_refl _) ?_
    refine g_astore_n dX11_leaves_5 (Nat.le_of_ble_eq_true rfl) rfl rfl rfl ?_
    refine g_aload_n dX11_leaves_6 rfl rfl ?_
    refine e_ifnullN (tgt := 17) dX11_leaves_7 (by decide) ?_
    refine e_ldc2 (v := (-4611686018427387904 : Int64)) lkX11_189 dX11_leaves_17 ?_
    obtain rfl := Option.some.inj H
    exact z_lret rfl dX11_leaves_20 rfl rfl
  · refine v1 (hY.t 0 rfl) (by decide) rfl rfl lmX11_182 liX11_handAt lvX11_X11_handAt msX11_handAt dX11_leaves_2 (ceS e3 (t_X11_handAt (d + 2) hY c2)) rfl (Nat.le_of_ble_eq_true rfl) (Nat.le_refl _) ?_
    refine g_astore_n dX11_leaves_5 (Nat.le_of_ble_eq_true rfl) rfl rfl rfl ?_
    refine g_aload_n dX11_leaves_6 rfl rfl ?_
    refine e_ifnull dX11_leaves_7 ?_
    refine e_iload_n dX11_leaves_10 rfl ?_
    replace H := ob H; obtain ⟨q7, c8, H⟩ := H
    refine s1 lmX11_186 lsX11_isBit msX11_isBit dX11_leaves_11 (t_X11_isBit (d + 5) c8) rfl (Nat.le_of_ble_eq_true rfl) (Nat.le_refl _) ?_
    refine e_ifB_ne (tgt := 21) dX11_leaves_14 (by decide) (fun c9 => ?_) (fun c9 => ?_)
    · replace H := ot c9 H
      refine e_lconst (v := (0 : Int64)) dX11_leaves_21 (by decide) ?_
      refine e_lstore dX11_leaves_22 (Nat.le_of_ble_eq_true rfl) rfl rfl ?_
      refine e_iconst (v := (0 : Int32)) dX11_leaves_24 (by decide) ?_
      refine e_istore dX11_leaves_25 (Nat.le_of_ble_eq_true rfl) rfl rfl ?_
      replace H := ob H; obtain ⟨q44, c45, H⟩ := H
      have e46 := p_X11_leaves_27 1000 c45
      have hY47 := hY.pr okX e46
      refine e_wk (lk1 (lk0 (lk1 (lk1 (lk1 (lk1 (lk1 (lk1 lkn)))))))) (w_X11_leaves_27 d 1000 hY c45 ?_)
      refine e_lload dX11_leaves_89 rfl ?_
      refine g_aload_n dX11_leaves_91 rfl rfl ?_
      replace H := og H; obtain ⟨g48, H⟩ := H
      refine e_getI g48 flX11_199_4 dX11_leaves_92 rfl ?_
      refine e_i2l dX11_leaves_95 ?_
      refine e_iload_n dX11_leaves_96 rfl ?_
      replace H := ob H; obtain ⟨q49, c50, H⟩ := H
      refine s1 lmX11_202 lsX11_lowest msX11_lowest dX11_leaves_97 (t_X11_lowest (d + 4) c50) rfl (Nat.le_of_ble_eq_true rfl) (Nat.le_refl _) ?_
      obtain rfl := Option.some.inj H
      exact z_lret rfl dX11_leaves_100 rfl rfl
    · replace H := of_ (nb c9) H
      refine e_ldc2 (v := (-4611686018427387904 : Int64)) lkX11_189 dX11_leaves_17 ?_
      obtain rfl := Option.some.inj H
      exact z_lret rfl dX11_leaves_20 rfl rfl
-- X11_feed
def l_X11_feed_34 (y1 : Int32) (y2 : Int64)  : Nat → Int32 → HS → Option HS
  | 0, _, _ => none
  | n + 1, x4, h => (if y1 ≤ x4 then (some h) else (Option.bind (f_X6_put ((y2 >>> (((8 : Int32) * x4).toInt64 &&& 63)).toInt32 &&& (255 : Int32)) h) (fun q11 => (l_X11_feed_34 y1 y2 n (x4 + (1 : Int32)) q11))))
set_option maxHeartbeats 4000000 in
set_option maxRecDepth 20000 in
theorem p_X11_feed_34 {y1 : Int32} {y2 : Int64} : ∀ (n : Nat) {x4 : Int32} {h : HS} {q : HS}, l_X11_feed_34 y1 y2 n x4 h = some q → Pr h q := by
  intro n
  induction n with
  | zero => intro x4 h q H; exact nz H
  | succ n ih =>
    intro x4 h q H
    unfold l_X11_feed_34 at H
    replace H := oi H; obtain ⟨c10, H⟩ | ⟨c10, H⟩ := H
    · obtain rfl := Option.some.inj H
      exact Pr.rf
    · replace H := ob H; obtain ⟨q11, c12, H⟩ := H
      have e13 := p_X6_put c12
      exact e13.tr (ih H)
set_option maxHeartbeats 4000000 in
set_option maxRecDepth 20000 in
theorem w_X11_feed_34 {G : GE} (d : Nat) {y1 : Int32} {y2 : Int64} {r : Option Value} {h' : HS}  : ∀ (n : Nat) {x4 : Int32} {h : HS} {q : HS}, LY TX h → l_X11_feed_34 y1 y2 n x4 h = some q → En G (d + 1) miX11_feed 65 [.ref 32, dum, dum, dum, dum] [] q r h' → En G (d + 1) miX11_feed 34 [.ref 32, .int y1, .long y2, dum, .int x4] [] h r h' := by
  intro n
  induction n with
  | zero => intro x4 h q hYTX H kE; exact nz H
  | succ n ih =>
    intro x4 h q hYTX H kE
    unfold l_X11_feed_34 at H
    refine e_iload dX11_feed_34 rfl ?_
    refine e_iload_n dX11_feed_36 rfl ?_
    refine e_icmp_ge (tgt := 65) dX11_feed_37 (by decide) (fun c10 => ?_) (fun c10 => ?_)
    · replace H := ot c10 H
      obtain rfl := Option.some.inj H
      exact e_wk (lk1 (lk0 (lk0 (lk1 (lk0 lkn))))) kE
    · replace H := of_ c10 H
      refine g_aload_n dX11_feed_40 rfl rfl ?_
      refine e_getR (hYTX.t 0 rfl) flX11_45_12 dX11_feed_41 rfl (hYTX.r 6 rfl) ?_
      refine e_lload_n dX11_feed_44 rfl ?_
      refine e_bipush (v := (8 : Int32)) dX11_feed_45 (by decide) ?_
      refine e_iload dX11_feed_47 rfl ?_
      refine e_imul dX11_feed_49 ?_
      refine e_lshr dX11_feed_50 ?_
      refine e_l2i dX11_feed_51 ?_
      refine e_sipush (v := (255 : Int32)) dX11_feed_52 (by decide) ?_
      refine e_iand dX11_feed_55 ?_
      replace H := ob H; obtain ⟨q11, c12, H⟩ := H
      refine v0 (hYTX.t 7 rfl) (by decide) rfl rfl lmX11_285 liX6_put lvX6_X6_put msX6_put dX11_feed_56 (t_X6_put (d + 0) hYTX c12) rfl (Nat.le_of_ble_eq_true rfl) (Nat.le_refl _) ?_
      have e13 := p_X6_put c12
      have hY14 := hYTX.pr okX e13
      refine e_iinc dX11_feed_59 rfl (ii_ (by decide : Int32.ofInt (1) = (1 : Int32))) (Nat.le_of_ble_eq_true rfl) rfl rfl ?_
      refine e_goto (tgt := 34) dX11_feed_62 (by decide) ?_
      exact e_wk (lk1 (lk1 (lk1 (lk1 (lk1 lkn))))) (ih hY14 H kE)
def f_X11_feed (p1 : Int32) (p2 : Int64) (h : HS) : Option (Int32 × HS) := (Option.bind (f_X11_isIn p1 (1 : Int32) (8 : Int32)) (fun q1 => (if q1 = true then (if ((hI h 39 1) + p1) ≤ (160 : Int32) then (Option.bind (l_X11_feed_34 p1 p2 1000 (0 : Int32) h) (fun q15 => (some ((hI q15 39 1), q15)))) else (some ((-4 : Int32), h))) else (some ((-2 : Int32), h)))))
set_option maxHeartbeats 4000000 in
set_option maxRecDepth 20000 in
theorem p_X11_feed {p1 : Int32} {p2 : Int64} {h : HS} {q : (Int32 × HS)} (H : f_X11_feed p1 p2 h = some q) : Pr h q.2 := by
  unfold f_X11_feed at H
  replace H := ob H; obtain ⟨q1, c2, H⟩ := H
  replace H := oi H; obtain ⟨c3, H⟩ | ⟨c3, H⟩ := H
  · replace H := oi H; obtain ⟨c4, H⟩ | ⟨c4, H⟩ := H
    · replace H := ob H; obtain ⟨q15, c16, H⟩ := H
      have e17 := p_X11_feed_34 1000 c16
      obtain rfl := Option.some.inj H
      exact e17
    · obtain rfl := Option.some.inj H
      exact Pr.rf
  · obtain rfl := Option.some.inj H
    exact Pr.rf
set_option maxHeartbeats 4000000 in
set_option maxRecDepth 20000 in
theorem t_X11_feed {G : GE} (d : Nat) {p1 : Int32} {p2 : Int64} {h : HS} {q : (Int32 × HS)} (hY : LY TX h) (H : f_X11_feed p1 p2 h = some q) : CE G (d + 1) yX11_feed miX11_feed [.ref 32, .int p1, .long p2] h (some (.int q.1)) (q.2) := by
  unfold f_X11_feed at H
  refine ce_of rfl (by decide) (fun q => by first | rfl | cases q) (Nat.le_of_ble_eq_true rfl) rfl ?_
  refine e_iload_n dX11_feed_0 rfl ?_
  refine e_iconst (v := (1 : Int32)) dX11_feed_1 (by decide) ?_
  refine e_bipush (v := (8 : Int32)) dX11_feed_2 (by decide) ?_
  replace H := ob H; obtain ⟨q1, c2, H⟩ := H
  refine s1 lmX11_106 lsX11_isIn msX11_isIn dX11_feed_4 (t_X11_isIn (d + 0) c2) rfl (Nat.le_of_ble_eq_true rfl) (Nat.le_refl _) ?_
  refine e_ifB_ne (tgt := 13) dX11_feed_7 (by decide) (fun c3 => ?_) (fun c3 => ?_)
  · replace H := ot c3 H
    refine g_aload_n dX11_feed_13 rfl rfl ?_
    refine e_getR (hY.t 0 rfl) flX11_45_12 dX11_feed_14 rfl (hY.r 6 rfl) ?_
    refine e_getI (hY.t 7 rfl) flX11_284_7 dX11_feed_17 rfl ?_
    refine e_iload_n dX11_feed_20 rfl ?_
    refine e_iadd dX11_feed_21 ?_
    refine e_sipush (v := (160 : Int32)) dX11_feed_22 (by decide) ?_
    refine e_icmp_le (tgt := 31) dX11_feed_25 (by decide) (fun c4 => ?_) (fun c4 => ?_)
    · replace H := ot c4 H
      refine e_iconst (v := (0 : Int32)) dX11_feed_31 (by decide) ?_
      refine e_istore dX11_feed_32 (Nat.le_of_ble_eq_true rfl) rfl rfl ?_
      replace H := ob H; obtain ⟨q15, c16, H⟩ := H
      have e17 := p_X11_feed_34 1000 c16
      have hY18 := hY.pr okX e17
      refine e_wk (lk1 (lk1 (lk1 (lk1 (lk1 lkn))))) (w_X11_feed_34 d 1000 hY c16 ?_)
      refine g_aload_n dX11_feed_65 rfl rfl ?_
      refine e_getR (hY18.t 0 rfl) flX11_45_12 dX11_feed_66 rfl (hY18.r 6 rfl) ?_
      refine e_getI (hY18.t 7 rfl) flX11_284_7 dX11_feed_69 rfl ?_
      obtain rfl := Option.some.inj H
      exact z_iret rfl rfl dX11_feed_72 rfl rfl
    · replace H := of_ c4 H
      refine e_bipush (v := (-4 : Int32)) dX11_feed_28 (by decide) ?_
      obtain rfl := Option.some.inj H
      exact z_iret rfl rfl dX11_feed_30 rfl rfl
  · replace H := of_ (nb c3) H
    refine e_bipush (v := (-2 : Int32)) dX11_feed_10 (by decide) ?_
    obtain rfl := Option.some.inj H
    exact z_iret rfl rfl dX11_feed_12 rfl rfl
-- X11_text
def f_X11_text  (h : HS) : Option (Int32 × HS) := (if hT h 35 = 1 then (Option.bind (f_Jx4a65c_size_8abf5 35 h) (fun q1 => (if q1 < (6 : Int32) then (Option.bind (f_X6_read h) (fun q5 => (om q5.1 (some (((-100 : Int32) - (hI q5.2 39 8)), q5.2)) (fun b8 => (Option.bind (f_Jx4a65c_add_9ea2d 35 b8 q5.2) (fun q14 => (Option.bind (f_Jx4a65c_size_8abf5 35 q14.2) (fun q19 => (some ((q19 - (1 : Int32)), q14.2)))))))))) else (some ((-4 : Int32), h))))) else none)
set_option maxHeartbeats 4000000 in
set_option maxRecDepth 20000 in
theorem p_X11_text  {h : HS} {q : (Int32 × HS)} (H : f_X11_text h = some q) : Pr h q.2 := by
  unfold f_X11_text at H
  replace H := og H; obtain ⟨g3, H⟩ := H
  replace H := ob H; obtain ⟨q1, c2, H⟩ := H
  replace H := oi H; obtain ⟨c4, H⟩ | ⟨c4, H⟩ := H
  · replace H := ob H; obtain ⟨q5, c6, H⟩ := H
    have e9 := p_X6_read c6
    replace H := oom H; obtain ⟨e7, H⟩ | ⟨b8, e7, H⟩ := H
    · obtain rfl := Option.some.inj H
      exact e9
    · replace H := ob H; obtain ⟨q14, c15, H⟩ := H
      have e16 := p_Jx4a65c_add_9ea2d c15
      replace H := ob H; obtain ⟨q19, c20, H⟩ := H
      obtain rfl := Option.some.inj H
      exact (e9.tr e16)
  · obtain rfl := Option.some.inj H
    exact Pr.rf
set_option maxHeartbeats 4000000 in
set_option maxRecDepth 20000 in
theorem t_X11_text {G : GE} (d : Nat)  {h : HS} {q : (Int32 × HS)} (hY : LY TX h) (H : f_X11_text h = some q) : CE G (d + 65) yX11_text miX11_text [.ref 32] h (some (.int q.1)) (q.2) := by
  unfold f_X11_text at H
  refine ce_of rfl (by decide) (fun q => by first | rfl | cases q) (Nat.le_of_ble_eq_true rfl) rfl ?_
  refine g_aload_n dX11_text_0 rfl rfl ?_
  refine e_getR (hY.t 0 rfl) flX11_19_12 dX11_text_1 rfl (hY.r 2 rfl) ?_
  replace H := og H; obtain ⟨g3, H⟩ := H
  replace H := ob H; obtain ⟨q1, c2, H⟩ := H
  refine v1 (hY.t 3 rfl) (by decide) rfl rfl lmX11_114 liJx4a65c_size_8abf5 lvJx4a65c_Jx4a65c_size_8abf5 msJx4a65c_size_8abf5 dX11_text_4 (t_Jx4a65c_size_8abf5 (d + 64) c2) rfl (Nat.le_of_ble_eq_true rfl) (Nat.le_refl _) ?_
  refine e_bipush (v := (6 : Int32)) dX11_text_7 (by decide) ?_
  refine e_icmp_lt (tgt := 15) dX11_text_9 (by decide) (fun c4 => ?_) (fun c4 => ?_)
  · replace H := ot c4 H
    refine g_aload_n dX11_text_15 rfl rfl ?_
    refine e_getR (hY.t 0 rfl) flX11_45_12 dX11_text_16 rfl (hY.r 6 rfl) ?_
    replace H := ob H; obtain ⟨q5, c6, H⟩ := H
    have e9 := p_X6_read c6
    have hY10 := hY.pr okX e9
    have f11 := e9.k g3 (by decide)
    replace H := oom H; obtain ⟨e7, H⟩ | ⟨b8, e7, H⟩ := H
    · refine v1 (hY.t 7 rfl) (by decide) rfl rfl lmX11_98 liX6_read lvX6_X6_read msX6_read dX11_text_19 (ceN e7 (t_X6_read (d + 0) hY c6)) rfl (Nat.le_of_ble_eq_true rfl) (Nat.le_refl _) ?_
      refine g_astore_n dX11_text_22 (Nat.le_of_ble_eq_true rfl) rfl rfl rfl ?_
      refine g_aload_n dX11_text_23 rfl rfl ?_
      refine e_ifnonnullN dX11_text_24 ?_
      refine e_bipush (v := (-100 : Int32)) dX11_text_27 (by decide) ?_
      refine g_aload_n dX11_text_29 rfl rfl ?_
      refine e_getR (hY10.t 0 rfl) flX11_45_12 dX11_text_30 rfl (hY10.r 6 rfl) ?_
      refine e_getI (hY10.t 7 rfl) flX11_289_7 dX11_text_33 rfl ?_
      refine e_isub dX11_text_36 ?_
      obtain rfl := Option.some.inj H
      exact z_iret rfl rfl dX11_text_37 rfl rfl
    · refine v1 (hY.t 7 rfl) (by decide) rfl rfl lmX11_98 liX6_read lvX6_X6_read msX6_read dX11_text_19 (ceS e7 (t_X6_read (d + 0) hY c6)) rfl (Nat.le_of_ble_eq_true rfl) (Nat.le_refl _) ?_
      refine g_astore_n dX11_text_22 (Nat.le_of_ble_eq_true rfl) rfl rfl rfl ?_
      refine g_aload_n dX11_text_23 rfl rfl ?_
      refine e_ifnonnull (tgt := 38) dX11_text_24 (by decide) ?_
      refine g_aload_n dX11_text_38 rfl rfl ?_
      refine e_getR (hY10.t 0 rfl) flX11_19_12 dX11_text_39 rfl (hY10.r 2 rfl) ?_
      refine g_aload_n dX11_text_42 rfl rfl ?_
      replace H := ob H; obtain ⟨q14, c15, H⟩ := H
      refine v1 (hY10.t 3 rfl) (by decide) rfl rfl lmX11_102 liJx4a65c_add_9ea2d lvJx4a65c_Jx4a65c_add_9ea2d msJx4a65c_add_9ea2d dX11_text_43 (t_Jx4a65c_add_9ea2d (d + 60) c15) rfl (Nat.le_of_ble_eq_true rfl) (Nat.le_refl _) ?_
      have e16 := p_Jx4a65c_add_9ea2d c15
      have hY17 := hY10.pr okX e16
      have f18 := e16.k f11 (by decide)
      refine e_pop dX11_text_46 rfl ?_
      refine g_aload_n dX11_text_47 rfl rfl ?_
      refine e_getR (hY17.t 0 rfl) flX11_19_12 dX11_text_48 rfl (hY17.r 2 rfl) ?_
      replace H := ob H; obtain ⟨q19, c20, H⟩ := H
      refine v1 (hY17.t 3 rfl) (by decide) rfl rfl lmX11_114 liJx4a65c_size_8abf5 lvJx4a65c_Jx4a65c_size_8abf5 msJx4a65c_size_8abf5 dX11_text_51 (t_Jx4a65c_size_8abf5 (d + 64) c20) rfl (Nat.le_of_ble_eq_true rfl) (Nat.le_refl _) ?_
      refine e_iconst (v := (1 : Int32)) dX11_text_54 (by decide) ?_
      refine e_isub dX11_text_55 ?_
      obtain rfl := Option.some.inj H
      exact z_iret rfl rfl dX11_text_56 rfl rfl
  · replace H := of_ c4 H
    refine e_bipush (v := (-4 : Int32)) dX11_text_12 (by decide) ?_
    obtain rfl := Option.some.inj H
    exact z_iret rfl rfl dX11_text_14 rfl rfl
-- X11_force
def f_X11_force (p1 : Int32) (h : HS) : Option (Int32 × HS) := (if hT h 35 = 1 then (Option.bind (f_Jx4a65c_size_8abf5 35 h) (fun q1 => (Option.bind (f_X11_isIn p1 (0 : Int32) (q1 - (1 : Int32))) (fun q4 => (if q4 = true then (some ((hI h 32 3), (sI h 32 3 p1))) else (some ((-2 : Int32), h))))))) else none)
set_option maxHeartbeats 4000000 in
set_option maxRecDepth 20000 in
theorem p_X11_force {p1 : Int32} {h : HS} {q : (Int32 × HS)} (H : f_X11_force p1 h = some q) : Pr h q.2 := by
  unfold f_X11_force at H
  replace H := og H; obtain ⟨g3, H⟩ := H
  replace H := ob H; obtain ⟨q1, c2, H⟩ := H
  replace H := ob H; obtain ⟨q4, c5, H⟩ := H
  replace H := oi H; obtain ⟨c6, H⟩ | ⟨c6, H⟩ := H
  · obtain rfl := Option.some.inj H
    exact (Pr.rf.sI)
  · obtain rfl := Option.some.inj H
    exact Pr.rf
set_option maxHeartbeats 4000000 in
set_option maxRecDepth 20000 in
theorem t_X11_force {G : GE} (d : Nat) {p1 : Int32} {h : HS} {q : (Int32 × HS)} (hY : LY TX h) (H : f_X11_force p1 h = some q) : CE G (d + 1) yX11_force miX11_force [.ref 32, .int p1] h (some (.int q.1)) (q.2) := by
  unfold f_X11_force at H
  refine ce_of rfl (by decide) (fun q => by first | rfl | cases q) (Nat.le_of_ble_eq_true rfl) rfl ?_
  refine e_iload_n dX11_force_0 rfl ?_
  refine e_iconst (v := (0 : Int32)) dX11_force_1 (by decide) ?_
  refine g_aload_n dX11_force_2 rfl rfl ?_
  refine e_getR (hY.t 0 rfl) flX11_19_12 dX11_force_3 rfl (hY.r 2 rfl) ?_
  replace H := og H; obtain ⟨g3, H⟩ := H
  replace H := ob H; obtain ⟨q1, c2, H⟩ := H
  refine v1 (hY.t 3 rfl) (by decide) rfl rfl lmX11_114 liJx4a65c_size_8abf5 lvJx4a65c_Jx4a65c_size_8abf5 msJx4a65c_size_8abf5 dX11_force_6 (t_Jx4a65c_size_8abf5 (d + 0) c2) rfl (Nat.le_of_ble_eq_true rfl) (Nat.le_refl _) ?_
  refine e_iconst (v := (1 : Int32)) dX11_force_9 (by decide) ?_
  refine e_isub dX11_force_10 ?_
  replace H := ob H; obtain ⟨q4, c5, H⟩ := H
  refine s1 lmX11_106 lsX11_isIn msX11_isIn dX11_force_11 (t_X11_isIn (d + 0) c5) rfl (Nat.le_of_ble_eq_true rfl) (Nat.le_refl _) ?_
  refine e_ifB_ne (tgt := 20) dX11_force_14 (by decide) (fun c6 => ?_) (fun c6 => ?_)
  · replace H := ot c6 H
    refine g_aload_n dX11_force_20 rfl rfl ?_
    refine e_getI (hY.t 0 rfl) flX11_22_12 dX11_force_21 rfl ?_
    refine e_istore_n dX11_force_24 (Nat.le_of_ble_eq_true rfl) rfl rfl ?_
    refine g_aload_n dX11_force_25 rfl rfl ?_
    refine e_iload_n dX11_force_26 rfl ?_
    refine e_putI (hY.t 0 rfl) fpX11_22_12 rfl dX11_force_27 ?_
    refine e_iload_n dX11_force_30 rfl ?_
    obtain rfl := Option.some.inj H
    exact z_iret rfl rfl dX11_force_31 rfl rfl
  · replace H := of_ (nb c6) H
    refine e_bipush (v := (-2 : Int32)) dX11_force_17 (by decide) ?_
    obtain rfl := Option.some.inj H
    exact z_iret rfl rfl dX11_force_19 rfl rfl
-- X11_thousandths
def f_X11_thousandths (p1 : Nat) (p2 : Nat) (p3 : Int32) (h : HS) : Option (Int32 × HS) := (if isSt (hT h p1) = true then (Option.bind (f_X2_fill p1 (hI h p1 7) h) (fun q2 => (Option.bind (f_X2_winning p2 p3 q2) (fun q7 => (if hT q2 p2 = 5 then (Option.bind (f_X11_quotient ((1000 : Int64) * q7.toInt64) (hI q2 p2 4).toInt64) (fun q10 => (some (q10.toInt32, q2)))) else none))))) else none)
set_option maxHeartbeats 4000000 in
set_option maxRecDepth 20000 in
theorem p_X11_thousandths {p1 : Nat} {p2 : Nat} {p3 : Int32} {h : HS} {q : (Int32 × HS)} (H : f_X11_thousandths p1 p2 p3 h = some q) : Pr h q.2 := by
  unfold f_X11_thousandths at H
  replace H := og H; obtain ⟨g1, H⟩ := H
  replace H := ob H; obtain ⟨q2, c3, H⟩ := H
  have e4 := p_X2_fill c3
  replace H := ob H; obtain ⟨q7, c8, H⟩ := H
  replace H := og H; obtain ⟨g9, H⟩ := H
  replace H := ob H; obtain ⟨q10, c11, H⟩ := H
  obtain rfl := Option.some.inj H
  exact e4
set_option maxHeartbeats 4000000 in
set_option maxRecDepth 20000 in
theorem t_X11_thousandths {G : GE} (d : Nat) {p1 : Nat} {p2 : Nat} {p3 : Int32} {h : HS} {q : (Int32 × HS)} (hY : LY TX h) (H : f_X11_thousandths p1 p2 p3 h = some q) : CE G (d + 5) yX11_thousandths miX11_thousandths [.ref 32, .ref p1, .ref p2, .int p3] h (some (.int q.1)) (q.2) := by
  unfold f_X11_thousandths at H
  refine ce_of rfl (by decide) (fun q => by first | rfl | cases q) (Nat.le_of_ble_eq_true rfl) rfl ?_
  refine g_aload_n dX11_thousandths_0 rfl rfl ?_
  refine e_getR (hY.t 0 rfl) flX11_67_12 dX11_thousandths_1 rfl (hY.r 10 rfl) ?_
  refine g_aload_n dX11_thousandths_4 rfl rfl ?_
  refine g_aload_n dX11_thousandths_5 rfl rfl ?_
  replace H := og H; obtain ⟨g1, H⟩ := H
  refine gmX11_160_isSt g1 dX11_thousandths_6 ?_
  replace H := ob H; obtain ⟨q2, c3, H⟩ := H
  refine v0 (hY.t 16 rfl) (by decide) rfl rfl lmX11_191 liX2_fill lvX2_X2_fill msX2_fill dX11_thousandths_9 (t_X2_fill (d + 0) hY c3) rfl (Nat.le_of_ble_eq_true rfl) (Nat.le_refl _) ?_
  have e4 := p_X2_fill c3
  have hY5 := hY.pr okX e4
  have f6 := e4.b g1 rfl
  refine e_ldc2 (v := (1000 : Int64)) lkX11_335 dX11_thousandths_12 ?_
  refine g_aload_n dX11_thousandths_15 rfl rfl ?_
  refine e_getR (hY5.t 0 rfl) flX11_67_12 dX11_thousandths_16 rfl (hY5.r 10 rfl) ?_
  refine g_aload_n dX11_thousandths_19 rfl rfl ?_
  refine e_iload_n dX11_thousandths_20 rfl ?_
  replace H := ob H; obtain ⟨q7, c8, H⟩ := H
  refine v1 (hY5.t 16 rfl) (by decide) rfl rfl lmX11_195 liX2_winning lvX2_X2_winning msX2_winning dX11_thousandths_21 (t_X2_winning (d + 2) hY5 c8) rfl (Nat.le_of_ble_eq_true rfl) (Nat.le_refl _) ?_
  refine e_i2l dX11_thousandths_24 ?_
  refine e_lmul dX11_thousandths_25 ?_
  refine g_aload_n dX11_thousandths_26 rfl rfl ?_
  replace H := og H; obtain ⟨g9, H⟩ := H
  refine e_getI g9 flX11_199_4 dX11_thousandths_27 rfl ?_
  refine e_i2l dX11_thousandths_30 ?_
  replace H := ob H; obtain ⟨q10, c11, H⟩ := H
  refine s1 lmX11_267 lsX11_quotient msX11_quotient dX11_thousandths_31 (t_X11_quotient (d + 4) c11) rfl (Nat.le_of_ble_eq_true rfl) (Nat.le_refl _) ?_
  refine e_l2i dX11_thousandths_34 ?_
  obtain rfl := Option.some.inj H
  exact z_iret rfl rfl dX11_thousandths_35 rfl rfl
-- X11_says
def f_X11_says (p1 : Int32) (p2 : Int32) (p3 : Int32) (p4 : Int32) (p5 : Int32) (h : HS) : Option (Int64 × HS) := (Option.bind (f_X11_stallAt p1 h) (fun q1 => (om q1 (Option.bind (f_X11_handAt p2 h) (fun q5 => (om q5 (some ((-4611686018427387904 : Int64), h)) (fun b8 => (some ((-4611686018427387904 : Int64), h)))))) (fun b4 => (Option.bind (f_X11_handAt p2 h) (fun q11 => (om q11 (some ((-4611686018427387904 : Int64), h)) (fun b14 => (Option.bind (f_X11_isPlace p3) (fun q19 => (if q19 = true then (Option.bind (f_X11_isBit p4) (fun q22 => (if q22 = true then (Option.bind (f_X11_isIn p5 (0 : Int32) (9999 : Int32)) (fun q25 => (if q25 = true then (Option.bind (f_X11_thousandths b4 b14 p3 h) (fun q28 => (Option.bind (f_X11_tellValues b4 q28.1 q28.2) (fun q32 => (if p4 = (1 : Int32) then (Option.bind (f_X11_ruleSays (1 : Int32) (0 : Int32) (0 : Int32) q32) (fun q41 => (some (q41.1.toInt64, q41.2)))) else (Option.bind (f_X11_ruleSays (0 : Int32) (p5 / (100 : Int32)) (p5 - p5 / (100 : Int32) * (100 : Int32)) q32) (fun q37 => (some (q37.1.toInt64, q37.2))))))))) else (some ((-4611686018427387904 : Int64), h))))) else (some ((-4611686018427387904 : Int64), h))))) else (some ((-4611686018427387904 : Int64), h)))))))))))))
set_option maxHeartbeats 4000000 in
set_option maxRecDepth 20000 in
theorem p_X11_says {p1 : Int32} {p2 : Int32} {p3 : Int32} {p4 : Int32} {p5 : Int32} {h : HS} {q : (Int64 × HS)} (H : f_X11_says p1 p2 p3 p4 p5 h = some q) : Pr h q.2 := by
  unfold f_X11_says at H
  replace H := ob H; obtain ⟨q1, c2, H⟩ := H
  replace H := oom H; obtain ⟨e3, H⟩ | ⟨b4, e3, H⟩ := H
  · replace H := ob H; obtain ⟨q5, c6, H⟩ := H
    replace H := oom H; obtain ⟨e7, H⟩ | ⟨b8, e7, H⟩ := H
    · obtain rfl := Option.some.inj H
      exact Pr.rf
    · obtain rfl := Option.some.inj H
      exact Pr.rf
  · replace H := ob H; obtain ⟨q11, c12, H⟩ := H
    replace H := oom H; obtain ⟨e13, H⟩ | ⟨b14, e13, H⟩ := H
    · obtain rfl := Option.some.inj H
      exact Pr.rf
    · replace H := ob H; obtain ⟨q19, c20, H⟩ := H
      replace H := oi H; obtain ⟨c21, H⟩ | ⟨c21, H⟩ := H
      · replace H := ob H; obtain ⟨q22, c23, H⟩ := H
        replace H := oi H; obtain ⟨c24, H⟩ | ⟨c24, H⟩ := H
        · replace H := ob H; obtain ⟨q25, c26, H⟩ := H
          replace H := oi H; obtain ⟨c27, H⟩ | ⟨c27, H⟩ := H
          · replace H := ob H; obtain ⟨q28, c29, H⟩ := H
            have e30 := p_X11_thousandths c29
            replace H := ob H; obtain ⟨q32, c33, H⟩ := H
            have e34 := p_X11_tellValues c33
            replace H := oi H; obtain ⟨c36, H⟩ | ⟨c36, H⟩ := H
            · replace H := ob H; obtain ⟨q41, c42, H⟩ := H
              have e43 := p_X11_ruleSays c42
              obtain rfl := Option.some.inj H
              exact ((e30.tr e34).tr e43)
            · replace H := ob H; obtain ⟨q37, c38, H⟩ := H
              have e39 := p_X11_ruleSays c38
              obtain rfl := Option.some.inj H
              exact ((e30.tr e34).tr e39)
          · obtain rfl := Option.some.inj H
            exact Pr.rf
        · obtain rfl := Option.some.inj H
          exact Pr.rf
      · obtain rfl := Option.some.inj H
        exact Pr.rf
set_option maxHeartbeats 4000000 in
set_option maxRecDepth 20000 in
theorem t_X11_says {G : GE} (d : Nat) {p1 : Int32} {p2 : Int32} {p3 : Int32} {p4 : Int32} {p5 : Int32} {h : HS} {q : (Int64 × HS)} (hY : LY TX h) (H : f_X11_says p1 p2 p3 p4 p5 h = some q) : CE G (d + 6) yX11_says miX11_says [.ref 32, .int p1, .int p2, .int p3, .int p4, .int p5] h (some (.long q.1)) (q.2) := by
  unfold f_X11_says at H
  refine ce_of rfl (by decide) (fun q => by first | rfl | cases q) (Nat.le_of_ble_eq_true rfl) rfl ?_
  refine g_aload_n dX11_says_0 rfl rfl ?_
  refine e_iload_n dX11_says_1 rfl ?_
  replace H := ob H; obtain ⟨q1, c2, H⟩ := H
  replace H := oom H; obtain ⟨e3, H⟩ | ⟨b4, e3, H⟩ := H
  · refine v1 (hY.t 0 rfl) (by decide) rfl rfl lmX11_122 liX11_stallAt lvX11_X11_stallAt msX11_stallAt dX11_says_2 (ceN e3 (t_X11_stallAt (d + 2) hY c2)) rfl (Nat.le_of_ble_eq_true rfl) (Nat.le_refl _) ?_
    refine g_astore dX11_says_5 (Nat.le_of_ble_eq_true rfl) rfl rfl rfl ?_
    refine g_aload_n dX11_says_7 rfl rfl ?_
    refine e_iload_n dX11_says_8 rfl ?_
    replace H := ob H; obtain ⟨q5, c6, H⟩ := H
    replace H := oom H; obtain ⟨e7, H⟩ | ⟨b8, e7, H⟩ := H
    · refine v1 (hY.t 0 rfl) (by decide) rfl rfl lmX11_182 liX11_handAt lvX11_X11_handAt msX11_handAt dX11_says_9 (ceN e7 (t_X11_handAt (d + 2) hY c6)) rfl (Nat.le_of_ble_eq_true rfl) (Nat.le_refl _) ?_
      refine g_astore dX11_says_12 (Nat.le_of_ble_eq_true rfl) rfl rfl rfl ?_
      refine g_aload dX11_says_14 rfl rfl ?_
      refine e_ifnullN (tgt := 51) dX11_says_16 (by decide) ?_
      refine e_ldc2 (v := (-4611686018427387904 : Int64)) lkX11_189 dX11_says_51 ?_
      obtain rfl := Option.some.inj H
      exact z_lret rfl dX11_says_54 rfl rfl
    · refine v1 (hY.t 0 rfl) (by decide) rfl rfl lmX11_182 liX11_handAt lvX11_X11_handAt msX11_handAt dX11_says_9 (ceS e7 (t_X11_handAt (d + 2) hY c6)) rfl (Nat.le_of_ble_eq_true rfl) (Nat.le_refl _) ?_
      refine g_astore dX11_says_12 (Nat.le_of_ble_eq_true rfl) rfl rfl rfl ?_
      refine g_aload dX11_says_14 rfl rfl ?_
      refine e_ifnullN (tgt := 51) dX11_says_16 (by decide) ?_
      refine e_ldc2 (v := (-4611686018427387904 : Int64)) lkX11_189 dX11_says_51 ?_
      obtain rfl := Option.some.inj H
      exact z_lret rfl dX11_says_54 rfl rfl
  · refine v1 (hY.t 0 rfl) (by decide) rfl rfl lmX11_122 liX11_stallAt lvX11_X11_stallAt msX11_stallAt dX11_says_2 (ceS e3 (t_X11_stallAt (d + 2) hY c2)) rfl (Nat.le_of_ble_eq_true rfl) (Nat.le_refl _) ?_
    refine g_astore dX11_says_5 (Nat.le_of_ble_eq_true rfl) rfl rfl rfl ?_
    refine g_aload_n dX11_says_7 rfl rfl ?_
    refine e_iload_n dX11_says_8 rfl ?_
    replace H := ob H; obtain ⟨q11, c12, H⟩ := H
    replace H := oom H; obtain ⟨e13, H⟩ | ⟨b14, e13, H⟩ := H
    · refine v1 (hY.t 0 rfl) (by decide) rfl rfl lmX11_182 liX11_handAt lvX11_X11_handAt msX11_handAt dX11_says_9 (ceN e13 (t_X11_handAt (d + 2) hY c12)) rfl (Nat.le_of_ble_eq_true rfl) (Nat.le_refl _) ?_
      refine g_astore dX11_says_12 (Nat.le_of_ble_eq_true rfl) rfl rfl rfl ?_
      refine g_aload dX11_says_14 rfl rfl ?_
      refine e_ifnull dX11_says_16 ?_
      refine g_aload dX11_says_19 rfl rfl ?_
      refine e_ifnullN (tgt := 51) dX11_says_21 (by decide) ?_
      refine e_ldc2 (v := (-4611686018427387904 : Int64)) lkX11_189 dX11_says_51 ?_
      obtain rfl := Option.some.inj H
      exact z_lret rfl dX11_says_54 rfl rfl
    · refine v1 (hY.t 0 rfl) (by decide) rfl rfl lmX11_182 liX11_handAt lvX11_X11_handAt msX11_handAt dX11_says_9 (ceS e13 (t_X11_handAt (d + 2) hY c12)) rfl (Nat.le_of_ble_eq_true rfl) (Nat.le_refl _) ?_
      refine g_astore dX11_says_12 (Nat.le_of_ble_eq_true rfl) rfl rfl rfl ?_
      refine g_aload dX11_says_14 rfl rfl ?_
      refine e_ifnull dX11_says_16 ?_
      refine g_aload dX11_says_19 rfl rfl ?_
      refine e_ifnull dX11_says_21 ?_
      refine e_iload_n dX11_says_24 rfl ?_
      replace H := ob H; obtain ⟨q19, c20, H⟩ := H
      refine s1 lmX11_110 lsX11_isPlace msX11_isPlace dX11_says_25 (t_X11_isPlace (d + 5) c20) rfl (Nat.le_of_ble_eq_true rfl) (Nat.le_refl _) ?_
      refine e_ifB_eq (tgt := 51) dX11_says_28 (by decide) (fun c21 => ?_) (fun c21 => ?_)
      · replace H := of_ (nb c21) H
        refine e_ldc2 (v := (-4611686018427387904 : Int64)) lkX11_189 dX11_says_51 ?_
        obtain rfl := Option.some.inj H
        exact z_lret rfl dX11_says_54 rfl rfl
      · replace H := ot c21 H
        refine e_iload dX11_says_31 rfl ?_
        replace H := ob H; obtain ⟨q22, c23, H⟩ := H
        refine s1 lmX11_186 lsX11_isBit msX11_isBit dX11_says_33 (t_X11_isBit (d + 5) c23) rfl (Nat.le_of_ble_eq_true rfl) (Nat.le_refl _) ?_
        refine e_ifB_eq (tgt := 51) dX11_says_36 (by decide) (fun c24 => ?_) (fun c24 => ?_)
        · replace H := of_ (nb c24) H
          refine e_ldc2 (v := (-4611686018427387904 : Int64)) lkX11_189 dX11_says_51 ?_
          obtain rfl := Option.some.inj H
          exact z_lret rfl dX11_says_54 rfl rfl
        · replace H := ot c24 H
          refine e_iload dX11_says_39 rfl ?_
          refine e_iconst (v := (0 : Int32)) dX11_says_41 (by decide) ?_
          refine e_sipush (v := (9999 : Int32)) dX11_says_42 (by decide) ?_
          replace H := ob H; obtain ⟨q25, c26, H⟩ := H
          refine s1 lmX11_106 lsX11_isIn msX11_isIn dX11_says_45 (t_X11_isIn (d + 5) c26) rfl (Nat.le_of_ble_eq_true rfl) (Nat.le_refl _) ?_
          refine e_ifB_ne (tgt := 55) dX11_says_48 (by decide) (fun c27 => ?_) (fun c27 => ?_)
          · replace H := ot c27 H
            refine g_aload_n dX11_says_55 rfl rfl ?_
            refine g_aload dX11_says_56 rfl rfl ?_
            refine g_aload_n dX11_says_58 rfl rfl ?_
            refine g_aload dX11_says_59 rfl rfl ?_
            refine g_aload dX11_says_61 rfl rfl ?_
            refine e_iload_n dX11_says_63 rfl ?_
            replace H := ob H; obtain ⟨q28, c29, H⟩ := H
            refine v1 (hY.t 0 rfl) (by decide) rfl rfl lmX11_292 liX11_thousandths lvX11_X11_thousandths msX11_thousandths dX11_says_64 (t_X11_thousandths (d + 0) hY c29) rfl (Nat.le_of_ble_eq_true rfl) (Nat.le_refl _) ?_
            have e30 := p_X11_thousandths c29
            have hY31 := hY.pr okX e30
            replace H := ob H; obtain ⟨q32, c33, H⟩ := H
            refine v0 (hY31.t 0 rfl) (by decide) rfl rfl lmX11_296 liX11_tellValues lvX11_X11_tellValues msX11_tellValues dX11_says_67 (t_X11_tellValues (d + 5) hY31 c33) rfl (Nat.le_of_ble_eq_true rfl) (Nat.le_refl _) ?_
            have e34 := p_X11_tellValues c33
            have hY35 := hY31.pr okX e34
            refine e_iload dX11_says_70 rfl ?_
            refine e_iconst (v := (1 : Int32)) dX11_says_72 (by decide) ?_
            refine e_icmp_ne (tgt := 85) dX11_says_73 (by decide) (fun c36 => ?_) (fun c36 => ?_)
            · replace H := of_ c36 H
              refine g_aload_n dX11_says_85 rfl rfl ?_
              refine e_iconst (v := (0 : Int32)) dX11_says_86 (by decide) ?_
              refine e_iload dX11_says_87 rfl ?_
              refine e_bipush (v := (100 : Int32)) dX11_says_89 (by decide) ?_
              refine e_idiv dX11_says_91 (by decide) ?_
              refine e_iload dX11_says_92 rfl ?_
              refine e_bipush (v := (100 : Int32)) dX11_says_94 (by decide) ?_
              refine e_irem dX11_says_96 (by decide) ?_
              replace H := ob H; obtain ⟨q37, c38, H⟩ := H
              refine v1 (hY35.t 0 rfl) (by decide) rfl rfl lmX11_299 liX11_ruleSays lvX11_X11_ruleSays msX11_ruleSays dX11_says_97 (t_X11_ruleSays (d + 2) hY35 c38) rfl (Nat.le_of_ble_eq_true rfl) (Nat.le_refl _) ?_
              have e39 := p_X11_ruleSays c38
              have hY40 := hY35.pr okX e39
              refine e_i2l dX11_says_100 ?_
              obtain rfl := Option.some.inj H
              exact z_lret rfl dX11_says_101 rfl rfl
            · replace H := ot c36 H
              refine g_aload_n dX11_says_76 rfl rfl ?_
              refine e_iconst (v := (1 : Int32)) dX11_says_77 (by decide) ?_
              refine e_iconst (v := (0 : Int32)) dX11_says_78 (by decide) ?_
              refine e_iconst (v := (0 : Int32)) dX11_says_79 (by decide) ?_
              replace H := ob H; obtain ⟨q41, c42, H⟩ := H
              refine v1 (hY35.t 0 rfl) (by decide) rfl rfl lmX11_299 liX11_ruleSays lvX11_X11_ruleSays msX11_ruleSays dX11_says_80 (t_X11_ruleSays (d + 2) hY35 c42) rfl (Nat.le_of_ble_eq_true rfl) (Nat.le_refl _) ?_
              have e43 := p_X11_ruleSays c42
              have hY44 := hY35.pr okX e43
              refine e_i2l dX11_says_83 ?_
              obtain rfl := Option.some.inj H
              exact z_lret rfl dX11_says_84 rfl rfl
          · replace H := of_ (nb c27) H
            refine e_ldc2 (v := (-4611686018427387904 : Int64)) lkX11_189 dX11_says_51 ?_
            obtain rfl := Option.some.inj H
            exact z_lret rfl dX11_says_54 rfl rfl
-- X11_isPlayer
def f_X11_isPlayer (p1 : Int32) (p2 : Int32) (p3 : Int32) (p4 : Int32) (h : HS) : Option Bool := (if p1 < 0 then (some false) else (Option.bind (f_X11_stallAt (p1 / (10 : Int32)) h) (fun q2 => (om q2 (some false) (fun b5 => (Option.bind (f_X11_handAt (p1 - p1 / (10 : Int32) * (10 : Int32)) h) (fun q8 => (om q8 (some false) (fun b11 => (Option.bind (f_X11_isPlace p2) (fun q14 => (if q14 = true then (Option.bind (f_X11_isSeed p3) (fun q17 => (if q17 = true then (Option.bind (f_X11_isIn p4 (0 : Int32) (9999 : Int32)) (fun q20 => (if q20 = true then (some true) else (some false)))) else (some false)))) else (some false)))))))))))))
set_option maxHeartbeats 4000000 in
set_option maxRecDepth 20000 in
theorem t_X11_isPlayer {G : GE} (d : Nat) {p1 : Int32} {p2 : Int32} {p3 : Int32} {p4 : Int32} {h : HS} {q : Bool} (hY : LY TX h) (H : f_X11_isPlayer p1 p2 p3 p4 h = some q) : CE G (d + 4) yX11_isPlayer miX11_isPlayer [.ref 32, .int p1, .int p2, .int p3, .int p4] h (some (.int (b2i q))) (h) := by
  unfold f_X11_isPlayer at H
  refine ce_of rfl (by decide) (fun q => by first | rfl | cases q) (Nat.le_of_ble_eq_true rfl) rfl ?_
  refine e_iload_n dX11_isPlayer_0 rfl ?_
  refine e_if_lt (tgt := 56) dX11_isPlayer_1 (by decide) (fun c1 => ?_) (fun c1 => ?_)
  · replace H := ot c1 H
    refine e_iconst (v := (0 : Int32)) dX11_isPlayer_56 (by decide) ?_
    obtain rfl := Option.some.inj H
    exact z_iret rfl rfl dX11_isPlayer_57 rfl rfl
  · replace H := of_ c1 H
    refine g_aload_n dX11_isPlayer_4 rfl rfl ?_
    refine e_iload_n dX11_isPlayer_5 rfl ?_
    refine e_bipush (v := (10 : Int32)) dX11_isPlayer_6 (by decide) ?_
    refine e_idiv dX11_isPlayer_8 (by decide) ?_
    replace H := ob H; obtain ⟨q2, c3, H⟩ := H
    replace H := oom H; obtain ⟨e4, H⟩ | ⟨b5, e4, H⟩ := H
    · refine v1 (hY.t 0 rfl) (by decide) rfl rfl lmX11_122 liX11_stallAt lvX11_X11_stallAt msX11_stallAt dX11_isPlayer_9 (ceN e4 (t_X11_stallAt (d + 0) hY c3)) rfl (Nat.le_of_ble_eq_true rfl) (Nat.le_refl _) ?_
      refine e_ifnullN (tgt := 56) dX11_isPlayer_12 (by decide) ?_
      refine e_iconst (v := (0 : Int32)) dX11_isPlayer_56 (by decide) ?_
      obtain rfl := Option.some.inj H
      exact z_iret rfl rfl dX11_isPlayer_57 rfl rfl
    · refine v1 (hY.t 0 rfl) (by decide) rfl rfl lmX11_122 liX11_stallAt lvX11_X11_stallAt msX11_stallAt dX11_isPlayer_9 (ceS e4 (t_X11_stallAt (d + 0) hY c3)) rfl (Nat.le_of_ble_eq_true rfl) (Nat.le_refl _) ?_
      refine e_ifnull dX11_isPlayer_12 ?_
      refine g_aload_n dX11_isPlayer_15 rfl rfl ?_
      refine e_iload_n dX11_isPlayer_16 rfl ?_
      refine e_bipush (v := (10 : Int32)) dX11_isPlayer_17 (by decide) ?_
      refine e_irem dX11_isPlayer_19 (by decide) ?_
      replace H := ob H; obtain ⟨q8, c9, H⟩ := H
      replace H := oom H; obtain ⟨e10, H⟩ | ⟨b11, e10, H⟩ := H
      · refine v1 (hY.t 0 rfl) (by decide) rfl rfl lmX11_182 liX11_handAt lvX11_X11_handAt msX11_handAt dX11_isPlayer_20 (ceN e10 (t_X11_handAt (d + 0) hY c9)) rfl (Nat.le_of_ble_eq_true rfl) (Nat.le_refl _) ?_
        refine e_ifnullN (tgt := 56) dX11_isPlayer_23 (by decide) ?_
        refine e_iconst (v := (0 : Int32)) dX11_isPlayer_56 (by decide) ?_
        obtain rfl := Option.some.inj H
        exact z_iret rfl rfl dX11_isPlayer_57 rfl rfl
      · refine v1 (hY.t 0 rfl) (by decide) rfl rfl lmX11_182 liX11_handAt lvX11_X11_handAt msX11_handAt dX11_isPlayer_20 (ceS e10 (t_X11_handAt (d + 0) hY c9)) rfl (Nat.le_of_ble_eq_true rfl) (Nat.le_refl _) ?_
        refine e_ifnull dX11_isPlayer_23 ?_
        refine e_iload_n dX11_isPlayer_26 rfl ?_
        replace H := ob H; obtain ⟨q14, c15, H⟩ := H
        refine s1 lmX11_110 lsX11_isPlace msX11_isPlace dX11_isPlayer_27 (t_X11_isPlace (d + 3) c15) rfl (Nat.le_of_ble_eq_true rfl) (Nat.le_refl _) ?_
        refine e_ifB_eq (tgt := 56) dX11_isPlayer_30 (by decide) (fun c16 => ?_) (fun c16 => ?_)
        · replace H := of_ (nb c16) H
          refine e_iconst (v := (0 : Int32)) dX11_isPlayer_56 (by decide) ?_
          obtain rfl := Option.some.inj H
          exact z_iret rfl rfl dX11_isPlayer_57 rfl rfl
        · replace H := ot c16 H
          refine e_iload_n dX11_isPlayer_33 rfl ?_
          replace H := ob H; obtain ⟨q17, c18, H⟩ := H
          refine s1 lmX11_228 lsX11_isSeed msX11_isSeed dX11_isPlayer_34 (t_X11_isSeed (d + 2) c18) rfl (Nat.le_of_ble_eq_true rfl) (Nat.le_refl _) ?_
          refine e_ifB_eq (tgt := 56) dX11_isPlayer_37 (by decide) (fun c19 => ?_) (fun c19 => ?_)
          · replace H := of_ (nb c19) H
            refine e_iconst (v := (0 : Int32)) dX11_isPlayer_56 (by decide) ?_
            obtain rfl := Option.some.inj H
            exact z_iret rfl rfl dX11_isPlayer_57 rfl rfl
          · replace H := ot c19 H
            refine e_iload dX11_isPlayer_40 rfl ?_
            refine e_iconst (v := (0 : Int32)) dX11_isPlayer_42 (by decide) ?_
            refine e_sipush (v := (9999 : Int32)) dX11_isPlayer_43 (by decide) ?_
            replace H := ob H; obtain ⟨q20, c21, H⟩ := H
            refine s1 lmX11_106 lsX11_isIn msX11_isIn dX11_isPlayer_46 (t_X11_isIn (d + 3) c21) rfl (Nat.le_of_ble_eq_true rfl) (Nat.le_refl _) ?_
            refine e_ifB_eq (tgt := 56) dX11_isPlayer_49 (by decide) (fun c22 => ?_) (fun c22 => ?_)
            · replace H := of_ (nb c22) H
              refine e_iconst (v := (0 : Int32)) dX11_isPlayer_56 (by decide) ?_
              obtain rfl := Option.some.inj H
              exact z_iret rfl rfl dX11_isPlayer_57 rfl rfl
            · replace H := ot c22 H
              refine e_iconst (v := (1 : Int32)) dX11_isPlayer_52 (by decide) ?_
              refine e_goto (tgt := 57) dX11_isPlayer_53 (by decide) ?_
              obtain rfl := Option.some.inj H
              exact z_iret rfl rfl dX11_isPlayer_57 rfl rfl
-- J7_fill_d0a16
def l_J7_fill_d0a16_6 (y0 : Nat) (y1 : Int64) (y4 : Int32)  : Nat → Int32 → HS → Option HS
  | 0, _, _ => none
  | n + 1, x3, h => (if y4 ≤ x3 then (some h) else (if hT h y0 = 16 then (if ixb x3 (hLn h y0) = true then (l_J7_fill_d0a16_6 y0 y1 y4 n (x3 + (1 : Int32)) (sL h y0 x3.toNatClampNeg y1)) else none) else none))
set_option maxHeartbeats 4000000 in
set_option maxRecDepth 20000 in
theorem p_J7_fill_d0a16_6 {y0 : Nat} {y1 : Int64} {y4 : Int32} : ∀ (n : Nat) {x3 : Int32} {h : HS} {q : HS}, l_J7_fill_d0a16_6 y0 y1 y4 n x3 h = some q → Pr h q := by
  intro n
  induction n with
  | zero => intro x3 h q H; exact nz H
  | succ n ih =>
    intro x3 h q H
    unfold l_J7_fill_d0a16_6 at H
    replace H := oi H; obtain ⟨c5, H⟩ | ⟨c5, H⟩ := H
    · obtain rfl := Option.some.inj H
      exact Pr.rf
    · replace H := og H; obtain ⟨g6, H⟩ := H
      replace H := og H; obtain ⟨g7, H⟩ := H
      exact (Pr.rf.sL).tr (ih H)
set_option maxHeartbeats 4000000 in
set_option maxRecDepth 20000 in
theorem w_J7_fill_d0a16_6 {G : GE} (d : Nat) {y0 : Nat} {y1 : Int64} {y4 : Int32} {r : Option Value} {h' : HS}  : ∀ (n : Nat) {x3 : Int32} {h : HS} {q : HS}, l_J7_fill_d0a16_6 y0 y1 y4 n x3 h = some q → En G (d + 0) miJ7_fill_d0a16 22 [dum, dum, dum, dum, dum] [] q r h' → En G (d + 0) miJ7_fill_d0a16 6 [.ref y0, .long y1, dum, .int x3, .int y4] [] h r h' := by
  intro n
  induction n with
  | zero => intro x3 h q H kE; exact nz H
  | succ n ih =>
    intro x3 h q H kE
    unfold l_J7_fill_d0a16_6 at H
    refine e_iload_n dJ7_fill_d0a16_6 rfl ?_
    refine e_iload dJ7_fill_d0a16_7 rfl ?_
    refine e_icmp_ge (tgt := 22) dJ7_fill_d0a16_9 (by decide) (fun c5 => ?_) (fun c5 => ?_)
    · replace H := ot c5 H
      obtain rfl := Option.some.inj H
      exact e_wk (lk0 (lk0 (lk1 (lk0 (lk0 lkn))))) kE
    · replace H := of_ c5 H
      refine g_aload_n dJ7_fill_d0a16_12 rfl rfl ?_
      refine e_iload_n dJ7_fill_d0a16_13 rfl ?_
      refine e_lload_n dJ7_fill_d0a16_14 rfl ?_
      replace H := og H; obtain ⟨g6, H⟩ := H
      replace H := og H; obtain ⟨g7, H⟩ := H
      refine e_last g6 (ixb_y rfl g7) dJ7_fill_d0a16_15 ?_
      refine e_iinc dJ7_fill_d0a16_16 rfl (ii_ (by decide : Int32.ofInt (1) = (1 : Int32))) (Nat.le_of_ble_eq_true rfl) rfl rfl ?_
      refine e_goto (tgt := 6) dJ7_fill_d0a16_19 (by decide) ?_
      exact e_wk (lk1 (lk1 (lk1 (lk1 (lk1 lkn))))) (ih H kE)
def f_J7_fill_d0a16 (p0 : Nat) (p1 : Int64) (h : HS) : Option HS := (if hT h p0 = 16 then (Option.bind (l_J7_fill_d0a16_6 p0 p1 (nI (hLn h p0)) 1000 (0 : Int32) h) (fun q8 => (some q8))) else none)
set_option maxHeartbeats 4000000 in
set_option maxRecDepth 20000 in
theorem p_J7_fill_d0a16 {p0 : Nat} {p1 : Int64} {h : HS} {q : HS} (H : f_J7_fill_d0a16 p0 p1 h = some q) : Pr h q := by
  unfold f_J7_fill_d0a16 at H
  replace H := og H; obtain ⟨g1, H⟩ := H
  replace H := ob H; obtain ⟨q8, c9, H⟩ := H
  have e10 := p_J7_fill_d0a16_6 1000 c9
  obtain rfl := Option.some.inj H
  exact e10
set_option maxHeartbeats 4000000 in
set_option maxRecDepth 20000 in
theorem t_J7_fill_d0a16 {G : GE} (d : Nat) {p0 : Nat} {p1 : Int64} {h : HS} {q : HS} (H : f_J7_fill_d0a16 p0 p1 h = some q) : CE G (d + 0) yJ7_fill_d0a16 miJ7_fill_d0a16 [.ref p0, .long p1] h (none) (q) := by
  unfold f_J7_fill_d0a16 at H
  refine ce_of rfl (by decide) (fun q => by first | rfl | cases q) (Nat.le_of_ble_eq_true rfl) rfl ?_
  refine e_iconst (v := (0 : Int32)) dJ7_fill_d0a16_0 (by decide) ?_
  refine e_istore_n dJ7_fill_d0a16_1 (Nat.le_of_ble_eq_true rfl) rfl rfl ?_
  refine g_aload_n dJ7_fill_d0a16_2 rfl rfl ?_
  replace H := og H; obtain ⟨g1, H⟩ := H
  refine e_alen g1 (by decide) dJ7_fill_d0a16_3 ?_
  refine e_istore dJ7_fill_d0a16_4 (Nat.le_of_ble_eq_true rfl) rfl rfl ?_
  replace H := ob H; obtain ⟨q8, c9, H⟩ := H
  have e10 := p_J7_fill_d0a16_6 1000 c9
  have f11 := e10.k g1 (by decide)
  refine e_wk (lk1 (lk1 (lk1 (lk1 (lk1 lkn))))) (w_J7_fill_d0a16_6 d 1000 c9 ?_)
  obtain rfl := Option.some.inj H
  exact z_vret rfl dJ7_fill_d0a16_22 rfl rfl
