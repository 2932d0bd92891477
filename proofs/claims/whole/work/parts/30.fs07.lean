-- X11_force
def f_X11_force (p1 : Int32) (h : HS) : Option (Int32 × HS) := (if hT h 35 = 1 then (Option.bind (f_Jx4a65c_size_8abf5 35 h) (fun q1 => (Option.bind (f_X11_isIn p1 (0 : Int32) (q1 - (1 : Int32))) (fun q4 => (if q4 = true then (some ((hI h 32 3), (sI h 32 3 p1))) else (some ((-2 : Int32), h))))))) else none)
set_option maxHeartbeats 4000000 in
set_option maxRecDepth 20000 in
theorem p_X11_force {p1 : Int32} {h : HS} {q : (Int32 × HS)} (H : f_X11_force p1 h = some q) : Pr h q.2 := by
  unfold f_X11_force at H
  replace H := og H; obtain ⟨g3, H⟩ := H
  replace H := ob H; obtain ⟨q1, c2, H⟩ := H
  replace H := ob H; obtain ⟨q4, c5, H⟩ := H
  replace H := oi H; obtain ⟨c6, H⟩ | ⟨c6, H⟩ := H
  · obtain rfl := Option.some.inj H
    exact Pr.rf
  · obtain rfl := Option.some.inj H
    exact Pr.rf
set_option maxHeartbeats 4000000 in
set_option maxRecDepth 20000 in
theorem t_X11_force {G : GE} (d : Nat) {p1 : Int32} {h : HS} {q : (Int32 × HS)} (hY : LY TX h) (H : f_X11_force p1 h = some q) : CE G (d + 1) yX11_force miX11_force [.ref 32, .int p1] h (some (.int q.1)) (q.2) := by
  unfold f_X11_force at H
  refine ce_of rfl (by decide) (fun q => by first | rfl | cases q) (Nat.le_of_ble_eq_true rfl) rfl ?_
  refine e_iload_n dX11_force_0 rfl ?_
  refine e_iconst (v := (0 : Int32)) dX11_force_1 (by decide) ?_
  refine g_aload_n dX11_force_2 rfl rfl ?_
  refine e_getR (hY.t 0 rfl) flX11_19_12 dX11_force_3 rfl (hY.r 2 rfl) ?_
  replace H := og H; obtain ⟨g3, H⟩ := H
  replace H := ob H; obtain ⟨q1, c2, H⟩ := H
  refine v1 (hY.t 3 rfl) (by decide) rfl rfl lmX11_114 liJx4a65c_size_8abf5 lvJx4a65c_Jx4a65c_size_8abf5 msJx4a65c_size_8abf5 dX11_force_6 (t_Jx4a65c_size_8abf5 (d + 0) c2) rfl (Nat.le_of_ble_eq_true rfl) (Nat.le_refl _) ?_
  refine e_iconst (v := (1 : Int32)) dX11_force_9 (by decide) ?_
  refine e_isub dX11_force_10 ?_
  replace H := ob H; obtain ⟨q4, c5, H⟩ := H
  refine s1 lmX11_106 lsX11_isIn msX11_isIn dX11_force_11 (t_X11_isIn (d + 0) c5) rfl (Nat.le_of_ble_eq_true rfl) (Nat.le_refl _) ?_
  refine e_ifB_ne (tgt := 20) dX11_force_14 (by decide) (fun c6 => ?_) (fun c6 => ?_)
  · replace H := ot c6 H
    refine g_aload_n dX11_force_20 rfl rfl ?_
    refine e_getI (hY.t 0 rfl) flX11_22_12 dX11_force_21 rfl ?_
    refine e_istore_n dX11_force_24 (Nat.le_of_ble_eq_true rfl) rfl rfl ?_
    refine g_aload_n dX11_force_25 rfl rfl ?_
    refine e_iload_n dX11_force_26 rfl ?_
    refine e_putI (hY.t 0 rfl) fpX11_22_12 rfl dX11_force_27 ?_
    refine e_iload_n dX11_force_30 rfl ?_
    obtain rfl := Option.some.inj H
    exact z_iret rfl rfl dX11_force_31 rfl rfl
  · replace H := of_ (nb c6) H
    refine e_bipush (v := (-2 : Int32)) dX11_force_17 (by decide) ?_
    obtain rfl := Option.some.inj H
    exact z_iret rfl rfl dX11_force_19 rfl rfl
-- X11_thousandths
def f_X11_thousandths (p1 : Nat) (p2 : Nat) (p3 : Int32) (h : HS) : Option (Int32 × HS) := (if isSt (hT h p1) = true then (Option.bind (f_X2_fill p1 (hI h p1 7) h) (fun q2 => (Option.bind (f_X2_winning p2 p3 q2) (fun q6 => (if hT q2 p2 = 5 then (Option.bind (f_X11_quotient ((1000 : Int64) * q6.toInt64) (hI q2 p2 4).toInt64) (fun q9 => (some (q9.toInt32, q2)))) else none))))) else none)
set_option maxHeartbeats 4000000 in
set_option maxRecDepth 20000 in
theorem p_X11_thousandths {p1 : Nat} {p2 : Nat} {p3 : Int32} {h : HS} {q : (Int32 × HS)} (H : f_X11_thousandths p1 p2 p3 h = some q) : Pr h q.2 := by
  unfold f_X11_thousandths at H
  replace H := og H; obtain ⟨g1, H⟩ := H
  replace H := ob H; obtain ⟨q2, c3, H⟩ := H
  have e4 := p_X2_fill c3
  replace H := ob H; obtain ⟨q6, c7, H⟩ := H
  replace H := og H; obtain ⟨g8, H⟩ := H
  replace H := ob H; obtain ⟨q9, c10, H⟩ := H
  obtain rfl := Option.some.inj H
  exact e4
set_option maxHeartbeats 4000000 in
set_option maxRecDepth 20000 in
theorem t_X11_thousandths {G : GE} (d : Nat) {p1 : Nat} {p2 : Nat} {p3 : Int32} {h : HS} {q : (Int32 × HS)} (hY : LY TX h) (H : f_X11_thousandths p1 p2 p3 h = some q) : CE G (d + 5) yX11_thousandths miX11_thousandths [.ref 32, .ref p1, .ref p2, .int p3] h (some (.int q.1)) (q.2) := by
  unfold f_X11_thousandths at H
  refine ce_of rfl (by decide) (fun q => by first | rfl | cases q) (Nat.le_of_ble_eq_true rfl) rfl ?_
  refine g_aload_n dX11_thousandths_0 rfl rfl ?_
  refine e_getR (hY.t 0 rfl) flX11_67_12 dX11_thousandths_1 rfl (hY.r 10 rfl) ?_
  refine g_aload_n dX11_thousandths_4 rfl rfl ?_
  refine g_aload_n dX11_thousandths_5 rfl rfl ?_
  replace H := og H; obtain ⟨g1, H⟩ := H
  refine gmX11_160_isSt g1 dX11_thousandths_6 ?_
  replace H := ob H; obtain ⟨q2, c3, H⟩ := H
  refine v0 (hY.t 16 rfl) (by decide) rfl rfl lmX11_191 liX2_fill lvX2_X2_fill msX2_fill dX11_thousandths_9 (t_X2_fill (d + 0) hY c3) rfl (Nat.le_of_ble_eq_true rfl) (Nat.le_refl _) ?_
  have e4 := p_X2_fill c3
  have hY5 := hY.pr okX e4
  refine e_ldc2 (v := (1000 : Int64)) lkX11_335 dX11_thousandths_12 ?_
  refine g_aload_n dX11_thousandths_15 rfl rfl ?_
  refine e_getR (hY5.t 0 rfl) flX11_67_12 dX11_thousandths_16 rfl (hY5.r 10 rfl) ?_
  refine g_aload_n dX11_thousandths_19 rfl rfl ?_
  refine e_iload_n dX11_thousandths_20 rfl ?_
  replace H := ob H; obtain ⟨q6, c7, H⟩ := H
  refine v1 (hY5.t 16 rfl) (by decide) rfl rfl lmX11_195 liX2_winning lvX2_X2_winning msX2_winning dX11_thousandths_21 (t_X2_winning (d + 2) hY5 c7) rfl (Nat.le_of_ble_eq_true rfl) (Nat.le_refl _) ?_
  refine e_i2l dX11_thousandths_24 ?_
  refine e_lmul dX11_thousandths_25 ?_
  refine g_aload_n dX11_thousandths_26 rfl rfl ?_
  replace H := og H; obtain ⟨g8, H⟩ := H
  refine e_getI g8 flX11_199_4 dX11_thousandths_27 rfl ?_
  refine e_i2l dX11_thousandths_30 ?_
  replace H := ob H; obtain ⟨q9, c10, H⟩ := H
  refine s1 lmX11_267 lsX11_quotient msX11_quotient dX11_thousandths_31 (t_X11_quotient (d + 4) c10) rfl (Nat.le_of_ble_eq_true rfl) (Nat.le_refl _) ?_
  refine e_l2i dX11_thousandths_34 ?_
  obtain rfl := Option.some.inj H
  exact z_iret rfl rfl dX11_thousandths_35 rfl rfl
-- X11_says
def f_X11_says (p1 : Int32) (p2 : Int32) (p3 : Int32) (p4 : Int32) (p5 : Int32) (h : HS) : Option (Int64 × HS) := (Option.bind (f_X11_stallAt p1 h) (fun q1 => (om q1 (Option.bind (f_X11_handAt p2 h) (fun q5 => (om q5 (some ((-4611686018427387904 : Int64), h)) (fun b8 => (some ((-4611686018427387904 : Int64), h)))))) (fun b4 => (Option.bind (f_X11_handAt p2 h) (fun q11 => (om q11 (some ((-4611686018427387904 : Int64), h)) (fun b14 => (Option.bind (f_X11_isPlace p3) (fun q19 => (if q19 = true then (Option.bind (f_X11_isBit p4) (fun q22 => (if q22 = true then (Option.bind (f_X11_isIn p5 (0 : Int32) (9999 : Int32)) (fun q25 => (if q25 = true then (Option.bind (f_X11_thousandths b4 b14 p3 h) (fun q28 => (Option.bind (f_X11_tellValues b4 q28.1 q28.2) (fun q32 => (if p4 = (1 : Int32) then (Option.bind (f_X11_ruleSays (1 : Int32) (0 : Int32) (0 : Int32) q32) (fun q41 => (some (q41.1.toInt64, q41.2)))) else (Option.bind (f_X11_ruleSays (0 : Int32) (p5 / (100 : Int32)) (p5 - p5 / (100 : Int32) * (100 : Int32)) q32) (fun q37 => (some (q37.1.toInt64, q37.2))))))))) else (some ((-4611686018427387904 : Int64), h))))) else (some ((-4611686018427387904 : Int64), h))))) else (some ((-4611686018427387904 : Int64), h)))))))))))))
set_option maxHeartbeats 4000000 in
set_option maxRecDepth 20000 in
theorem p_X11_says {p1 : Int32} {p2 : Int32} {p3 : Int32} {p4 : Int32} {p5 : Int32} {h : HS} {q : (Int64 × HS)} (H : f_X11_says p1 p2 p3 p4 p5 h = some q) : Pr h q.2 := by
  unfold f_X11_says at H
  replace H := ob H; obtain ⟨q1, c2, H⟩ := H
  replace H := oom H; obtain ⟨e3, H⟩ | ⟨b4, e3, H⟩ := H
  · replace H := ob H; obtain ⟨q5, c6, H⟩ := H
    replace H := oom H; obtain ⟨e7, H⟩ | ⟨b8, e7, H⟩ := H
    · obtain rfl := Option.some.inj H
      exact Pr.rf
    · obtain rfl := Option.some.inj H
      exact Pr.rf
  · replace H := ob H; obtain ⟨q11, c12, H⟩ := H
    replace H := oom H; obtain ⟨e13, H⟩ | ⟨b14, e13, H⟩ := H
    · obtain rfl := Option.some.inj H
      exact Pr.rf
    · replace H := ob H; obtain ⟨q19, c20, H⟩ := H
      replace H := oi H; obtain ⟨c21, H⟩ | ⟨c21, H⟩ := H
      · replace H := ob H; obtain ⟨q22, c23, H⟩ := H
        replace H := oi H; obtain ⟨c24, H⟩ | ⟨c24, H⟩ := H
        · replace H := ob H; obtain ⟨q25, c26, H⟩ := H
          replace H := oi H; obtain ⟨c27, H⟩ | ⟨c27, H⟩ := H
          · replace H := ob H; obtain ⟨q28, c29, H⟩ := H
            have e30 := p_X11_thousandths c29
            replace H := ob H; obtain ⟨q32, c33, H⟩ := H
            have e34 := p_X11_tellValues c33
            replace H := oi H; obtain ⟨c36, H⟩ | ⟨c36, H⟩ := H
            · replace H := ob H; obtain ⟨q41, c42, H⟩ := H
              have e43 := p_X11_ruleSays c42
              obtain rfl := Option.some.inj H
              exact ((e30.tr e34).tr e43)
            · replace H := ob H; obtain ⟨q37, c38, H⟩ := H
              have e39 := p_X11_ruleSays c38
              obtain rfl := Option.some.inj H
              exact ((e30.tr e34).tr e39)
          · obtain rfl := Option.some.inj H
            exact Pr.rf
        · obtain rfl := Option.some.inj H
          exact Pr.rf
      · obtain rfl := Option.some.inj H
        exact Pr.rf
set_option maxHeartbeats 4000000 in
set_option maxRecDepth 20000 in
theorem t_X11_says {G : GE} (d : Nat) {p1 : Int32} {p2 : Int32} {p3 : Int32} {p4 : Int32} {p5 : Int32} {h : HS} {q : (Int64 × HS)} (hY : LY TX h) (H : f_X11_says p1 p2 p3 p4 p5 h = some q) : CE G (d + 6) yX11_says miX11_says [.ref 32, .int p1, .int p2, .int p3, .int p4, .int p5] h (some (.long q.1)) (q.2) := by
  unfold f_X11_says at H
  refine ce_of rfl (by decide) (fun q => by first | rfl | cases q) (Nat.le_of_ble_eq_true rfl) rfl ?_
  refine g_aload_n dX11_says_0 rfl rfl ?_
  refine e_iload_n dX11_says_1 rfl ?_
  replace H := ob H; obtain ⟨q1, c2, H⟩ := H
  replace H := oom H; obtain ⟨e3, H⟩ | ⟨b4, e3, H⟩ := H
  · refine v1 (hY.t 0 rfl) (by decide) rfl rfl lmX11_122 liX11_stallAt lvX11_X11_stallAt msX11_stallAt dX11_says_2 (ceN e3 (t_X11_stallAt (d + 2) hY c2)) rfl (Nat.le_of_ble_eq_true rfl) (Nat.le_refl _) ?_
    refine g_astore dX11_says_5 (Nat.le_of_ble_eq_true rfl) rfl rfl rfl ?_
    refine g_aload_n dX11_says_7 rfl rfl ?_
    refine e_iload_n dX11_says_8 rfl ?_
    replace H := ob H; obtain ⟨q5, c6, H⟩ := H
    replace H := oom H; obtain ⟨e7, H⟩ | ⟨b8, e7, H⟩ := H
    · refine v1 (hY.t 0 rfl) (by decide) rfl rfl lmX11_182 liX11_handAt lvX11_X11_handAt msX11_handAt dX11_says_9 (ceN e7 (t_X11_handAt (d + 2) hY c6)) rfl (Nat.le_of_ble_eq_true rfl) (Nat.le_refl _) ?_
      refine g_astore dX11_says_12 (Nat.le_of_ble_eq_true rfl) rfl rfl rfl ?_
      refine g_aload dX11_says_14 rfl rfl ?_
      refine e_ifnullN (tgt := 51) dX11_says_16 (by decide) ?_
      refine e_ldc2 (v := (-4611686018427387904 : Int64)) lkX11_189 dX11_says_51 ?_
      obtain rfl := Option.some.inj H
      exact z_lret rfl dX11_says_54 rfl rfl
    · refine v1 (hY.t 0 rfl) (by decide) rfl rfl lmX11_182 liX11_handAt lvX11_X11_handAt msX11_handAt dX11_says_9 (ceS e7 (t_X11_handAt (d + 2) hY c6)) rfl (Nat.le_of_ble_eq_true rfl) (Nat.le_refl _) ?_
      refine g_astore dX11_says_12 (Nat.le_of_ble_eq_true rfl) rfl rfl rfl ?_
      refine g_aload dX11_says_14 rfl rfl ?_
      refine e_ifnullN (tgt := 51) dX11_says_16 (by decide) ?_
      refine e_ldc2 (v := (-4611686018427387904 : Int64)) lkX11_189 dX11_says_51 ?_
      obtain rfl := Option.some.inj H
      exact z_lret rfl dX11_says_54 rfl rfl
  · refine v1 (hY.t 0 rfl) (by decide) rfl rfl lmX11_122 liX11_stallAt lvX11_X11_stallAt msX11_stallAt dX11_says_2 (ceS e3 (t_X11_stallAt (d + 2) hY c2)) rfl (Nat.le_of_ble_eq_true rfl) (Nat.le_refl _) ?_
    refine g_astore dX11_says_5 (Nat.le_of_ble_eq_true rfl) rfl rfl rfl ?_
    refine g_aload_n dX11_says_7 rfl rfl ?_
    refine e_iload_n dX11_says_8 rfl ?_
    replace H := ob H; obtain ⟨q11, c12, H⟩ := H
    replace H := oom H; obtain ⟨e13, H⟩ | ⟨b14, e13, H⟩ := H
    · refine v1 (hY.t 0 rfl) (by decide) rfl rfl lmX11_182 liX11_handAt lvX11_X11_handAt msX11_handAt dX11_says_9 (ceN e13 (t_X11_handAt (d + 2) hY c12)) rfl (Nat.le_of_ble_eq_true rfl) (Nat.le_refl _) ?_
      refine g_astore dX11_says_12 (Nat.le_of_ble_eq_true rfl) rfl rfl rfl ?_
      refine g_aload dX11_says_14 rfl rfl ?_
      refine e_ifnull dX11_says_16 ?_
      refine g_aload dX11_says_19 rfl rfl ?_
      refine e_ifnullN (tgt := 51) dX11_says_21 (by decide) ?_
      refine e_ldc2 (v := (-4611686018427387904 : Int64)) lkX11_189 dX11_says_51 ?_
      obtain rfl := Option.some.inj H
      exact z_lret rfl dX11_says_54 rfl rfl
    · refine v1 (hY.t 0 rfl) (by decide) rfl rfl lmX11_182 liX11_handAt lvX11_X11_handAt msX11_handAt dX11_says_9 (ceS e13 (t_X11_handAt (d + 2) hY c12)) rfl (Nat.le_of_ble_eq_true rfl) (Nat.le_refl _) ?_
      refine g_astore dX11_says_12 (Nat.le_of_ble_eq_true rfl) rfl rfl rfl ?_
      refine g_aload dX11_says_14 rfl rfl ?_
      refine e_ifnull dX11_says_16 ?_
      refine g_aload dX11_says_19 rfl rfl ?_
      refine e_ifnull dX11_says_21 ?_
      refine e_iload_n dX11_says_24 rfl ?_
      replace H := ob H; obtain ⟨q19, c20, H⟩ := H
      refine s1 lmX11_110 lsX11_isPlace msX11_isPlace dX11_says_25 (t_X11_isPlace (d + 5) c20) rfl (Nat.le_of_ble_eq_true rfl) (Nat.le_refl _) ?_
      refine e_ifB_eq (tgt := 51) dX11_says_28 (by decide) (fun c21 => ?_) (fun c21 => ?_)
      · replace H := of_ (nb c21) H
        refine e_ldc2 (v := (-4611686018427387904 : Int64)) lkX11_189 dX11_says_51 ?_
        obtain rfl := Option.some.inj H
        exact z_lret rfl dX11_says_54 rfl rfl
      · replace H := ot c21 H
        refine e_iload dX11_says_31 rfl ?_
        replace H := ob H; obtain ⟨q22, c23, H⟩ := H
        refine s1 lmX11_186 lsX11_isBit msX11_isBit dX11_says_33 (t_X11_isBit (d + 5) c23) rfl (Nat.le_of_ble_eq_true rfl) (Nat.le_refl _) ?_
        refine e_ifB_eq (tgt := 51) dX11_says_36 (by decide) (fun c24 => ?_) (fun c24 => ?_)
        · replace H := of_ (nb c24) H
          refine e_ldc2 (v := (-4611686018427387904 : Int64)) lkX11_189 dX11_says_51 ?_
          obtain rfl := Option.some.inj H
          exact z_lret rfl dX11_says_54 rfl rfl
        · replace H := ot c24 H
          refine e_iload dX11_says_39 rfl ?_
          refine e_iconst (v := (0 : Int32)) dX11_says_41 (by decide) ?_
          refine e_sipush (v := (9999 : Int32)) dX11_says_42 (by decide) ?_
          replace H := ob H; obtain ⟨q25, c26, H⟩ := H
          refine s1 lmX11_106 lsX11_isIn msX11_isIn dX11_says_45 (t_X11_isIn (d + 5) c26) rfl (Nat.le_of_ble_eq_true rfl) (Nat.le_refl _) ?_
          refine e_ifB_ne (tgt := 55) dX11_says_48 (by decide) (fun c27 => ?_) (fun c27 => ?_)
          · replace H := ot c27 H
            refine g_aload_n dX11_says_55 rfl rfl ?_
            refine g_aload dX11_says_56 rfl rfl ?_
            refine g_aload_n dX11_says_58 rfl rfl ?_
            refine g_aload dX11_says_59 rfl rfl ?_
            refine g_aload dX11_says_61 rfl rfl ?_
            refine e_iload_n dX11_says_63 rfl ?_
            replace H := ob H; obtain ⟨q28, c29, H⟩ := H
            refine v1 (hY.t 0 rfl) (by decide) rfl rfl lmX11_292 liX11_thousandths lvX11_X11_thousandths msX11_thousandths dX11_says_64 (t_X11_thousandths (d + 0) hY c29) rfl (Nat.le_of_ble_eq_true rfl) (Nat.le_refl _) ?_
            have e30 := p_X11_thousandths c29
            have hY31 := hY.pr okX e30
            replace H := ob H; obtain ⟨q32, c33, H⟩ := H
            refine v0 (hY31.t 0 rfl) (by decide) rfl rfl lmX11_296 liX11_tellValues lvX11_X11_tellValues msX11_tellValues dX11_says_67 (t_X11_tellValues (d + 5) hY31 c33) rfl (Nat.le_of_ble_eq_true rfl) (Nat.le_refl _) ?_
            have e34 := p_X11_tellValues c33
            have hY35 := hY31.pr okX e34
            refine e_iload dX11_says_70 rfl ?_
            refine e_iconst (v := (1 : Int32)) dX11_says_72 (by decide) ?_
            refine e_icmp_ne (tgt := 85) dX11_says_73 (by decide) (fun c36 => ?_) (fun c36 => ?_)
            · replace H := of_ c36 H
              refine g_aload_n dX11_says_85 rfl rfl ?_
              refine e_iconst (v := (0 : Int32)) dX11_says_86 (by decide) ?_
              refine e_iload dX11_says_87 rfl ?_
              refine e_bipush (v := (100 : Int32)) dX11_says_89 (by decide) ?_
              refine e_idiv dX11_says_91 (by decide) ?_
              refine e_iload dX11_says_92 rfl ?_
              refine e_bipush (v := (100 : Int32)) dX11_says_94 (by decide) ?_
              refine e_irem dX11_says_96 (by decide) ?_
              replace H := ob H; obtain ⟨q37, c38, H⟩ := H
              refine v1 (hY35.t 0 rfl) (by decide) rfl rfl lmX11_299 liX11_ruleSays lvX11_X11_ruleSays msX11_ruleSays dX11_says_97 (t_X11_ruleSays (d + 2) hY35 c38) rfl (Nat.le_of_ble_eq_true rfl) (Nat.le_refl _) ?_
              have e39 := p_X11_ruleSays c38
              have hY40 := hY35.pr okX e39
              refine e_i2l dX11_says_100 ?_
              obtain rfl := Option.some.inj H
              exact z_lret rfl dX11_says_101 rfl rfl
            · replace H := ot c36 H
              refine g_aload_n dX11_says_76 rfl rfl ?_
              refine e_iconst (v := (1 : Int32)) dX11_says_77 (by decide) ?_
              refine e_iconst (v := (0 : Int32)) dX11_says_78 (by decide) ?_
              refine e_iconst (v := (0 : Int32)) dX11_says_79 (by decide) ?_
              replace H := ob H; obtain ⟨q41, c42, H⟩ := H
              refine v1 (hY35.t 0 rfl) (by decide) rfl rfl lmX11_299 liX11_ruleSays lvX11_X11_ruleSays msX11_ruleSays dX11_says_80 (t_X11_ruleSays (d + 2) hY35 c42) rfl (Nat.le_of_ble_eq_true rfl) (Nat.le_refl _) ?_
              have e43 := p_X11_ruleSays c42
              have hY44 := hY35.pr okX e43
              refine e_i2l dX11_says_83 ?_
              obtain rfl := Option.some.inj H
              exact z_lret rfl dX11_says_84 rfl rfl
          · replace H := of_ (nb c27) H
            refine e_ldc2 (v := (-4611686018427387904 : Int64)) lkX11_189 dX11_says_51 ?_
            obtain rfl := Option.some.inj H
            exact z_lret rfl dX11_says_54 rfl rfl
-- X11_isPlayer
def f_X11_isPlayer (p1 : Int32) (p2 : Int32) (p3 : Int32) (p4 : Int32) (h : HS) : Option Bool := (if p1 < 0 then (some false) else (Option.bind (f_X11_stallAt (p1 / (10 : Int32)) h) (fun q2 => (om q2 (some false) (fun b5 => (Option.bind (f_X11_handAt (p1 - p1 / (10 : Int32) * (10 : Int32)) h) (fun q8 => (om q8 (some false) (fun b11 => (Option.bind (f_X11_isPlace p2) (fun q14 => (if q14 = true then (Option.bind (f_X11_isSeed p3) (fun q17 => (if q17 = true then (Option.bind (f_X11_isIn p4 (0 : Int32) (9999 : Int32)) (fun q20 => (if q20 = true then (some true) else (some false)))) else (some false)))) else (some false)))))))))))))
set_option maxHeartbeats 4000000 in
set_option maxRecDepth 20000 in
theorem t_X11_isPlayer {G : GE} (d : Nat) {p1 : Int32} {p2 : Int32} {p3 : Int32} {p4 : Int32} {h : HS} {q : Bool} (hY : LY TX h) (H : f_X11_isPlayer p1 p2 p3 p4 h = some q) : CE G (d + 4) yX11_isPlayer miX11_isPlayer [.ref 32, .int p1, .int p2, .int p3, .int p4] h (some (.int (b2i q))) (h) := by
  unfold f_X11_isPlayer at H
  refine ce_of rfl (by decide) (fun q => by first | rfl | cases q) (Nat.le_of_ble_eq_true rfl) rfl ?_
  refine e_iload_n dX11_isPlayer_0 rfl ?_
  refine e_if_lt (tgt := 56) dX11_isPlayer_1 (by decide) (fun c1 => ?_) (fun c1 => ?_)
  · replace H := ot c1 H
    refine e_iconst (v := (0 : Int32)) dX11_isPlayer_56 (by decide) ?_
    obtain rfl := Option.some.inj H
    exact z_iret rfl rfl dX11_isPlayer_57 rfl rfl
  · replace H := of_ c1 H
    refine g_aload_n dX11_isPlayer_4 rfl rfl ?_
    refine e_iload_n dX11_isPlayer_5 rfl ?_
    refine e_bipush (v := (10 : Int32)) dX11_isPlayer_6 (by decide) ?_
    refine e_idiv dX11_isPlayer_8 (by decide) ?_
    replace H := ob H; obtain ⟨q2, c3, H⟩ := H
    replace H := oom H; obtain ⟨e4, H⟩ | ⟨b5, e4, H⟩ := H
    · refine v1 (hY.t 0 rfl) (by decide) rfl rfl lmX11_122 liX11_stallAt lvX11_X11_stallAt msX11_stallAt dX11_isPlayer_9 (ceN e4 (t_X11_stallAt (d + 0) hY c3)) rfl (Nat.le_of_ble_eq_true rfl) (Nat.le_refl _) ?_
      refine e_ifnullN (tgt := 56) dX11_isPlayer_12 (by decide) ?_
      refine e_iconst (v := (0 : Int32)) dX11_isPlayer_56 (by decide) ?_
      obtain rfl := Option.some.inj H
      exact z_iret rfl rfl dX11_isPlayer_57 rfl rfl
    · refine v1 (hY.t 0 rfl) (by decide) rfl rfl lmX11_122 liX11_stallAt lvX11_X11_stallAt msX11_stallAt dX11_isPlayer_9 (ceS e4 (t_X11_stallAt (d + 0) hY c3)) rfl (Nat.le_of_ble_eq_true rfl) (Nat.le_refl _) ?_
      refine e_ifnull dX11_isPlayer_12 ?_
      refine g_aload_n dX11_isPlayer_15 rfl rfl ?_
      refine e_iload_n dX11_isPlayer_16 rfl ?_
      refine e_bipush (v := (10 : Int32)) dX11_isPlayer_17 (by decide) ?_
      refine e_irem dX11_isPlayer_19 (by decide) ?_
      replace H := ob H; obtain ⟨q8, c9, H⟩ := H
      replace H := oom H; obtain ⟨e10, H⟩ | ⟨b11, e10, H⟩ := H
      · refine v1 (hY.t 0 rfl) (by decide) rfl rfl lmX11_182 liX11_handAt lvX11_X11_handAt msX11_handAt dX11_isPlayer_20 (ceN e10 (t_X11_handAt (d + 0) hY c9)) rfl (Nat.le_of_ble_eq_true rfl) (Nat.le_refl _) ?_
        refine e_ifnullN (tgt := 56) dX11_isPlayer_23 (by decide) ?_
        refine e_iconst (v := (0 : Int32)) dX11_isPlayer_56 (by decide) ?_
        obtain rfl := Option.some.inj H
        exact z_iret rfl rfl dX11_isPlayer_57 rfl rfl
      · refine v1 (hY.t 0 rfl) (by decide) rfl rfl lmX11_182 liX11_handAt lvX11_X11_handAt msX11_handAt dX11_isPlayer_20 (ceS e10 (t_X11_handAt (d + 0) hY c9)) rfl (Nat.le_of_ble_eq_true rfl) (Nat.le_refl _) ?_
        refine e_ifnull dX11_isPlayer_23 ?_
        refine e_iload_n dX11_isPlayer_26 rfl ?_
        replace H := ob H; obtain ⟨q14, c15, H⟩ := H
        refine s1 lmX11_110 lsX11_isPlace msX11_isPlace dX11_isPlayer_27 (t_X11_isPlace (d + 3) c15) rfl (Nat.le_of_ble_eq_true rfl) (Nat.le_refl _) ?_
        refine e_ifB_eq (tgt := 56) dX11_isPlayer_30 (by decide) (fun c16 => ?_) (fun c16 => ?_)
        · replace H := of_ (nb c16) H
          refine e_iconst (v := (0 : Int32)) dX11_isPlayer_56 (by decide) ?_
          obtain rfl := Option.some.inj H
          exact z_iret rfl rfl dX11_isPlayer_57 rfl rfl
        · replace H := ot c16 H
          refine e_iload_n dX11_isPlayer_33 rfl ?_
          replace H := ob H; obtain ⟨q17, c18, H⟩ := H
          refine s1 lmX11_228 lsX11_isSeed msX11_isSeed dX11_isPlayer_34 (t_X11_isSeed (d + 2) c18) rfl (Nat.le_of_ble_eq_true rfl) (Nat.le_refl _) ?_
          refine e_ifB_eq (tgt := 56) dX11_isPlayer_37 (by decide) (fun c19 => ?_) (fun c19 => ?_)
          · replace H := of_ (nb c19) H
            refine e_iconst (v := (0 : Int32)) dX11_isPlayer_56 (by decide) ?_
            obtain rfl := Option.some.inj H
            exact z_iret rfl rfl dX11_isPlayer_57 rfl rfl
          · replace H := ot c19 H
            refine e_iload dX11_isPlayer_40 rfl ?_
            refine e_iconst (v := (0 : Int32)) dX11_isPlayer_42 (by decide) ?_
            refine e_sipush (v := (9999 : Int32)) dX11_isPlayer_43 (by decide) ?_
            replace H := ob H; obtain ⟨q20, c21, H⟩ := H
            refine s1 lmX11_106 lsX11_isIn msX11_isIn dX11_isPlayer_46 (t_X11_isIn (d + 3) c21) rfl (Nat.le_of_ble_eq_true rfl) (Nat.le_refl _) ?_
            refine e_ifB_eq (tgt := 56) dX11_isPlayer_49 (by decide) (fun c22 => ?_) (fun c22 => ?_)
            · replace H := of_ (nb c22) H
              refine e_iconst (v := (0 : Int32)) dX11_isPlayer_56 (by decide) ?_
              obtain rfl := Option.some.inj H
              exact z_iret rfl rfl dX11_isPlayer_57 rfl rfl
            · replace H := ot c22 H
              refine e_iconst (v := (1 : Int32)) dX11_isPlayer_52 (by decide) ?_
              refine e_goto (tgt := 57) dX11_isPlayer_53 (by decide) ?_
              obtain rfl := Option.some.inj H
              exact z_iret rfl rfl dX11_isPlayer_57 rfl rfl
-- J7_fill_d0a16
def l_J7_fill_d0a16_6 (y0 : Nat) (y1 : Int64) (y4 : Int32)  : Nat → Int32 → HS → Option HS
  | 0, _, _ => none
  | n + 1, x3, h => (if y4 ≤ x3 then (some h) else (if hT h y0 = 16 then (if ixb x3 (hLn h y0) = true then (l_J7_fill_d0a16_6 y0 y1 y4 n (x3 + (1 : Int32)) (sL h y0 x3.toNatClampNeg y1)) else none) else none))
set_option maxHeartbeats 4000000 in
set_option maxRecDepth 20000 in
theorem p_J7_fill_d0a16_6 {y0 : Nat} {y1 : Int64} {y4 : Int32} : ∀ (n : Nat) {x3 : Int32} {h : HS} {q : HS}, l_J7_fill_d0a16_6 y0 y1 y4 n x3 h = some q → Pr h q := by
  intro n
  induction n with
  | zero => intro x3 h q H; exact nz H
  | succ n ih =>
    intro x3 h q H
    unfold l_J7_fill_d0a16_6 at H
    replace H := oi H; obtain ⟨c5, H⟩ | ⟨c5, H⟩ := H
    · obtain rfl := Option.some.inj H
      exact Pr.rf
    · replace H := og H; obtain ⟨g6, H⟩ := H
      replace H := og H; obtain ⟨g7, H⟩ := H
      exact id (ih H)
set_option maxHeartbeats 4000000 in
set_option maxRecDepth 20000 in
theorem w_J7_fill_d0a16_6 {G : GE} (d : Nat) {y0 : Nat} {y1 : Int64} {y4 : Int32} {r : Option Value} {h' : HS}  : ∀ (n : Nat) {x3 : Int32} {h : HS} {q : HS}, l_J7_fill_d0a16_6 y0 y1 y4 n x3 h = some q → En G (d + 0) miJ7_fill_d0a16 22 [dum, dum, dum, dum, dum] [] q r h' → En G (d + 0) miJ7_fill_d0a16 6 [.ref y0, .long y1, dum, .int x3, .int y4] [] h r h' := by
  intro n
  induction n with
  | zero => intro x3 h q H kE; exact nz H
  | succ n ih =>
    intro x3 h q H kE
    unfold l_J7_fill_d0a16_6 at H
    refine e_iload_n dJ7_fill_d0a16_6 rfl ?_
    refine e_iload dJ7_fill_d0a16_7 rfl ?_
    refine e_icmp_ge (tgt := 22) dJ7_fill_d0a16_9 (by decide) (fun c5 => ?_) (fun c5 => ?_)
    · replace H := ot c5 H
      obtain rfl := Option.some.inj H
      exact e_wk (lk0 (lk0 (lk1 (lk0 (lk0 lkn))))) kE
    · replace H := of_ c5 H
      refine g_aload_n dJ7_fill_d0a16_12 rfl rfl ?_
      refine e_iload_n dJ7_fill_d0a16_13 rfl ?_
      refine e_lload_n dJ7_fill_d0a16_14 rfl ?_
      replace H := og H; obtain ⟨g6, H⟩ := H
      replace H := og H; obtain ⟨g7, H⟩ := H
      refine e_last g6 (ixb_y rfl g7) dJ7_fill_d0a16_15 ?_
      refine e_iinc dJ7_fill_d0a16_16 rfl (ii_ (by decide : Int32.ofInt (1) = (1 : Int32))) (Nat.le_of_ble_eq_true rfl) rfl rfl ?_
      refine e_goto (tgt := 6) dJ7_fill_d0a16_19 (by decide) ?_
      exact e_wk (lk1 (lk1 (lk1 (lk1 (lk1 lkn))))) (ih H kE)
def f_J7_fill_d0a16 (p0 : Nat) (p1 : Int64) (h : HS) : Option HS := (if hT h p0 = 16 then (Option.bind (l_J7_fill_d0a16_6 p0 p1 (nI (hLn h p0)) 1000 (0 : Int32) h) (fun q8 => (some q8))) else none)
set_option maxHeartbeats 4000000 in
set_option maxRecDepth 20000 in
theorem p_J7_fill_d0a16 {p0 : Nat} {p1 : Int64} {h : HS} {q : HS} (H : f_J7_fill_d0a16 p0 p1 h = some q) : Pr h q := by
  unfold f_J7_fill_d0a16 at H
  replace H := og H; obtain ⟨g1, H⟩ := H
  replace H := ob H; obtain ⟨q8, c9, H⟩ := H
  have e10 := p_J7_fill_d0a16_6 1000 c9
  obtain rfl := Option.some.inj H
  exact e10
set_option maxHeartbeats 4000000 in
set_option maxRecDepth 20000 in
theorem t_J7_fill_d0a16 {G : GE} (d : Nat) {p0 : Nat} {p1 : Int64} {h : HS} {q : HS} (H : f_J7_fill_d0a16 p0 p1 h = some q) : CE G (d + 0) yJ7_fill_d0a16 miJ7_fill_d0a16 [.ref p0, .long p1] h (none) (q) := by
  unfold f_J7_fill_d0a16 at H
  refine ce_of rfl (by decide) (fun q => by first | rfl | cases q) (Nat.le_of_ble_eq_true rfl) rfl ?_
  refine e_iconst (v := (0 : Int32)) dJ7_fill_d0a16_0 (by decide) ?_
  refine e_istore_n dJ7_fill_d0a16_1 (Nat.le_of_ble_eq_true rfl) rfl rfl ?_
  refine g_aload_n dJ7_fill_d0a16_2 rfl rfl ?_
  replace H := og H; obtain ⟨g1, H⟩ := H
  refine e_alen g1 (by decide) dJ7_fill_d0a16_3 ?_
  refine e_istore dJ7_fill_d0a16_4 (Nat.le_of_ble_eq_true rfl) rfl rfl ?_
  replace H := ob H; obtain ⟨q8, c9, H⟩ := H
  have e10 := p_J7_fill_d0a16_6 1000 c9
  refine e_wk (lk1 (lk1 (lk1 (lk1 (lk1 lkn))))) (w_J7_fill_d0a16_6 d 1000 c9 ?_)
  obtain rfl := Option.some.inj H
  exact z_vret rfl dJ7_fill_d0a16_22 rfl rfl
-- X11_askPlayer
def f_X11_askPlayer (p1 : Nat) (p2 : Nat) (p3 : Int32) (h : HS) : Option HS := (Option.bind (f_X11_thousandths p1 p2 p3 h) (fun q1 => (Option.bind (f_X11_tellValues p1 q1.1 q1.2) (fun q5 => (Option.bind (f_J7_fill_d0a16 52 (0 : Int64) q5) (fun q9 => (Option.bind (f_J7_fill_d0a16 53 (0 : Int64) q9) (fun q13 => (some q13)))))))))
set_option maxHeartbeats 4000000 in
set_option maxRecDepth 20000 in
theorem p_X11_askPlayer {p1 : Nat} {p2 : Nat} {p3 : Int32} {h : HS} {q : HS} (H : f_X11_askPlayer p1 p2 p3 h = some q) : Pr h q := by
  unfold f_X11_askPlayer at H
  replace H := ob H; obtain ⟨q1, c2, H⟩ := H
  have e3 := p_X11_thousandths c2
  replace H := ob H; obtain ⟨q5, c6, H⟩ := H
  have e7 := p_X11_tellValues c6
  replace H := ob H; obtain ⟨q9, c10, H⟩ := H
  have e11 := p_J7_fill_d0a16 c10
  replace H := ob H; obtain ⟨q13, c14, H⟩ := H
  have e15 := p_J7_fill_d0a16 c14
  obtain rfl := Option.some.inj H
  exact (((e3.tr e7).tr e11).tr e15)
set_option maxHeartbeats 4000000 in
set_option maxRecDepth 20000 in
theorem t_X11_askPlayer {G : GE} (d : Nat) {p1 : Nat} {p2 : Nat} {p3 : Int32} {h : HS} {q : HS} (hY : LY TX h) (H : f_X11_askPlayer p1 p2 p3 h = some q) : CE G (d + 6) yX11_askPlayer miX11_askPlayer [.ref 32, .ref p1, .ref p2, .int p3] h (none) (q) := by
  unfold f_X11_askPlayer at H
  refine ce_of rfl (by decide) (fun q => by first | rfl | cases q) (Nat.le_of_ble_eq_true rfl) rfl ?_
  refine g_aload_n dX11_askPlayer_0 rfl rfl ?_
  refine g_aload_n dX11_askPlayer_1 rfl rfl ?_
  refine g_aload_n dX11_askPlayer_2 rfl rfl ?_
  refine g_aload_n dX11_askPlayer_3 rfl rfl ?_
  refine g_aload_n dX11_askPlayer_4 rfl rfl ?_
  refine e_iload_n dX11_askPlayer_5 rfl ?_
  replace H := ob H; obtain ⟨q1, c2, H⟩ := H
  refine v1 (hY.t 0 rfl) (by decide) rfl rfl lmX11_292 liX11_thousandths lvX11_X11_thousandths msX11_thousandths dX11_askPlayer_6 (t_X11_thousandths (d + 0) hY c2) rfl (Nat.le_of_ble_eq_true rfl) (Nat.le_refl _) ?_
  have e3 := p_X11_thousandths c2
  have hY4 := hY.pr okX e3
  replace H := ob H; obtain ⟨q5, c6, H⟩ := H
  refine v0 (hY4.t 0 rfl) (by decide) rfl rfl lmX11_296 liX11_tellValues lvX11_X11_tellValues msX11_tellValues dX11_askPlayer_9 (t_X11_tellValues (d + 5) hY4 c6) rfl (Nat.le_of_ble_eq_true rfl) (Nat.le_refl _) ?_
  have e7 := p_X11_tellValues c6
  have hY8 := hY4.pr okX e7
  refine g_aload_n dX11_askPlayer_12 rfl rfl ?_
  refine e_getR (hY8.t 0 rfl) flX11_79_12 dX11_askPlayer_13 rfl (hY8.r 13 rfl) ?_
  refine e_lconst (v := (0 : Int64)) dX11_askPlayer_16 (by decide) ?_
  replace H := ob H; obtain ⟨q9, c10, H⟩ := H
  refine s0 lmX11_323 lsJ7_fill_d0a16 msJ7_fill_d0a16 dX11_askPlayer_17 (t_J7_fill_d0a16 (d + 5) c10) rfl (Nat.le_of_ble_eq_true rfl) (Nat.le_refl _) ?_
  have e11 := p_J7_fill_d0a16 c10
  have hY12 := hY8.pr okX e11
  refine g_aload_n dX11_askPlayer_20 rfl rfl ?_
  refine e_getR (hY12.t 0 rfl) flX11_83_12 dX11_askPlayer_21 rfl (hY12.r 14 rfl) ?_
  refine e_lconst (v := (0 : Int64)) dX11_askPlayer_24 (by decide) ?_
  replace H := ob H; obtain ⟨q13, c14, H⟩ := H
  refine s0 lmX11_323 lsJ7_fill_d0a16 msJ7_fill_d0a16 dX11_askPlayer_25 (t_J7_fill_d0a16 (d + 5) c14) rfl (Nat.le_of_ble_eq_true rfl) (Nat.le_refl _) ?_
  have e15 := p_J7_fill_d0a16 c14
  have hY16 := hY12.pr okX e15
  obtain rfl := Option.some.inj H
  exact z_vret rfl dX11_askPlayer_28 rfl rfl
-- X11_winningThrows
def l_X11_winningThrows_12 (y0 : Nat) (y1 : Nat) (y2 : Int32) (h : HS)  : Nat → Int64 → Int64 → Int32 → Option Int64
  | 0, _, _, _ => none
  | n + 1, x4, x6, x8 => (if (40 : Int32) ≤ x8 then (some x4) else (Option.bind (f_X11_lands y0 y1 y2 x6 h) (fun q13 => (Option.bind (if q13 = true then (some (x4 ||| ((1 : Int64) <<< (x8.toInt64 &&& 63)))) else (some x4)) (fun q16 => (Option.bind (f_X11_nextLot x6) (fun q19 => (l_X11_winningThrows_12 y0 y1 y2 h n q16 q19 (x8 + (1 : Int32))))))))))
set_option maxHeartbeats 4000000 in
set_option maxRecDepth 20000 in
theorem w_X11_winningThrows_12 {G : GE} (d : Nat) {y0 : Nat} {y1 : Nat} {y2 : Int32} {h : HS} {r : Option Value} {h' : HS}  : ∀ (n : Nat) {x4 : Int64} {x6 : Int64} {x8 : Int32} {q : Int64}, l_X11_winningThrows_12 y0 y1 y2 h n x4 x6 x8 = some q → En G (d + 5) miX11_winningThrows 52 [dum, dum, dum, dum, .long q, dum, dum, dum, dum] [] h r h' → En G (d + 5) miX11_winningThrows 12 [.ref y0, .ref y1, .int y2, dum, .long x4, dum, .long x6, dum, .int x8] [] h r h' := by
  intro n
  induction n with
  | zero => intro x4 x6 x8 q H kE; exact nz H
  | succ n ih =>
    intro x4 x6 x8 q H kE
    unfold l_X11_winningThrows_12 at H
    refine e_iload dX11_winningThrows_12 rfl ?_
    refine e_bipush (v := (40 : Int32)) dX11_winningThrows_14 (by decide) ?_
    refine e_icmp_ge (tgt := 52) dX11_winningThrows_16 (by decide) (fun c12 => ?_) (fun c12 => ?_)
    · replace H := ot c12 H
      obtain rfl := Option.some.inj H
      exact e_wk (lk0 (lk0 (lk0 (lk1 (lk1 (lk1 (lk0 (lk1 (lk0 lkn))))))))) kE
    · replace H := of_ c12 H
      refine g_aload_n dX11_winningThrows_19 rfl rfl ?_
      refine g_aload_n dX11_winningThrows_20 rfl rfl ?_
      refine e_iload_n dX11_winningThrows_21 rfl ?_
      refine e_lload dX11_winningThrows_22 rfl ?_
      replace H := ob H; obtain ⟨q13, c14, H⟩ := H
      refine s1 lmX11_235 lsX11_lands msX11_lands dX11_winningThrows_24 (t_X11_lands (d + 0) c14) rfl (Nat.le_of_ble_eq_true rfl) (Nat.le_refl _) ?_
      replace H := ob H; obtain ⟨q16, c18, H⟩ := H
      have k17 : En G (d + 5) miX11_winningThrows 39 [.ref y0, .ref y1, .int y2, dum, .long q16, dum, .long x6, dum, .int x8] [] h r h' := by
        refine e_lload dX11_winningThrows_39 rfl ?_
        replace H := ob H; obtain ⟨q19, c20, H⟩ := H
        refine s1 lmX11_328 lsX11_nextLot msX11_nextLot dX11_winningThrows_41 (t_X11_nextLot (d + 4) c20) rfl (Nat.le_of_ble_eq_true rfl) (Nat.le_refl _) ?_
        refine e_lstore dX11_winningThrows_44 (Nat.le_of_ble_eq_true rfl) rfl rfl ?_
        refine e_iinc dX11_winningThrows_46 rfl (ii_ (by decide : Int32.ofInt (1) = (1 : Int32))) (Nat.le_of_ble_eq_true rfl) rfl rfl ?_
        refine e_goto (tgt := 12) dX11_winningThrows_49 (by decide) ?_
        exact e_wk (lk1 (lk1 (lk1 (lk1 (lk1 (lk1 (lk1 (lk1 (lk1 lkn))))))))) (ih H kE)
      replace H := c18
      refine e_ifB_eq (tgt := 39) dX11_winningThrows_27 (by decide) (fun c15 => ?_) (fun c15 => ?_)
      · replace H := of_ (nb c15) H
        obtain rfl := Option.some.inj H
        exact e_wk (lk1 (lk1 (lk1 (lk1 (lk1 (lk1 (lk1 (lk1 (lk1 lkn))))))))) k17
      · replace H := ot c15 H
        refine e_lload dX11_winningThrows_30 rfl ?_
        refine e_lconst (v := (1 : Int64)) dX11_winningThrows_32 (by decide) ?_
        refine e_iload dX11_winningThrows_33 rfl ?_
        refine e_lshl dX11_winningThrows_35 ?_
        refine e_lor dX11_winningThrows_36 ?_
        refine e_lstore dX11_winningThrows_37 (Nat.le_of_ble_eq_true rfl) rfl rfl ?_
        obtain rfl := Option.some.inj H
        exact e_wk (lk1 (lk1 (lk1 (lk1 (lk1 (lk1 (lk1 (lk1 (lk1 lkn))))))))) k17
def f_X11_winningThrows (p0 : Nat) (p1 : Nat) (p2 : Int32) (p3 : Int32) (h : HS) : Option Int64 := (Option.bind (f_X11_firstLot p3) (fun q1 => (Option.bind (l_X11_winningThrows_12 p0 p1 p2 h 1000 (0 : Int64) q1 (0 : Int32)) (fun q21 => (some q21)))))
set_option maxHeartbeats 4000000 in
set_option maxRecDepth 20000 in
theorem t_X11_winningThrows {G : GE} (d : Nat) {p0 : Nat} {p1 : Nat} {p2 : Int32} {p3 : Int32} {h : HS} {q : Int64} (H : f_X11_winningThrows p0 p1 p2 p3 h = some q) : CE G (d + 5) yX11_winningThrows miX11_winningThrows [.ref p0, .ref p1, .int p2, .int p3] h (some (.long q)) (h) := by
  unfold f_X11_winningThrows at H
  refine ce_of rfl (by decide) (fun q => by first | rfl | cases q) (Nat.le_of_ble_eq_true rfl) rfl ?_
  refine e_lconst (v := (0 : Int64)) dX11_winningThrows_0 (by decide) ?_
  refine e_lstore dX11_winningThrows_1 (Nat.le_of_ble_eq_true rfl) rfl rfl ?_
  refine e_iload_n dX11_winningThrows_3 rfl ?_
  replace H := ob H; obtain ⟨q1, c2, H⟩ := H
  refine s1 lmX11_231 lsX11_firstLot msX11_firstLot dX11_winningThrows_4 (t_X11_firstLot (d + 4) c2) rfl (Nat.le_of_ble_eq_true rfl) (Nat.le_refl _) ?_
  refine e_lstore dX11_winningThrows_7 (Nat.le_of_ble_eq_true rfl) rfl rfl ?_
  refine e_iconst (v := (0 : Int32)) dX11_winningThrows_9 (by decide) ?_
  refine e_istore dX11_winningThrows_10 (Nat.le_of_ble_eq_true rfl) rfl rfl ?_
  replace H := ob H; obtain ⟨q21, c22, H⟩ := H
  refine e_wk (lk1 (lk1 (lk1 (lk0 (lk1 (lk1 (lk1 (lk1 (lk1 lkn))))))))) (w_X11_winningThrows_12 d 1000 c22 ?_)
  refine e_lload dX11_winningThrows_52 rfl ?_
  obtain rfl := Option.some.inj H
  exact z_lret rfl dX11_winningThrows_54 rfl rfl
-- X11_goesOn
def f_X11_goesOn (p1 : Int32) (p2 : Int32) (h : HS) : Option (Bool × HS) := (Option.bind (f_X11_isIn p2 (0 : Int32) (39 : Int32)) (fun q1 => (if q1 = true then (if ixb p2 40 = true then (Option.bind (if ((hL h 52 p2.toNatClampNeg) &&& ((1 : Int64) <<< (p1.toInt64 &&& 63))) = (0 : Int64) then (if ixb p2 40 = true then (if ixb p2 40 = true then (if ixb p2 40 = true then (Option.bind (f_X11_ruleSays (0 : Int32) p1 p2 (sL h 52 p2.toNatClampNeg ((hL h 52 p2.toNatClampNeg) ||| ((1 : Int64) <<< (p1.toInt64 &&& 63))))) (fun q11 => (if q11.1 = 0 then (if ixb p2 40 = true then (some (sL q11.2 53 p2.toNatClampNeg ((hL (sL h 52 p2.toNatClampNeg ((hL h 52 p2.toNatClampNeg) ||| ((1 : Int64) <<< (p1.toInt64 &&& 63)))) 53 p2.toNatClampNeg) ||| (0 : Int64)))) else none) else (if ixb p2 40 = true then (some (sL q11.2 53 p2.toNatClampNeg ((hL (sL h 52 p2.toNatClampNeg ((hL h 52 p2.toNatClampNeg) ||| ((1 : Int64) <<< (p1.toInt64 &&& 63)))) 53 p2.toNatClampNeg) ||| ((1 : Int64) <<< (p1.toInt64 &&& 63))))) else none)))) else none) else none) else none) else (some h)) (fun q6 => (if ixb p2 40 = true then (if ((hL q6 53 p2.toNatClampNeg) &&& ((1 : Int64) <<< (p1.toInt64 &&& 63))) = (0 : Int64) then (some (false, q6)) else (some (true, q6))) else none))) else none) else (some (false, h)))))
set_option maxHeartbeats 4000000 in
set_option maxRecDepth 20000 in
theorem p_X11_goesOn {p1 : Int32} {p2 : Int32} {h : HS} {q : (Bool × HS)} (H : f_X11_goesOn p1 p2 h = some q) : Pr h q.2 := by
  unfold f_X11_goesOn at H
  replace H := ob H; obtain ⟨q1, c2, H⟩ := H
  replace H := oi H; obtain ⟨c3, H⟩ | ⟨c3, H⟩ := H
  · replace H := og H; obtain ⟨g4, H⟩ := H
    replace H := ob H; obtain ⟨q6, c18, H⟩ := H
    have e19 : Pr h q6 := by
      replace H := c18
      replace H := oi H; obtain ⟨c5, H⟩ | ⟨c5, H⟩ := H
      · replace H := og H; obtain ⟨g8, H⟩ := H
        replace H := og H; obtain ⟨g9, H⟩ := H
        replace H := og H; obtain ⟨g10, H⟩ := H
        replace H := ob H; obtain ⟨q11, c12, H⟩ := H
        have e13 := p_X11_ruleSays c12
        replace H := oi H; obtain ⟨c15, H⟩ | ⟨c15, H⟩ := H
        · replace H := og H; obtain ⟨g16, H⟩ := H
          obtain rfl := Option.some.inj H
          exact e13
        · replace H := og H; obtain ⟨g17, H⟩ := H
          obtain rfl := Option.some.inj H
          exact e13
      · obtain rfl := Option.some.inj H
        exact Pr.rf
    replace H := og H; obtain ⟨g21, H⟩ := H
    replace H := oi H; obtain ⟨c22, H⟩ | ⟨c22, H⟩ := H
    · obtain rfl := Option.some.inj H
      exact e19
    · obtain rfl := Option.some.inj H
      exact e19
  · obtain rfl := Option.some.inj H
    exact Pr.rf
set_option maxHeartbeats 4000000 in
set_option maxRecDepth 20000 in
theorem t_X11_goesOn {G : GE} (d : Nat) {p1 : Int32} {p2 : Int32} {h : HS} {q : (Bool × HS)} (hY : LY TX h) (H : f_X11_goesOn p1 p2 h = some q) : CE G (d + 4) yX11_goesOn miX11_goesOn [.ref 32, .int p1, .int p2] h (some (.int (b2i q.1))) (q.2) := by
  unfold f_X11_goesOn at H
  refine ce_of rfl (by decide) (fun q => by first | rfl | cases q) (Nat.le_of_ble_eq_true rfl) rfl ?_
  refine e_iload_n dX11_goesOn_0 rfl ?_
  refine e_iconst (v := (0 : Int32)) dX11_goesOn_1 (by decide) ?_
  refine e_bipush (v := (39 : Int32)) dX11_goesOn_2 (by decide) ?_
  replace H := ob H; obtain ⟨q1, c2, H⟩ := H
  refine s1 lmX11_106 lsX11_isIn msX11_isIn dX11_goesOn_4 (t_X11_isIn (d + 3) c2) rfl (Nat.le_of_ble_eq_true rfl) (Nat.le_refl _) ?_
  refine e_ifB_ne (tgt := 12) dX11_goesOn_7 (by decide) (fun c3 => ?_) (fun c3 => ?_)
  · replace H := ot c3 H
    refine e_lconst (v := (1 : Int64)) dX11_goesOn_12 (by decide) ?_
    refine e_iload_n dX11_goesOn_13 rfl ?_
    refine e_lshl dX11_goesOn_14 ?_
    refine e_lstore_n dX11_goesOn_15 (Nat.le_of_ble_eq_true rfl) rfl rfl ?_
    refine g_aload_n dX11_goesOn_16 rfl rfl ?_
    refine e_getR (hY.t 0 rfl) flX11_79_12 dX11_goesOn_17 rfl (hY.r 13 rfl) ?_
    refine e_iload_n dX11_goesOn_20 rfl ?_
    replace H := og H; obtain ⟨g4, H⟩ := H
    refine e_lald (hY.t 20 rfl) (ixb_y (hY.n 20 rfl) g4) dX11_goesOn_21 ?_
    refine e_lload_n dX11_goesOn_22 rfl ?_
    refine e_land dX11_goesOn_23 ?_
    refine e_lconst (v := (0 : Int64)) dX11_goesOn_24 (by decide) ?_
    replace H := ob H; obtain ⟨q6, c18, H⟩ := H
    have e19 : Pr h q6 := by
      replace H := c18
      replace H := oi H; obtain ⟨c5, H⟩ | ⟨c5, H⟩ := H
      · replace H := og H; obtain ⟨g8, H⟩ := H
        replace H := og H; obtain ⟨g9, H⟩ := H
        replace H := og H; obtain ⟨g10, H⟩ := H
        replace H := ob H; obtain ⟨q11, c12, H⟩ := H
        have e13 := p_X11_ruleSays c12
        replace H := oi H; obtain ⟨c15, H⟩ | ⟨c15, H⟩ := H
        · replace H := og H; obtain ⟨g16, H⟩ := H
          obtain rfl := Option.some.inj H
          exact e13
        · replace H := og H; obtain ⟨g17, H⟩ := H
          obtain rfl := Option.some.inj H
          exact e13
      · obtain rfl := Option.some.inj H
        exact Pr.rf
    have hY20 := hY.pr okX e19
    have k7 : En G (d + 4) miX11_goesOn 63 [.ref 32, dum, .int p2, .long ((1 : Int64) <<< (p1.toInt64 &&& 63)), dum] [] q6 (some (.int (b2i q.1))) (q.2) := by
      refine g_aload_n dX11_goesOn_63 rfl rfl ?_
      refine e_getR (hY20.t 0 rfl) flX11_83_12 dX11_goesOn_64 rfl (hY20.r 14 rfl) ?_
      refine e_iload_n dX11_goesOn_67 rfl ?_
      replace H := og H; obtain ⟨g21, H⟩ := H
      refine e_lald (hY20.t 21 rfl) (ixb_y (hY20.n 21 rfl) g21) dX11_goesOn_68 ?_
      refine e_lload_n dX11_goesOn_69 rfl ?_
      refine e_land dX11_goesOn_70 ?_
      refine e_lconst (v := (0 : Int64)) dX11_goesOn_71 (by decide) ?_
      refine e_lc_eq (tgt := 80) dX11_goesOn_72 dX11_goesOn_73 (by decide) (fun c22 => ?_) (fun c22 => ?_)
      · replace H := ot c22 H
        refine e_iconst (v := (0 : Int32)) dX11_goesOn_80 (by decide) ?_
        obtain rfl := Option.some.inj H
        exact z_iret rfl rfl dX11_goesOn_81 rfl rfl
      · replace H := of_ c22 H
        refine e_iconst (v := (1 : Int32)) dX11_goesOn_76 (by decide) ?_
        refine e_goto (tgt := 81) dX11_goesOn_77 (by decide) ?_
        obtain rfl := Option.some.inj H
        exact z_iret rfl rfl dX11_goesOn_81 rfl rfl
    replace H := c18
    refine e_lc_ne (tgt := 63) dX11_goesOn_25 dX11_goesOn_26 (by decide) (fun c5 => ?_) (fun c5 => ?_)
    · replace H := of_ c5 H
      obtain rfl := Option.some.inj H
      exact e_wk (lk1 (lk0 (lk1 (lk1 (lk1 lkn))))) k7
    · replace H := ot c5 H
      refine g_aload_n dX11_goesOn_29 rfl rfl ?_
      refine e_getR (hY.t 0 rfl) flX11_79_12 dX11_goesOn_30 rfl (hY.r 13 rfl) ?_
      refine e_iload_n dX11_goesOn_33 rfl ?_
      refine e_dup2 dX11_goesOn_34 rfl rfl ?_
      replace H := og H; obtain ⟨g8, H⟩ := H
      refine e_lald (hY.t 20 rfl) (ixb_y (hY.n 20 rfl) g8) dX11_goesOn_35 ?_
      refine e_lload_n dX11_goesOn_36 rfl ?_
      refine e_lor dX11_goesOn_37 ?_
      replace H := og H; obtain ⟨g9, H⟩ := H
      refine e_last (hY.t 20 rfl) (ixb_y (hY.n 20 rfl) g9) dX11_goesOn_38 ?_
      refine g_aload_n dX11_goesOn_39 rfl rfl ?_
      refine e_getR (hY.t 0 rfl) flX11_83_12 dX11_goesOn_40 rfl (hY.r 14 rfl) ?_
      refine e_iload_n dX11_goesOn_43 rfl ?_
      refine e_dup2 dX11_goesOn_44 rfl rfl ?_
      replace H := og H; obtain ⟨g10, H⟩ := H
      refine e_lald (hY.t 21 rfl) (ixb_y (hY.n 21 rfl) g10) dX11_goesOn_45 ?_
      refine g_aload_n dX11_goesOn_46 rfl rfl ?_
      refine e_iconst (v := (0 : Int32)) dX11_goesOn_47 (by decide) ?_
      refine e_iload_n dX11_goesOn_48 rfl ?_
      refine e_iload_n dX11_goesOn_49 rfl ?_
      replace H := ob H; obtain ⟨q11, c12, H⟩ := H
      refine v1 (hY.t 0 rfl) (by decide) rfl rfl lmX11_299 liX11_ruleSays lvX11_X11_ruleSays msX11_ruleSays dX11_goesOn_50 (t_X11_ruleSays (d + 0) hY c12) rfl (Nat.le_of_ble_eq_true rfl) (Nat.le_refl _) ?_
      have e13 := p_X11_ruleSays c12
      have hY14 := hY.pr okX e13
      refine e_if_eq (tgt := 60) dX11_goesOn_53 (by decide) (fun c15 => ?_) (fun c15 => ?_)
      · replace H := ot c15 H
        refine e_lconst (v := (0 : Int64)) dX11_goesOn_60 (by decide) ?_
        refine e_lor dX11_goesOn_61 ?_
        replace H := og H; obtain ⟨g16, H⟩ := H
        refine e_last (hY14.t 21 rfl) (ixb_y (hY14.n 21 rfl) g16) dX11_goesOn_62 ?_
        obtain rfl := Option.some.inj H
        exact e_wk (lk1 (lk0 (lk1 (lk1 (lk1 lkn))))) k7
      · replace H := of_ c15 H
        refine e_lload_n dX11_goesOn_56 rfl ?_
        refine e_goto (tgt := 61) dX11_goesOn_57 (by decide) ?_
        refine e_lor dX11_goesOn_61 ?_
        replace H := og H; obtain ⟨g17, H⟩ := H
        refine e_last (hY14.t 21 rfl) (ixb_y (hY14.n 21 rfl) g17) dX11_goesOn_62 ?_
        obtain rfl := Option.some.inj H
        exact e_wk (lk1 (lk0 (lk1 (lk1 (lk1 lkn))))) k7
  · replace H := of_ (nb c3) H
    refine e_iconst (v := (0 : Int32)) dX11_goesOn_10 (by decide) ?_
    obtain rfl := Option.some.inj H
    exact z_iret rfl rfl dX11_goesOn_11 rfl rfl
-- X11_playOut
def l_X11_playOut_9 (y1 : Nat) (y3 : Int64)  : Nat → Int32 → Int32 → Int32 → HS → Option (Int32 × Int32 × Int32 × HS)
  | 0, _, _, _, _ => none
  | n + 1, x5, x6, x7, h => (if (40 : Int32) ≤ x5 then (some (x5, x6, x7, h)) else (if isSt (hT h y1) = true then (if x7 < (hI h y1 4) then (some (x5, x6, x7, h)) else (Option.bind (f_X11_goesOn x6 x5 h) (fun q16 => (if q16.1 = true then (Option.bind (if ((y3 >>> (x5.toInt64 &&& 63)) &&& (1 : Int64)) = (1 : Int64) then (some (1 : Int32)) else (some (0 : Int32))) (fun q22 => (l_X11_playOut_9 y1 y3 n (x5 + (1 : Int32)) (x6 + q22) (x7 - (hI q16.2 y1 4)) q16.2))) else (some (x5, x6, x7, q16.2)))))) else none))
set_option maxHeartbeats 4000000 in
set_option maxRecDepth 20000 in
theorem p_X11_playOut_9 {y1 : Nat} {y3 : Int64} : ∀ (n : Nat) {x5 : Int32} {x6 : Int32} {x7 : Int32} {h : HS} {q : (Int32 × Int32 × Int32 × HS)}, l_X11_playOut_9 y1 y3 n x5 x6 x7 h = some q → Pr h q.2.2.2 := by
  intro n
  induction n with
  | zero => intro x5 x6 x7 h q H; exact nz H
  | succ n ih =>
    intro x5 x6 x7 h q H
    unfold l_X11_playOut_9 at H
    replace H := oi H; obtain ⟨c13, H⟩ | ⟨c13, H⟩ := H
    · obtain rfl := Option.some.inj H
      exact Pr.rf
    · replace H := og H; obtain ⟨g14, H⟩ := H
      replace H := oi H; obtain ⟨c15, H⟩ | ⟨c15, H⟩ := H
      · obtain rfl := Option.some.inj H
        exact Pr.rf
      · replace H := ob H; obtain ⟨q16, c17, H⟩ := H
        have e18 := p_X11_goesOn c17
        replace H := oi H; obtain ⟨c20, H⟩ | ⟨c20, H⟩ := H
        · replace H := ob H; obtain ⟨q22, c24, H⟩ := H
          exact e18.tr (ih H)
        · obtain rfl := Option.some.inj H
          exact e18
set_option maxHeartbeats 4000000 in
set_option maxRecDepth 20000 in
theorem w_X11_playOut_9 {G : GE} (d : Nat) {y1 : Nat} {y3 : Int64} {r : Option Value} {h' : HS}  : ∀ (n : Nat) {x5 : Int32} {x6 : Int32} {x7 : Int32} {h : HS} {q : (Int32 × Int32 × Int32 × HS)}, LY TX h → l_X11_playOut_9 y1 y3 n x5 x6 x7 h = some q → En G (d + 5) miX11_playOut 72 [.ref 32, .ref y1, dum, dum, dum, .int q.1, .int q.2.1, .int q.2.2.1] [] q.2.2.2 r h' → En G (d + 5) miX11_playOut 9 [.ref 32, .ref y1, dum, .long y3, dum, .int x5, .int x6, .int x7] [] h r h' := by
  intro n
  induction n with
  | zero => intro x5 x6 x7 h q hYTX H kE; exact nz H
  | succ n ih =>
    intro x5 x6 x7 h q hYTX H kE
    unfold l_X11_playOut_9 at H
    refine e_iload dX11_playOut_9 rfl ?_
    refine e_bipush (v := (40 : Int32)) dX11_playOut_11 (by decide) ?_
    refine e_icmp_ge (tgt := 72) dX11_playOut_13 (by decide) (fun c13 => ?_) (fun c13 => ?_)
    · replace H := ot c13 H
      obtain rfl := Option.some.inj H
      exact e_wk (lk1 (lk1 (lk1 (lk0 (lk1 (lk1 (lk1 (lk1 lkn)))))))) kE
    · replace H := of_ c13 H
      refine e_iload dX11_playOut_16 rfl ?_
      refine g_aload_n dX11_playOut_18 rfl rfl ?_
      replace H := og H; obtain ⟨g14, H⟩ := H
      refine gmX11_151_isSt g14 dX11_playOut_19 ?_
      refine e_icmp_lt (tgt := 72) dX11_playOut_22 (by decide) (fun c15 => ?_) (fun c15 => ?_)
      · replace H := ot c15 H
        obtain rfl := Option.some.inj H
        exact e_wk (lk1 (lk1 (lk1 (lk0 (lk1 (lk1 (lk1 (lk1 lkn)))))))) kE
      · replace H := of_ c15 H
        refine g_aload_n dX11_playOut_25 rfl rfl ?_
        refine e_iload dX11_playOut_26 rfl ?_
        refine e_iload dX11_playOut_28 rfl ?_
        replace H := ob H; obtain ⟨q16, c17, H⟩ := H
        refine v1 (hYTX.t 0 rfl) (by decide) rfl rfl lmX11_332 liX11_goesOn lvX11_X11_goesOn msX11_goesOn dX11_playOut_30 (t_X11_goesOn (d + 0) hYTX c17) rfl (Nat.le_of_ble_eq_true rfl) (Nat.le_refl _) ?_
        have e18 := p_X11_goesOn c17
        have hY19 := hYTX.pr okX e18
        refine e_ifB_eq (tgt := 72) dX11_playOut_33 (by decide) (fun c20 => ?_) (fun c20 => ?_)
        · replace H := of_ (nb c20) H
          obtain rfl := Option.some.inj H
          exact e_wk (lk1 (lk1 (lk1 (lk0 (lk1 (lk1 (lk1 (lk1 lkn)))))))) kE
        · replace H := ot c20 H
          refine e_iload dX11_playOut_36 rfl ?_
          refine e_lload_n dX11_playOut_38 rfl ?_
          refine e_iload dX11_playOut_39 rfl ?_
          refine e_lshr dX11_playOut_41 ?_
          refine e_lconst (v := (1 : Int64)) dX11_playOut_42 (by decide) ?_
          refine e_land dX11_playOut_43 ?_
          refine e_lconst (v := (1 : Int64)) dX11_playOut_44 (by decide) ?_
          replace H := ob H; obtain ⟨q22, c24, H⟩ := H
          have k23 : En G (d + 5) miX11_playOut 54 [.ref 32, .ref y1, dum, .long y3, dum, .int x5, dum, .int x7] [.int q22, .int x6] q16.2 r h' := by
            refine e_iadd dX11_playOut_54 ?_
            refine e_istore dX11_playOut_55 (Nat.le_of_ble_eq_true rfl) rfl rfl ?_
            refine e_iload dX11_playOut_57 rfl ?_
            refine g_aload_n dX11_playOut_59 rfl rfl ?_
            refine gmX11_151_isSt (e18.b g14 rfl) dX11_playOut_60 ?_
            refine e_isub dX11_playOut_63 ?_
            refine e_istore dX11_playOut_64 (Nat.le_of_ble_eq_true rfl) rfl rfl ?_
            refine e_iinc dX11_playOut_66 rfl (ii_ (by decide : Int32.ofInt (1) = (1 : Int32))) (Nat.le_of_ble_eq_true rfl) rfl rfl ?_
            refine e_goto (tgt := 9) dX11_playOut_69 (by decide) ?_
            exact e_wk (lk1 (lk1 (lk1 (lk1 (lk1 (lk1 (lk1 (lk1 lkn)))))))) (ih hY19 H kE)
          replace H := c24
          refine e_lc_ne (tgt := 53) dX11_playOut_45 dX11_playOut_46 (by decide) (fun c21 => ?_) (fun c21 => ?_)
          · replace H := of_ c21 H
            refine e_iconst (v := (0 : Int32)) dX11_playOut_53 (by decide) ?_
            obtain rfl := Option.some.inj H
            exact e_wk (lk1 (lk1 (lk1 (lk1 (lk1 (lk1 (lk0 (lk1 lkn)))))))) k23
          · replace H := ot c21 H
            refine e_iconst (v := (1 : Int32)) dX11_playOut_49 (by decide) ?_
            refine e_goto (tgt := 54) dX11_playOut_50 (by decide) ?_
            obtain rfl := Option.some.inj H
            exact e_wk (lk1 (lk1 (lk1 (lk1 (lk1 (lk1 (lk0 (lk1 lkn)))))))) k23
def f_X11_playOut (p1 : Nat) (p2 : Int32) (p3 : Int64) (h : HS) : Option HS := (Option.bind (l_X11_playOut_9 p1 p3 1000 (0 : Int32) (0 : Int32) p2 h) (fun q25 => (if isSt (hT (sI (sI (sI q25.2.2.2 51 (0 : Int32).toNatClampNeg q25.1) 51 (1 : Int32).toNatClampNeg q25.2.1) 51 (2 : Int32).toNatClampNeg q25.2.2.1) p1) = true then (bh (sI (sI (sI (sI q25.2.2.2 51 (0 : Int32).toNatClampNeg q25.1) 51 (1 : Int32).toNatClampNeg q25.2.1) 51 (2 : Int32).toNatClampNeg q25.2.2.1) 51 (3 : Int32).toNatClampNeg ((q25.1 * (hI (sI (sI (sI q25.2.2.2 51 (0 : Int32).toNatClampNeg q25.1) 51 (1 : Int32).toNatClampNeg q25.2.1) 51 (2 : Int32).toNatClampNeg q25.2.2.1) p1 4)) - (q25.2.1 * (hI (sI (sI (sI q25.2.2.2 51 (0 : Int32).toNatClampNeg q25.1) 51 (1 : Int32).toNatClampNeg q25.2.1) 51 (2 : Int32).toNatClampNeg q25.2.2.1) p1 5)))) (fun h30 => (some h30))) else none)))
set_option maxHeartbeats 4000000 in
set_option maxRecDepth 20000 in
theorem p_X11_playOut {p1 : Nat} {p2 : Int32} {p3 : Int64} {h : HS} {q : HS} (H : f_X11_playOut p1 p2 p3 h = some q) : Pr h q := by
  unfold f_X11_playOut at H
  replace H := ob H; obtain ⟨q25, c26, H⟩ := H
  have e27 := p_X11_playOut_9 1000 c26
  replace H := og H; obtain ⟨g29, H⟩ := H
  replace H := obh H; obtain ⟨h30, e31, H⟩ := H
  obtain rfl := Option.some.inj H
  exact (kP e31 e27)
set_option maxHeartbeats 4000000 in
set_option maxRecDepth 20000 in
theorem t_X11_playOut {G : GE} (d : Nat) {p1 : Nat} {p2 : Int32} {p3 : Int64} {h : HS} {q : HS} (hY : LY TX h) (H : f_X11_playOut p1 p2 p3 h = some q) : CE G (d + 5) yX11_playOut miX11_playOut [.ref 32, .ref p1, .int p2, .long p3] h (none) (q) := by
  unfold f_X11_playOut at H
  refine ce_of rfl (by decide) (fun q => by first | rfl | cases q) (Nat.le_of_ble_eq_true rfl) rfl ?_
  refine e_iconst (v := (0 : Int32)) dX11_playOut_0 (by decide) ?_
  refine e_istore dX11_playOut_1 (Nat.le_of_ble_eq_true rfl) rfl rfl ?_
  refine e_iconst (v := (0 : Int32)) dX11_playOut_3 (by decide) ?_
  refine e_istore dX11_playOut_4 (Nat.le_of_ble_eq_true rfl) rfl rfl ?_
  refine e_iload_n dX11_playOut_6 rfl ?_
  refine e_istore dX11_playOut_7 (Nat.le_of_ble_eq_true rfl) rfl rfl ?_
  replace H := ob H; obtain ⟨q25, c26, H⟩ := H
  have e27 := p_X11_playOut_9 1000 c26
  have hY28 := hY.pr okX e27
  refine e_wk (lk1 (lk1 (lk0 (lk1 (lk1 (lk1 (lk1 (lk1 lkn)))))))) (w_X11_playOut_9 d 1000 hY c26 ?_)
  refine g_aload_n dX11_playOut_72 rfl rfl ?_
  refine e_getR (hY28.t 0 rfl) flX11_76_12 dX11_playOut_73 rfl (hY28.r 12 rfl) ?_
  refine e_iconst (v := (0 : Int32)) dX11_playOut_76 (by decide) ?_
  refine e_iload dX11_playOut_77 rfl ?_
  refine e_iast (hY28.t 19 rfl) (ixb_y (hY28.n 19 rfl) (by decide)) dX11_playOut_79 ?_
  refine g_aload_n dX11_playOut_80 rfl rfl ?_
  refine e_getR (hY28.t 0 rfl) flX11_76_12 dX11_playOut_81 rfl (hY28.r 12 rfl) ?_
  refine e_iconst (v := (1 : Int32)) dX11_playOut_84 (by decide) ?_
  refine e_iload dX11_playOut_85 rfl ?_
  refine e_iast (hY28.t 19 rfl) (ixb_y (hY28.n 19 rfl) (by decide)) dX11_playOut_87 ?_
  refine g_aload_n dX11_playOut_88 rfl rfl ?_
  refine e_getR (hY28.t 0 rfl) flX11_76_12 dX11_playOut_89 rfl (hY28.r 12 rfl) ?_
  refine e_iconst (v := (2 : Int32)) dX11_playOut_92 (by decide) ?_
  refine e_iload dX11_playOut_93 rfl ?_
  refine e_iast (hY28.t 19 rfl) (ixb_y (hY28.n 19 rfl) (by decide)) dX11_playOut_95 ?_
  refine g_aload_n dX11_playOut_96 rfl rfl ?_
  refine e_getR (hY28.t 0 rfl) flX11_76_12 dX11_playOut_97 rfl (hY28.r 12 rfl) ?_
  refine e_iconst (v := (3 : Int32)) dX11_playOut_100 (by decide) ?_
  refine e_iload dX11_playOut_101 rfl ?_
  refine g_aload_n dX11_playOut_103 rfl rfl ?_
  replace H := og H; obtain ⟨g29, H⟩ := H
  refine gmX11_151_isSt g29 dX11_playOut_104 ?_
  refine e_imul dX11_playOut_107 ?_
  refine e_iload dX11_playOut_108 rfl ?_
  refine g_aload_n dX11_playOut_110 rfl rfl ?_
  refine gmX11_154_isSt g29 dX11_playOut_111 ?_
  refine e_imul dX11_playOut_114 ?_
  refine e_isub dX11_playOut_115 ?_
  refine e_iast (hY28.t 19 rfl) (ixb_y (hY28.n 19 rfl) (by decide)) dX11_playOut_116 ?_
  replace H := obh H; obtain ⟨h30, e31, H⟩ := H
  refine e_hq e31 ?_
  have hY32 := kY e31 hY28
  obtain rfl := Option.some.inj H
  exact z_vret rfl dX11_playOut_117 rfl rfl
-- X11_player
def f_X11_player (p1 : Int32) (p2 : Int32) (p3 : Int32) (p4 : Int32) (p5 : Int32) (h : HS) : Option (Int64 × HS) := (Option.bind (f_X11_isPlayer p1 p2 p3 p4 h) (fun q1 => (if q1 = true then (Option.bind (f_X11_isIn p5 (0 : Int32) (639 : Int32)) (fun q4 => (if q4 = true then (Option.bind (f_X11_stallAt (p1 / (10 : Int32)) h) (fun q7 => (om q7 (Option.bind (f_X11_handAt (p1 - p1 / (10 : Int32) * (10 : Int32)) h) (fun q11 => (om q11 (some ((-4611686018427387904 : Int64), h)) (fun b14 => (some ((-4611686018427387904 : Int64), h)))))) (fun b10 => (Option.bind (f_X11_handAt (p1 - p1 / (10 : Int32) * (10 : Int32)) h) (fun q17 => (om q17 (some ((-4611686018427387904 : Int64), h)) (fun b20 => (if (p5 - p5 / (10 : Int32) * (10 : Int32)) < (4 : Int32) then (Option.bind (f_X11_askPlayer b10 b20 p2 h) (fun q26 => (Option.bind (f_X11_winningThrows b10 b20 p2 p3 q26) (fun q30 => (Option.bind (f_X11_playOut b10 p4 (q30 ||| (p5 / (10 : Int32)).toInt64) q26) (fun q32 => (if ixb (p5 - p5 / (10 : Int32) * (10 : Int32)) 4 = true then (some ((hI q32 51 (p5 - p5 / (10 : Int32) * (10 : Int32)).toNatClampNeg).toInt64, q32)) else none))))))) else (some ((-4611686018427387904 : Int64), h))))))))))) else (some ((-4611686018427387904 : Int64), h))))) else (some ((-4611686018427387904 : Int64), h)))))
set_option maxHeartbeats 4000000 in
set_option maxRecDepth 20000 in
theorem p_X11_player {p1 : Int32} {p2 : Int32} {p3 : Int32} {p4 : Int32} {p5 : Int32} {h : HS} {q : (Int64 × HS)} (H : f_X11_player p1 p2 p3 p4 p5 h = some q) : Pr h q.2 := by
  unfold f_X11_player at H
  replace H := ob H; obtain ⟨q1, c2, H⟩ := H
  replace H := oi H; obtain ⟨c3, H⟩ | ⟨c3, H⟩ := H
  · replace H := ob H; obtain ⟨q4, c5, H⟩ := H
    replace H := oi H; obtain ⟨c6, H⟩ | ⟨c6, H⟩ := H
    · replace H := ob H; obtain ⟨q7, c8, H⟩ := H
      replace H := oom H; obtain ⟨e9, H⟩ | ⟨b10, e9, H⟩ := H
      · replace H := ob H; obtain ⟨q11, c12, H⟩ := H
        replace H := oom H; obtain ⟨e13, H⟩ | ⟨b14, e13, H⟩ := H
        · obtain rfl := Option.some.inj H
          exact Pr.rf
        · obtain rfl := Option.some.inj H
          exact Pr.rf
      · replace H := ob H; obtain ⟨q17, c18, H⟩ := H
        replace H := oom H; obtain ⟨e19, H⟩ | ⟨b20, e19, H⟩ := H
        · obtain rfl := Option.some.inj H
          exact Pr.rf
        · replace H := oi H; obtain ⟨c25, H⟩ | ⟨c25, H⟩ := H
          · replace H := ob H; obtain ⟨q26, c27, H⟩ := H
            have e28 := p_X11_askPlayer c27
            replace H := ob H; obtain ⟨q30, c31, H⟩ := H
            replace H := ob H; obtain ⟨q32, c33, H⟩ := H
            have e34 := p_X11_playOut c33
            replace H := og H; obtain ⟨g36, H⟩ := H
            obtain rfl := Option.some.inj H
            exact (e28.tr e34)
          · obtain rfl := Option.some.inj H
            exact Pr.rf
    · obtain rfl := Option.some.inj H
      exact Pr.rf
  · obtain rfl := Option.some.inj H
    exact Pr.rf
set_option maxHeartbeats 4000000 in
set_option maxRecDepth 20000 in
theorem t_X11_player {G : GE} (d : Nat) {p1 : Int32} {p2 : Int32} {p3 : Int32} {p4 : Int32} {p5 : Int32} {h : HS} {q : (Int64 × HS)} (hY : LY TX h) (H : f_X11_player p1 p2 p3 p4 p5 h = some q) : CE G (d + 7) yX11_player miX11_player [.ref 32, .int p1, .int p2, .int p3, .int p4, .int p5] h (some (.long q.1)) (q.2) := by
  unfold f_X11_player at H
  refine ce_of rfl (by decide) (fun q => by first | rfl | cases q) (Nat.le_of_ble_eq_true rfl) rfl ?_
  refine g_aload_n dX11_player_0 rfl rfl ?_
  refine e_iload_n dX11_player_1 rfl ?_
  refine e_iload_n dX11_player_2 rfl ?_
  refine e_iload_n dX11_player_3 rfl ?_
  refine e_iload dX11_player_4 rfl ?_
  replace H := ob H; obtain ⟨q1, c2, H⟩ := H
  refine v1 (hY.t 0 rfl) (by decide) rfl rfl lmX11_303 liX11_isPlayer lvX11_X11_isPlayer msX11_isPlayer dX11_player_6 (t_X11_isPlayer (d + 2) hY c2) rfl (Nat.le_of_ble_eq_true rfl) (Nat.le_refl _) ?_
  refine e_ifB_eq (tgt := 24) dX11_player_9 (by decide) (fun c3 => ?_) (fun c3 => ?_)
  · replace H := of_ (nb c3) H
    refine e_ldc2 (v := (-4611686018427387904 : Int64)) lkX11_189 dX11_player_24 ?_
    obtain rfl := Option.some.inj H
    exact z_lret rfl dX11_player_27 rfl rfl
  · replace H := ot c3 H
    refine e_iload dX11_player_12 rfl ?_
    refine e_iconst (v := (0 : Int32)) dX11_player_14 (by decide) ?_
    refine e_sipush (v := (639 : Int32)) dX11_player_15 (by decide) ?_
    replace H := ob H; obtain ⟨q4, c5, H⟩ := H
    refine s1 lmX11_106 lsX11_isIn msX11_isIn dX11_player_18 (t_X11_isIn (d + 6) c5) rfl (Nat.le_of_ble_eq_true rfl) (Nat.le_refl _) ?_
    refine e_ifB_ne (tgt := 28) dX11_player_21 (by decide) (fun c6 => ?_) (fun c6 => ?_)
    · replace H := ot c6 H
      refine e_iload dX11_player_28 rfl ?_
      refine e_bipush (v := (10 : Int32)) dX11_player_30 (by decide) ?_
      refine e_irem dX11_player_32 (by decide) ?_
      refine e_istore dX11_player_33 (Nat.le_of_ble_eq_true rfl) rfl rfl ?_
      refine g_aload_n dX11_player_35 rfl rfl ?_
      refine e_iload_n dX11_player_36 rfl ?_
      refine e_bipush (v := (10 : Int32)) dX11_player_37 (by decide) ?_
      refine e_idiv dX11_player_39 (by decide) ?_
      replace H := ob H; obtain ⟨q7, c8, H⟩ := H
      replace H := oom H; obtain ⟨e9, H⟩ | ⟨b10, e9, H⟩ := H
      · refine v1 (hY.t 0 rfl) (by decide) rfl rfl lmX11_122 liX11_stallAt lvX11_X11_stallAt msX11_stallAt dX11_player_40 (ceN e9 (t_X11_stallAt (d + 3) hY c8)) rfl (Nat.le_of_ble_eq_true rfl) (Nat.le_refl _) ?_
        refine g_astore dX11_player_43 (Nat.le_of_ble_eq_true rfl) rfl rfl rfl ?_
        refine g_aload_n dX11_player_45 rfl rfl ?_
        refine e_iload_n dX11_player_46 rfl ?_
        refine e_bipush (v := (10 : Int32)) dX11_player_47 (by decide) ?_
        refine e_irem dX11_player_49 (by decide) ?_
        replace H := ob H; obtain ⟨q11, c12, H⟩ := H
        replace H := oom H; obtain ⟨e13, H⟩ | ⟨b14, e13, H⟩ := H
        · refine v1 (hY.t 0 rfl) (by decide) rfl rfl lmX11_182 liX11_handAt lvX11_X11_handAt msX11_handAt dX11_player_50 (ceN e13 (t_X11_handAt (d + 3) hY c12)) rfl (Nat.le_of_ble_eq_true rfl) (Nat.le_refl _) ?_
          refine g_astore dX11_player_53 (Nat.le_of_ble_eq_true rfl) rfl rfl rfl ?_
          refine g_aload dX11_player_55 rfl rfl ?_
          refine e_ifnullN (tgt := 75) dX11_player_57 (by decide) ?_
          refine e_ldc2 (v := (-4611686018427387904 : Int64)) lkX11_189 dX11_player_75 ?_
          obtain rfl := Option.some.inj H
          exact z_lret rfl dX11_player_78 rfl rfl
        · refine v1 (hY.t 0 rfl) (by decide) rfl rfl lmX11_182 liX11_handAt lvX11_X11_handAt msX11_handAt dX11_player_50 (ceS e13 (t_X11_handAt (d + 3) hY c12)) rfl (Nat.le_of_ble_eq_true rfl) (Nat.le_refl _) ?_
          refine g_astore dX11_player_53 (Nat.le_of_ble_eq_true rfl) rfl rfl rfl ?_
          refine g_aload dX11_player_55 rfl rfl ?_
          refine e_ifnullN (tgt := 75) dX11_player_57 (by decide) ?_
          refine e_ldc2 (v := (-4611686018427387904 : Int64)) lkX11_189 dX11_player_75 ?_
          obtain rfl := Option.some.inj H
          exact z_lret rfl dX11_player_78 rfl rfl
      · refine v1 (hY.t 0 rfl) (by decide) rfl rfl lmX11_122 liX11_stallAt lvX11_X11_stallAt msX11_stallAt dX11_player_40 (ceS e9 (t_X11_stallAt (d + 3) hY c8)) rfl (Nat.le_of_ble_eq_true rfl) (Nat.le_refl _) ?_
        refine g_astore dX11_player_43 (Nat.le_of_ble_eq_true rfl) rfl rfl rfl ?_
        refine g_aload_n dX11_player_45 rfl rfl ?_
        refine e_iload_n dX11_player_46 rfl ?_
        refine e_bipush (v := (10 : Int32)) dX11_player_47 (by decide) ?_
        refine e_irem dX11_player_49 (by decide) ?_
        replace H := ob H; obtain ⟨q17, c18, H⟩ := H
        replace H := oom H; obtain ⟨e19, H⟩ | ⟨b20, e19, H⟩ := H
        · refine v1 (hY.t 0 rfl) (by decide) rfl rfl lmX11_182 liX11_handAt lvX11_X11_handAt msX11_handAt dX11_player_50 (ceN e19 (t_X11_handAt (d + 3) hY c18)) rfl (Nat.le_of_ble_eq_true rfl) (Nat.le_refl _) ?_
          refine g_astore dX11_player_53 (Nat.le_of_ble_eq_true rfl) rfl rfl rfl ?_
          refine g_aload dX11_player_55 rfl rfl ?_
          refine e_ifnull dX11_player_57 ?_
          refine g_aload dX11_player_60 rfl rfl ?_
          refine e_ifnullN (tgt := 75) dX11_player_62 (by decide) ?_
          refine e_ldc2 (v := (-4611686018427387904 : Int64)) lkX11_189 dX11_player_75 ?_
          obtain rfl := Option.some.inj H
          exact z_lret rfl dX11_player_78 rfl rfl
        · refine v1 (hY.t 0 rfl) (by decide) rfl rfl lmX11_182 liX11_handAt lvX11_X11_handAt msX11_handAt dX11_player_50 (ceS e19 (t_X11_handAt (d + 3) hY c18)) rfl (Nat.le_of_ble_eq_true rfl) (Nat.le_refl _) ?_
          refine g_astore dX11_player_53 (Nat.le_of_ble_eq_true rfl) rfl rfl rfl ?_
          refine g_aload dX11_player_55 rfl rfl ?_
          refine e_ifnull dX11_player_57 ?_
          refine g_aload dX11_player_60 rfl rfl ?_
          refine e_ifnull dX11_player_62 ?_
          refine e_iload dX11_player_65 rfl ?_
          refine g_aload_n dX11_player_67 rfl rfl ?_
          refine e_getR (hY.t 0 rfl) flX11_76_12 dX11_player_68 rfl (hY.r 12 rfl) ?_
          refine e_alen (hY.t 19 rfl) (by decide) dX11_player_71 ?_
          refine e_ci (y := (4 : Int32)) (by rw [(hY.n 19 rfl)]; rfl) ?_
          refine e_icmp_lt (tgt := 79) dX11_player_72 (by decide) (fun c25 => ?_) (fun c25 => ?_)
          · replace H := ot c25 H
            refine g_aload_n dX11_player_79 rfl rfl ?_
            refine g_aload dX11_player_80 rfl rfl ?_
            refine g_aload dX11_player_82 rfl rfl ?_
            refine e_iload_n dX11_player_84 rfl ?_
            replace H := ob H; obtain ⟨q26, c27, H⟩ := H
            refine v0 (hY.t 0 rfl) (by decide) rfl rfl lmX11_306 liX11_askPlayer lvX11_X11_askPlayer msX11_askPlayer dX11_player_85 (t_X11_askPlayer (d + 0) hY c27) rfl (Nat.le_of_ble_eq_true rfl) (Nat.le_refl _) ?_
            have e28 := p_X11_askPlayer c27
            have hY29 := hY.pr okX e28
            refine g_aload_n dX11_player_88 rfl rfl ?_
            refine g_aload dX11_player_89 rfl rfl ?_
            refine e_iload dX11_player_91 rfl ?_
            refine g_aload dX11_player_93 rfl rfl ?_
            refine g_aload dX11_player_95 rfl rfl ?_
            refine e_iload_n dX11_player_97 rfl ?_
            refine e_iload_n dX11_player_98 rfl ?_
            replace H := ob H; obtain ⟨q30, c31, H⟩ := H
            refine s1 lmX11_310 lsX11_winningThrows msX11_winningThrows dX11_player_99 (t_X11_winningThrows (d + 1) c31) rfl (Nat.le_of_ble_eq_true rfl) (Nat.le_refl _) ?_
            refine e_iload dX11_player_102 rfl ?_
            refine e_bipush (v := (10 : Int32)) dX11_player_104 (by decide) ?_
            refine e_idiv dX11_player_106 (by decide) ?_
            refine e_i2l dX11_player_107 ?_
            refine e_lor dX11_player_108 ?_
            replace H := ob H; obtain ⟨q32, c33, H⟩ := H
            refine v0 (hY29.t 0 rfl) (by decide) rfl rfl lmX11_314 liX11_playOut lvX11_X11_playOut msX11_playOut dX11_player_109 (t_X11_playOut (d + 1) hY29 c33) rfl (Nat.le_of_ble_eq_true rfl) (Nat.le_refl _) ?_
            have e34 := p_X11_playOut c33
            have hY35 := hY29.pr okX e34
            refine g_aload_n dX11_player_112 rfl rfl ?_
            refine e_getR (hY35.t 0 rfl) flX11_76_12 dX11_player_113 rfl (hY35.r 12 rfl) ?_
            refine e_iload dX11_player_116 rfl ?_
            replace H := og H; obtain ⟨g36, H⟩ := H
            refine e_iald (hY35.t 19 rfl) (ixb_y (hY35.n 19 rfl) g36) dX11_player_118 ?_
            refine e_i2l dX11_player_119 ?_
            obtain rfl := Option.some.inj H
            exact z_lret rfl dX11_player_120 rfl rfl
          · replace H := of_ c25 H
            refine e_ldc2 (v := (-4611686018427387904 : Int64)) lkX11_189 dX11_player_75 ?_
            obtain rfl := Option.some.inj H
            exact z_lret rfl dX11_player_78 rfl rfl
    · replace H := of_ (nb c6) H
      refine e_ldc2 (v := (-4611686018427387904 : Int64)) lkX11_189 dX11_player_24 ?_
      obtain rfl := Option.some.inj H
      exact z_lret rfl dX11_player_27 rfl rfl
-- J6_bitCount_0f7a4
def f_J6_bitCount_0f7a4 (p0 : Int32) : Option Int32 := (some ((((((((p0 - (((p0.toUInt32 >>> ((1 : Int32).toUInt32 &&& Int32.toUInt32 31)).toInt32) &&& ((1431655765 : Int32)))) &&& ((858993459 : Int32))) + ((((p0 - (((p0.toUInt32 >>> ((1 : Int32).toUInt32 &&& Int32.toUInt32 31)).toInt32) &&& ((1431655765 : Int32)))).toUInt32 >>> ((2 : Int32).toUInt32 &&& Int32.toUInt32 31)).toInt32) &&& ((858993459 : Int32)))) + (((((p0 - (((p0.toUInt32 >>> ((1 : Int32).toUInt32 &&& Int32.toUInt32 31)).toInt32) &&& ((1431655765 : Int32)))) &&& ((858993459 : Int32))) + ((((p0 - (((p0.toUInt32 >>> ((1 : Int32).toUInt32 &&& Int32.toUInt32 31)).toInt32) &&& ((1431655765 : Int32)))).toUInt32 >>> ((2 : Int32).toUInt32 &&& Int32.toUInt32 31)).toInt32) &&& ((858993459 : Int32)))).toUInt32 >>> ((4 : Int32).toUInt32 &&& Int32.toUInt32 31)).toInt32)) &&& ((252645135 : Int32))) + (((((((p0 - (((p0.toUInt32 >>> ((1 : Int32).toUInt32 &&& Int32.toUInt32 31)).toInt32) &&& ((1431655765 : Int32)))) &&& ((858993459 : Int32))) + ((((p0 - (((p0.toUInt32 >>> ((1 : Int32).toUInt32 &&& Int32.toUInt32 31)).toInt32) &&& ((1431655765 : Int32)))).toUInt32 >>> ((2 : Int32).toUInt32 &&& Int32.toUInt32 31)).toInt32) &&& ((858993459 : Int32)))) + (((((p0 - (((p0.toUInt32 >>> ((1 : Int32).toUInt32 &&& Int32.toUInt32 31)).toInt32) &&& ((1431655765 : Int32)))) &&& ((858993459 : Int32))) + ((((p0 - (((p0.toUInt32 >>> ((1 : Int32).toUInt32 &&& Int32.toUInt32 31)).toInt32) &&& ((1431655765 : Int32)))).toUInt32 >>> ((2 : Int32).toUInt32 &&& Int32.toUInt32 31)).toInt32) &&& ((858993459 : Int32)))).toUInt32 >>> ((4 : Int32).toUInt32 &&& Int32.toUInt32 31)).toInt32)) &&& ((252645135 : Int32))).toUInt32 >>> ((8 : Int32).toUInt32 &&& Int32.toUInt32 31)).toInt32)) + ((((((((p0 - (((p0.toUInt32 >>> ((1 : Int32).toUInt32 &&& Int32.toUInt32 31)).toInt32) &&& ((1431655765 : Int32)))) &&& ((858993459 : Int32))) + ((((p0 - (((p0.toUInt32 >>> ((1 : Int32).toUInt32 &&& Int32.toUInt32 31)).toInt32) &&& ((1431655765 : Int32)))).toUInt32 >>> ((2 : Int32).toUInt32 &&& Int32.toUInt32 31)).toInt32) &&& ((858993459 : Int32)))) + (((((p0 - (((p0.toUInt32 >>> ((1 : Int32).toUInt32 &&& Int32.toUInt32 31)).toInt32) &&& ((1431655765 : Int32)))) &&& ((858993459 : Int32))) + ((((p0 - (((p0.toUInt32 >>> ((1 : Int32).toUInt32 &&& Int32.toUInt32 31)).toInt32) &&& ((1431655765 : Int32)))).toUInt32 >>> ((2 : Int32).toUInt32 &&& Int32.toUInt32 31)).toInt32) &&& ((858993459 : Int32)))).toUInt32 >>> ((4 : Int32).toUInt32 &&& Int32.toUInt32 31)).toInt32)) &&& ((252645135 : Int32))) + (((((((p0 - (((p0.toUInt32 >>> ((1 : Int32).toUInt32 &&& Int32.toUInt32 31)).toInt32) &&& ((1431655765 : Int32)))) &&& ((858993459 : Int32))) + ((((p0 - (((p0.toUInt32 >>> ((1 : Int32).toUInt32 &&& Int32.toUInt32 31)).toInt32) &&& ((1431655765 : Int32)))).toUInt32 >>> ((2 : Int32).toUInt32 &&& Int32.toUInt32 31)).toInt32) &&& ((858993459 : Int32)))) + (((((p0 - (((p0.toUInt32 >>> ((1 : Int32).toUInt32 &&& Int32.toUInt32 31)).toInt32) &&& ((1431655765 : Int32)))) &&& ((858993459 : Int32))) + ((((p0 - (((p0.toUInt32 >>> ((1 : Int32).toUInt32 &&& Int32.toUInt32 31)).toInt32) &&& ((1431655765 : Int32)))).toUInt32 >>> ((2 : Int32).toUInt32 &&& Int32.toUInt32 31)).toInt32) &&& ((858993459 : Int32)))).toUInt32 >>> ((4 : Int32).toUInt32 &&& Int32.toUInt32 31)).toInt32)) &&& ((252645135 : Int32))).toUInt32 >>> ((8 : Int32).toUInt32 &&& Int32.toUInt32 31)).toInt32)).toUInt32 >>> ((16 : Int32).toUInt32 &&& Int32.toUInt32 31)).toInt32)) &&& (63 : Int32)))
set_option maxHeartbeats 4000000 in
set_option maxRecDepth 20000 in
theorem t_J6_bitCount_0f7a4 {G : GE} (d : Nat) {p0 : Int32} {h : HS} {q : Int32} (H : f_J6_bitCount_0f7a4 p0 = some q) : CE G (d + 0) yJ6_bitCount_0f7a4 miJ6_bitCount_0f7a4 [.int p0] h (some (.int q)) (h) := by
  unfold f_J6_bitCount_0f7a4 at H
  refine ce_of rfl (by decide) (fun q => by first | rfl | cases q) (Nat.le_of_ble_eq_true rfl) rfl ?_
  refine e_iload_n dJ6_bitCount_0f7a4_0 rfl ?_
  refine e_iload_n dJ6_bitCount_0f7a4_1 rfl ?_
  refine e_iconst (v := (1 : Int32)) dJ6_bitCount_0f7a4_2 (by decide) ?_
  refine e_iushr dJ6_bitCount_0f7a4_3 ?_
  refine e_ldcw (v := ((1431655765 : Int32))) lkJ6_265 dJ6_bitCount_0f7a4_4 ?_
  refine e_iand dJ6_bitCount_0f7a4_7 ?_
  refine e_isub dJ6_bitCount_0f7a4_8 ?_
  refine e_istore_n dJ6_bitCount_0f7a4_9 (Nat.le_of_ble_eq_true rfl) rfl rfl ?_
  refine e_iload_n dJ6_bitCount_0f7a4_10 rfl ?_
  refine e_ldcw (v := ((858993459 : Int32))) lkJ6_266 dJ6_bitCount_0f7a4_11 ?_
  refine e_iand dJ6_bitCount_0f7a4_14 ?_
  refine e_iload_n dJ6_bitCount_0f7a4_15 rfl ?_
  refine e_iconst (v := (2 : Int32)) dJ6_bitCount_0f7a4_16 (by decide) ?_
  refine e_iushr dJ6_bitCount_0f7a4_17 ?_
  refine e_ldcw (v := ((858993459 : Int32))) lkJ6_266 dJ6_bitCount_0f7a4_18 ?_
  refine e_iand dJ6_bitCount_0f7a4_21 ?_
  refine e_iadd dJ6_bitCount_0f7a4_22 ?_
  refine e_istore_n dJ6_bitCount_0f7a4_23 (Nat.le_of_ble_eq_true rfl) rfl rfl ?_
  refine e_iload_n dJ6_bitCount_0f7a4_24 rfl ?_
  refine e_iload_n dJ6_bitCount_0f7a4_25 rfl ?_
  refine e_iconst (v := (4 : Int32)) dJ6_bitCount_0f7a4_26 (by decide) ?_
  refine e_iushr dJ6_bitCount_0f7a4_27 ?_
  refine e_iadd dJ6_bitCount_0f7a4_28 ?_
  refine e_ldcw (v := ((252645135 : Int32))) lkJ6_267 dJ6_bitCount_0f7a4_29 ?_
  refine e_iand dJ6_bitCount_0f7a4_32 ?_
  refine e_istore_n dJ6_bitCount_0f7a4_33 (Nat.le_of_ble_eq_true rfl) rfl rfl ?_
  refine e_iload_n dJ6_bitCount_0f7a4_34 rfl ?_
  refine e_iload_n dJ6_bitCount_0f7a4_35 rfl ?_
  refine e_bipush (v := (8 : Int32)) dJ6_bitCount_0f7a4_36 (by decide) ?_
  refine e_iushr dJ6_bitCount_0f7a4_38 ?_
  refine e_iadd dJ6_bitCount_0f7a4_39 ?_
  refine e_istore_n dJ6_bitCount_0f7a4_40 (Nat.le_of_ble_eq_true rfl) rfl rfl ?_
  refine e_iload_n dJ6_bitCount_0f7a4_41 rfl ?_
  refine e_iload_n dJ6_bitCount_0f7a4_42 rfl ?_
  refine e_bipush (v := (16 : Int32)) dJ6_bitCount_0f7a4_43 (by decide) ?_
  refine e_iushr dJ6_bitCount_0f7a4_45 ?_
  refine e_iadd dJ6_bitCount_0f7a4_46 ?_
  refine e_istore_n dJ6_bitCount_0f7a4_47 (Nat.le_of_ble_eq_true rfl) rfl rfl ?_
  refine e_iload_n dJ6_bitCount_0f7a4_48 rfl ?_
  refine e_bipush (v := (63 : Int32)) dJ6_bitCount_0f7a4_49 (by decide) ?_
  refine e_iand dJ6_bitCount_0f7a4_51 ?_
  obtain rfl := Option.some.inj H
  exact z_iret rfl rfl dJ6_bitCount_0f7a4_52 rfl rfl
-- X11_most
def l_X11_most_88 (y4 : Int32) (y5 : Int32) (y6 : Nat) (y8 : Int64)  : Nat → Int32 → Int32 → Int32 → HS → Option (Int32 × HS)
  | 0, _, _, _, _ => none
  | n + 1, x10, x11, x12, h => (if (64 : Int32) ≤ x12 then (some (x11, h)) else (Option.bind (f_J6_bitCount_0f7a4 x12) (fun q41 => (if y5 < q41 then (l_X11_most_88 y4 y5 y6 y8 n x10 x11 (x12 + (1 : Int32)) h) else (Option.bind (f_X11_playOut y6 y4 (y8 ||| x12.toInt64) h) (fun q44 => (if (hI q44 51 (0 : Int32).toNatClampNeg) ≤ x10 then (l_X11_most_88 y4 y5 y6 y8 n x10 x11 (x12 + (1 : Int32)) q44) else (l_X11_most_88 y4 y5 y6 y8 n (hI q44 51 (0 : Int32).toNatClampNeg) x12 (x12 + (1 : Int32)) q44))))))))
set_option maxHeartbeats 4000000 in
set_option maxRecDepth 20000 in
theorem p_X11_most_88 {y4 : Int32} {y5 : Int32} {y6 : Nat} {y8 : Int64} : ∀ (n : Nat) {x10 : Int32} {x11 : Int32} {x12 : Int32} {h : HS} {q : (Int32 × HS)}, l_X11_most_88 y4 y5 y6 y8 n x10 x11 x12 h = some q → Pr h q.2 := by
  intro n
  induction n with
  | zero => intro x10 x11 x12 h q H; exact nz H
  | succ n ih =>
    intro x10 x11 x12 h q H
    unfold l_X11_most_88 at H
    replace H := oi H; obtain ⟨c40, H⟩ | ⟨c40, H⟩ := H
    · obtain rfl := Option.some.inj H
      exact Pr.rf
    · replace H := ob H; obtain ⟨q41, c42, H⟩ := H
      replace H := oi H; obtain ⟨c43, H⟩ | ⟨c43, H⟩ := H
      · exact id (ih H)
      · replace H := ob H; obtain ⟨q44, c45, H⟩ := H
        have e46 := p_X11_playOut c45
        replace H := oi H; obtain ⟨c48, H⟩ | ⟨c48, H⟩ := H
        · exact e46.tr (ih H)
        · exact e46.tr (ih H)
set_option maxHeartbeats 4000000 in
set_option maxRecDepth 20000 in
theorem w_X11_most_88 {G : GE} (d : Nat) {y4 : Int32} {y5 : Int32} {y6 : Nat} {y8 : Int64} {r : Option Value} {h' : HS}  : ∀ (n : Nat) {x10 : Int32} {x11 : Int32} {x12 : Int32} {h : HS} {q : (Int32 × HS)}, LY TX h → l_X11_most_88 y4 y5 y6 y8 n x10 x11 x12 h = some q → En G (d + 7) miX11_most 148 [dum, dum, dum, dum, dum, dum, dum, dum, dum, dum, dum, .int q.1, dum] [] q.2 r h' → En G (d + 7) miX11_most 88 [.ref 32, dum, dum, dum, .int y4, .int y5, .ref y6, dum, .long y8, dum, .int x10, .int x11, .int x12] [] h r h' := by
  intro n
  induction n with
  | zero => intro x10 x11 x12 h q hYTX H kE; exact nz H
  | succ n ih =>
    intro x10 x11 x12 h q hYTX H kE
    unfold l_X11_most_88 at H
    refine e_iload dX11_most_88 rfl ?_
    refine e_bipush (v := (64 : Int32)) dX11_most_90 (by decide) ?_
    refine e_icmp_ge (tgt := 148) dX11_most_92 (by decide) (fun c40 => ?_) (fun c40 => ?_)
    · replace H := ot c40 H
      obtain rfl := Option.some.inj H
      exact e_wk (lk0 (lk1 (lk1 (lk1 (lk0 (lk0 (lk0 (lk1 (lk0 (lk1 (lk0 (lk1 (lk0 lkn))))))))))))) kE
    · replace H := of_ c40 H
      refine e_iload dX11_most_95 rfl ?_
      replace H := ob H; obtain ⟨q41, c42, H⟩ := H
      refine s1 lmX11_318 lsJ6_bitCount_0f7a4 msJ6_bitCount_0f7a4 dX11_most_97 (t_J6_bitCount_0f7a4 (d + 6) c42) rfl (Nat.le_of_ble_eq_true rfl) (Nat.le_refl _) ?_
      refine e_iload dX11_most_100 rfl ?_
      refine e_icmp_gt (tgt := 142) dX11_most_102 (by decide) (fun c43 => ?_) (fun c43 => ?_)
      · replace H := ot c43 H
        refine e_iinc dX11_most_142 rfl (ii_ (by decide : Int32.ofInt (1) = (1 : Int32))) (Nat.le_of_ble_eq_true rfl) rfl rfl ?_
        refine e_goto (tgt := 88) dX11_most_145 (by decide) ?_
        exact e_wk (lk1 (lk1 (lk1 (lk1 (lk1 (lk1 (lk1 (lk1 (lk1 (lk1 (lk1 (lk1 (lk1 lkn))))))))))))) (ih hYTX H kE)
      · replace H := of_ c43 H
        refine g_aload_n dX11_most_105 rfl rfl ?_
        refine g_aload dX11_most_106 rfl rfl ?_
        refine e_iload dX11_most_108 rfl ?_
        refine e_lload dX11_most_110 rfl ?_
        refine e_iload dX11_most_112 rfl ?_
        refine e_i2l dX11_most_114 ?_
        refine e_lor dX11_most_115 ?_
        replace H := ob H; obtain ⟨q44, c45, H⟩ := H
        refine v0 (hYTX.t 0 rfl) (by decide) rfl rfl lmX11_314 liX11_playOut lvX11_X11_playOut msX11_playOut dX11_most_116 (t_X11_playOut (d + 1) hYTX c45) rfl (Nat.le_of_ble_eq_true rfl) (Nat.le_refl _) ?_
        have e46 := p_X11_playOut c45
        have hY47 := hYTX.pr okX e46
        refine g_aload_n dX11_most_119 rfl rfl ?_
        refine e_getR (hY47.t 0 rfl) flX11_76_12 dX11_most_120 rfl (hY47.r 12 rfl) ?_
        refine e_iconst (v := (0 : Int32)) dX11_most_123 (by decide) ?_
        refine e_iald (hY47.t 19 rfl) (ixb_y (hY47.n 19 rfl) (by decide)) dX11_most_124 ?_
        refine e_iload dX11_most_125 rfl ?_
        refine e_icmp_le (tgt := 142) dX11_most_127 (by decide) (fun c48 => ?_) (fun c48 => ?_)
        · replace H := ot c48 H
          refine e_iinc dX11_most_142 rfl (ii_ (by decide : Int32.ofInt (1) = (1 : Int32))) (Nat.le_of_ble_eq_true rfl) rfl rfl ?_
          refine e_goto (tgt := 88) dX11_most_145 (by decide) ?_
          exact e_wk (lk1 (lk1 (lk1 (lk1 (lk1 (lk1 (lk1 (lk1 (lk1 (lk1 (lk1 (lk1 (lk1 lkn))))))))))))) (ih hY47 H kE)
        · replace H := of_ c48 H
          refine g_aload_n dX11_most_130 rfl rfl ?_
          refine e_getR (hY47.t 0 rfl) flX11_76_12 dX11_most_131 rfl (hY47.r 12 rfl) ?_
          refine e_iconst (v := (0 : Int32)) dX11_most_134 (by decide) ?_
          refine e_iald (hY47.t 19 rfl) (ixb_y (hY47.n 19 rfl) (by decide)) dX11_most_135 ?_
          refine e_istore dX11_most_136 (Nat.le_of_ble_eq_true rfl) rfl rfl ?_
          refine e_iload dX11_most_138 rfl ?_
          refine e_istore dX11_most_140 (Nat.le_of_ble_eq_true rfl) rfl rfl ?_
          refine e_iinc dX11_most_142 rfl (ii_ (by decide : Int32.ofInt (1) = (1 : Int32))) (Nat.le_of_ble_eq_true rfl) rfl rfl ?_
          refine e_goto (tgt := 88) dX11_most_145 (by decide) ?_
          exact e_wk (lk1 (lk1 (lk1 (lk1 (lk1 (lk1 (lk1 (lk1 (lk1 (lk1 (lk1 (lk1 (lk1 lkn))))))))))))) (ih hY47 H kE)
def f_X11_most (p1 : Int32) (p2 : Int32) (p3 : Int32) (p4 : Int32) (p5 : Int32) (h : HS) : Option (Int32 × HS) := (Option.bind (f_X11_isPlayer p1 p2 p3 p4 h) (fun q1 => (if q1 = true then (Option.bind (f_X11_isIn p5 (0 : Int32) (6 : Int32)) (fun q4 => (if q4 = true then (Option.bind (f_X11_stallAt (p1 / (10 : Int32)) h) (fun q7 => (om q7 (Option.bind (f_X11_handAt (p1 - p1 / (10 : Int32) * (10 : Int32)) h) (fun q11 => (om q11 (some ((-2 : Int32), h)) (fun b14 => (some ((-2 : Int32), h)))))) (fun b10 => (Option.bind (f_X11_handAt (p1 - p1 / (10 : Int32) * (10 : Int32)) h) (fun q17 => (om q17 (some ((-2 : Int32), h)) (fun b20 => (Option.bind (f_X11_askPlayer b10 b20 p2 h) (fun q25 => (Option.bind (f_X11_winningThrows b10 b20 p2 p3 q25) (fun q29 => (Option.bind (l_X11_most_88 p4 p5 b10 q29 1000 (-1 : Int32) (0 : Int32) (0 : Int32) q25) (fun q49 => (some (q49.1, q49.2)))))))))))))))) else (some ((-2 : Int32), h))))) else (some ((-2 : Int32), h)))))
set_option maxHeartbeats 4000000 in
set_option maxRecDepth 20000 in
theorem p_X11_most {p1 : Int32} {p2 : Int32} {p3 : Int32} {p4 : Int32} {p5 : Int32} {h : HS} {q : (Int32 × HS)} (H : f_X11_most p1 p2 p3 p4 p5 h = some q) : Pr h q.2 := by
  unfold f_X11_most at H
  replace H := ob H; obtain ⟨q1, c2, H⟩ := H
  replace H := oi H; obtain ⟨c3, H⟩ | ⟨c3, H⟩ := H
  · replace H := ob H; obtain ⟨q4, c5, H⟩ := H
    replace H := oi H; obtain ⟨c6, H⟩ | ⟨c6, H⟩ := H
    · replace H := ob H; obtain ⟨q7, c8, H⟩ := H
      replace H := oom H; obtain ⟨e9, H⟩ | ⟨b10, e9, H⟩ := H
      · replace H := ob H; obtain ⟨q11, c12, H⟩ := H
        replace H := oom H; obtain ⟨e13, H⟩ | ⟨b14, e13, H⟩ := H
        · obtain rfl := Option.some.inj H
          exact Pr.rf
        · obtain rfl := Option.some.inj H
          exact Pr.rf
      · replace H := ob H; obtain ⟨q17, c18, H⟩ := H
        replace H := oom H; obtain ⟨e19, H⟩ | ⟨b20, e19, H⟩ := H
        · obtain rfl := Option.some.inj H
          exact Pr.rf
        · replace H := ob H; obtain ⟨q25, c26, H⟩ := H
          have e27 := p_X11_askPlayer c26
          replace H := ob H; obtain ⟨q29, c30, H⟩ := H
          replace H := ob H; obtain ⟨q49, c50, H⟩ := H
          have e51 := p_X11_most_88 1000 c50
          obtain rfl := Option.some.inj H
          exact (e27.tr e51)
    · obtain rfl := Option.some.inj H
      exact Pr.rf
  · obtain rfl := Option.some.inj H
    exact Pr.rf
set_option maxHeartbeats 4000000 in
set_option maxRecDepth 20000 in
theorem t_X11_most {G : GE} (d : Nat) {p1 : Int32} {p2 : Int32} {p3 : Int32} {p4 : Int32} {p5 : Int32} {h : HS} {q : (Int32 × HS)} (hY : LY TX h) (H : f_X11_most p1 p2 p3 p4 p5 h = some q) : CE G (d + 7) yX11_most miX11_most [.ref 32, .int p1, .int p2, .int p3, .int p4, .int p5] h (some (.int q.1)) (q.2) := by
  unfold f_X11_most at H
  refine ce_of rfl (by decide) (fun q => by first | rfl | cases q) (Nat.le_of_ble_eq_true rfl) rfl ?_
  refine g_aload_n dX11_most_0 rfl rfl ?_
  refine e_iload_n dX11_most_1 rfl ?_
  refine e_iload_n dX11_most_2 rfl ?_
  refine e_iload_n dX11_most_3 rfl ?_
  refine e_iload dX11_most_4 rfl ?_
  replace H := ob H; obtain ⟨q1, c2, H⟩ := H
  refine v1 (hY.t 0 rfl) (by decide) rfl rfl lmX11_303 liX11_isPlayer lvX11_X11_isPlayer msX11_isPlayer dX11_most_6 (t_X11_isPlayer (d + 2) hY c2) rfl (Nat.le_of_ble_eq_true rfl) (Nat.le_refl _) ?_
  refine e_ifB_eq (tgt := 23) dX11_most_9 (by decide) (fun c3 => ?_) (fun c3 => ?_)
  · replace H := of_ (nb c3) H
    refine e_bipush (v := (-2 : Int32)) dX11_most_23 (by decide) ?_
    obtain rfl := Option.some.inj H
    exact z_iret rfl rfl dX11_most_25 rfl rfl
  · replace H := ot c3 H
    refine e_iload dX11_most_12 rfl ?_
    refine e_iconst (v := (0 : Int32)) dX11_most_14 (by decide) ?_
    refine e_bipush (v := (6 : Int32)) dX11_most_15 (by decide) ?_
    replace H := ob H; obtain ⟨q4, c5, H⟩ := H
    refine s1 lmX11_106 lsX11_isIn msX11_isIn dX11_most_17 (t_X11_isIn (d + 6) c5) rfl (Nat.le_of_ble_eq_true rfl) (Nat.le_refl _) ?_
    refine e_ifB_ne (tgt := 26) dX11_most_20 (by decide) (fun c6 => ?_) (fun c6 => ?_)
    · replace H := ot c6 H
      refine g_aload_n dX11_most_26 rfl rfl ?_
      refine e_iload_n dX11_most_27 rfl ?_
      refine e_bipush (v := (10 : Int32)) dX11_most_28 (by decide) ?_
      refine e_idiv dX11_most_30 (by decide) ?_
      replace H := ob H; obtain ⟨q7, c8, H⟩ := H
      replace H := oom H; obtain ⟨e9, H⟩ | ⟨b10, e9, H⟩ := H
      · refine v1 (hY.t 0 rfl) (by decide) rfl rfl lmX11_122 liX11_stallAt lvX11_X11_stallAt msX11_stallAt dX11_most_31 (ceN e9 (t_X11_stallAt (d + 3) hY c8)) rfl (Nat.le_of_ble_eq_true rfl) (Nat.le_refl _) ?_
        refine g_astore dX11_most_34 (Nat.le_of_ble_eq_true rfl) rfl rfl rfl ?_
        refine g_aload_n dX11_most_36 rfl rfl ?_
        refine e_iload_n dX11_most_37 rfl ?_
        refine e_bipush (v := (10 : Int32)) dX11_most_38 (by decide) ?_
        refine e_irem dX11_most_40 (by decide) ?_
        replace H := ob H; obtain ⟨q11, c12, H⟩ := H
        replace H := oom H; obtain ⟨e13, H⟩ | ⟨b14, e13, H⟩ := H
        · refine v1 (hY.t 0 rfl) (by decide) rfl rfl lmX11_182 liX11_handAt lvX11_X11_handAt msX11_handAt dX11_most_41 (ceN e13 (t_X11_handAt (d + 3) hY c12)) rfl (Nat.le_of_ble_eq_true rfl) (Nat.le_refl _) ?_
          refine g_astore dX11_most_44 (Nat.le_of_ble_eq_true rfl) rfl rfl rfl ?_
          refine g_aload dX11_most_46 rfl rfl ?_
          refine e_ifnullN (tgt := 56) dX11_most_48 (by decide) ?_
          refine e_bipush (v := (-2 : Int32)) dX11_most_56 (by decide) ?_
          obtain rfl := Option.some.inj H
          exact z_iret rfl rfl dX11_most_58 rfl rfl
        · refine v1 (hY.t 0 rfl) (by decide) rfl rfl lmX11_182 liX11_handAt lvX11_X11_handAt msX11_handAt dX11_most_41 (ceS e13 (t_X11_handAt (d + 3) hY c12)) rfl (Nat.le_of_ble_eq_true rfl) (Nat.le_refl _) ?_
          refine g_astore dX11_most_44 (Nat.le_of_ble_eq_true rfl) rfl rfl rfl ?_
          refine g_aload dX11_most_46 rfl rfl ?_
          refine e_ifnullN (tgt := 56) dX11_most_48 (by decide) ?_
          refine e_bipush (v := (-2 : Int32)) dX11_most_56 (by decide) ?_
          obtain rfl := Option.some.inj H
          exact z_iret rfl rfl dX11_most_58 rfl rfl
      · refine v1 (hY.t 0 rfl) (by decide) rfl rfl lmX11_122 liX11_stallAt lvX11_X11_stallAt msX11_stallAt dX11_most_31 (ceS e9 (t_X11_stallAt (d + 3) hY c8)) rfl (Nat.le_of_ble_eq_true rfl) (Nat.le_refl _) ?_
        refine g_astore dX11_most_34 (Nat.le_of_ble_eq_true rfl) rfl rfl rfl ?_
        refine g_aload_n dX11_most_36 rfl rfl ?_
        refine e_iload_n dX11_most_37 rfl ?_
        refine e_bipush (v := (10 : Int32)) dX11_most_38 (by decide) ?_
        refine e_irem dX11_most_40 (by decide) ?_
        replace H := ob H; obtain ⟨q17, c18, H⟩ := H
        replace H := oom H; obtain ⟨e19, H⟩ | ⟨b20, e19, H⟩ := H
        · refine v1 (hY.t 0 rfl) (by decide) rfl rfl lmX11_182 liX11_handAt lvX11_X11_handAt msX11_handAt dX11_most_41 (ceN e19 (t_X11_handAt (d + 3) hY c18)) rfl (Nat.le_of_ble_eq_true rfl) (Nat.le_refl _) ?_
          refine g_astore dX11_most_44 (Nat.le_of_ble_eq_true rfl) rfl rfl rfl ?_
          refine g_aload dX11_most_46 rfl rfl ?_
          refine e_ifnull dX11_most_48 ?_
          refine g_aload dX11_most_51 rfl rfl ?_
          refine e_ifnonnullN dX11_most_53 ?_
          refine e_bipush (v := (-2 : Int32)) dX11_most_56 (by decide) ?_
          obtain rfl := Option.some.inj H
          exact z_iret rfl rfl dX11_most_58 rfl rfl
        · refine v1 (hY.t 0 rfl) (by decide) rfl rfl lmX11_182 liX11_handAt lvX11_X11_handAt msX11_handAt dX11_most_41 (ceS e19 (t_X11_handAt (d + 3) hY c18)) rfl (Nat.le_of_ble_eq_true rfl) (Nat.le_refl _) ?_
          refine g_astore dX11_most_44 (Nat.le_of_ble_eq_true rfl) rfl rfl rfl ?_
          refine g_aload dX11_most_46 rfl rfl ?_
          refine e_ifnull dX11_most_48 ?_
          refine g_aload dX11_most_51 rfl rfl ?_
          refine e_ifnonnull (tgt := 59) dX11_most_53 (by decide) ?_
          refine g_aload_n dX11_most_59 rfl rfl ?_
          refine g_aload dX11_most_60 rfl rfl ?_
          refine g_aload dX11_most_62 rfl rfl ?_
          refine e_iload_n dX11_most_64 rfl ?_
          replace H := ob H; obtain ⟨q25, c26, H⟩ := H
          refine v0 (hY.t 0 rfl) (by decide) rfl rfl lmX11_306 liX11_askPlayer lvX11_X11_askPlayer msX11_askPlayer dX11_most_65 (t_X11_askPlayer (d + 0) hY c26) rfl (Nat.le_of_ble_eq_true rfl) (Nat.le_refl _) ?_
          have e27 := p_X11_askPlayer c26
          have hY28 := hY.pr okX e27
          refine g_aload dX11_most_68 rfl rfl ?_
          refine g_aload dX11_most_70 rfl rfl ?_
          refine e_iload_n dX11_most_72 rfl ?_
          refine e_iload_n dX11_most_73 rfl ?_
          replace H := ob H; obtain ⟨q29, c30, H⟩ := H
          refine s1 lmX11_310 lsX11_winningThrows msX11_winningThrows dX11_most_74 (t_X11_winningThrows (d + 1) c30) rfl (Nat.le_of_ble_eq_true rfl) (Nat.le_refl _) ?_
          refine e_lstore dX11_most_77 (Nat.le_of_ble_eq_true rfl) rfl rfl ?_
          refine e_iconst (v := (-1 : Int32)) dX11_most_79 (by decide) ?_
          refine e_istore dX11_most_80 (Nat.le_of_ble_eq_true rfl) rfl rfl ?_
          refine e_iconst (v := (0 : Int32)) dX11_most_82 (by decide) ?_
          refine e_istore dX11_most_83 (Nat.le_of_ble_eq_true rfl) rfl rfl ?_
          refine e_iconst (v := (0 : Int32)) dX11_most_85 (by decide) ?_
          refine e_istore dX11_most_86 (Nat.le_of_ble_eq_true rfl) rfl rfl ?_
          replace H := ob H; obtain ⟨q49, c50, H⟩ := H
          have e51 := p_X11_most_88 1000 c50
          have hY52 := hY28.pr okX e51
          refine e_wk (lk1 (lk0 (lk0 (lk0 (lk1 (lk1 (lk1 (lk0 (lk1 (lk1 (lk1 (lk1 (lk1 lkn))))))))))))) (w_X11_most_88 d 1000 hY28 c50 ?_)
          refine e_iload dX11_most_148 rfl ?_
          obtain rfl := Option.some.inj H
          exact z_iret rfl rfl dX11_most_150 rfl rfl
    · replace H := of_ (nb c6) H
      refine e_bipush (v := (-2 : Int32)) dX11_most_23 (by decide) ?_
      obtain rfl := Option.some.inj H
      exact z_iret rfl rfl dX11_most_25 rfl rfl
-- X11_answerOf
def f_X11_answerOf (p0 : Int32) (p1 : Int32) : Option Int32 := (Option.bind (f_X11_isIn p1 (0 : Int32) ((6 : Int32) - (1 : Int32))) (fun q1 => (if q1 = true then (if ixb p1 6 = true then (Option.bind (f_X11_quotient p0.toInt64 (ansL.getD p1.toNatClampNeg 0).toInt64) (fun q5 => (some (q5.toInt32 - q5.toInt32 / (10 : Int32) * (10 : Int32))))) else none) else (some (0 : Int32)))))
set_option maxHeartbeats 4000000 in
set_option maxRecDepth 20000 in
theorem t_X11_answerOf {G : GE} (d : Nat) {p0 : Int32} {p1 : Int32} {h : HS} {q : Int32} (H : f_X11_answerOf p0 p1 = some q) : CE G (d + 1) yX11_answerOf miX11_answerOf [.int p0, .int p1] h (some (.int q)) (h) := by
  unfold f_X11_answerOf at H
  refine ce_of rfl (by decide) (fun q => by first | rfl | cases q) (Nat.le_of_ble_eq_true rfl) rfl ?_
  refine e_iload_n dX11_answerOf_0 rfl ?_
  refine e_iconst (v := (0 : Int32)) dX11_answerOf_1 (by decide) ?_
  refine e_gsA (gT_5 1 rfl rfl) dX11_answerOf_2 ?_
  refine e_cAl dX11_answerOf_5 ?_
  refine e_iconst (v := (1 : Int32)) dX11_answerOf_6 (by decide) ?_
  refine e_isub dX11_answerOf_7 ?_
  replace H := ob H; obtain ⟨q1, c2, H⟩ := H
  refine s1 lmX11_106 lsX11_isIn msX11_isIn dX11_answerOf_8 (t_X11_isIn (d + 0) c2) rfl (Nat.le_of_ble_eq_true rfl) (Nat.le_refl _) ?_
  refine e_ifB_ne (tgt := 16) dX11_answerOf_11 (by decide) (fun c3 => ?_) (fun c3 => ?_)
  · replace H := ot c3 H
    refine e_iload_n dX11_answerOf_16 rfl ?_
    refine e_i2l dX11_answerOf_17 ?_
    refine e_gsA (gT_5 1 rfl rfl) dX11_answerOf_18 ?_
    refine e_iload_n dX11_answerOf_21 rfl ?_
    replace H := og H; obtain ⟨g4, H⟩ := H
    refine e_cAa (ixb_in g4) dX11_answerOf_22 ?_
    refine e_i2l dX11_answerOf_23 ?_
    replace H := ob H; obtain ⟨q5, c6, H⟩ := H
    refine s1 lmX11_267 lsX11_quotient msX11_quotient dX11_answerOf_24 (t_X11_quotient (d + 0) c6) rfl (Nat.le_of_ble_eq_true rfl) (Nat.le_refl _) ?_
    refine e_l2i dX11_answerOf_27 ?_
    refine e_bipush (v := (10 : Int32)) dX11_answerOf_28 (by decide) ?_
    refine e_irem dX11_answerOf_30 (by decide) ?_
    obtain rfl := Option.some.inj H
    exact z_iret rfl rfl dX11_answerOf_31 rfl rfl
  · replace H := of_ (nb c3) H
    refine e_iconst (v := (0 : Int32)) dX11_answerOf_14 (by decide) ?_
    obtain rfl := Option.some.inj H
    exact z_iret rfl rfl dX11_answerOf_15 rfl rfl
-- X11_areAnswers
def l_X11_areAnswers_15 (y0 : Int32)  : Nat → Int32 → Option (Bool ⊕ Unit)
  | 0, _ => none
  | n + 1, x1 => (if (6 : Int32) ≤ x1 then (some (Sum.inr ())) else (Option.bind (f_X11_answerOf y0 x1) (fun q9 => (if q9 ≤ (3 : Int32) then (l_X11_areAnswers_15 y0 n (x1 + (1 : Int32))) else (some (Sum.inl false))))))
set_option maxHeartbeats 4000000 in
set_option maxRecDepth 20000 in
theorem w_X11_areAnswers_15 {G : GE} (d : Nat) {y0 : Int32} {h : HS} {r : Option Value} {h' : HS}  : ∀ (n : Nat) {x1 : Int32} {q : (Bool ⊕ Unit)}, l_X11_areAnswers_15 y0 n x1 = some q → (∀ v, q = Sum.inl v → r = some (.int (b2i v)) ∧ h' = h) → (∀ e, q = Sum.inr e → En G (d + 2) miX11_areAnswers 38 [dum, dum] [] h r h') → En G (d + 2) miX11_areAnswers 15 [.int y0, .int x1] [] h r h' := by
  intro n
  induction n with
  | zero => intro x1 q H kR kE; exact nz H
  | succ n ih =>
    intro x1 q H kR kE
    unfold l_X11_areAnswers_15 at H
    refine e_iload_n dX11_areAnswers_15 rfl ?_
    refine e_bipush (v := (6 : Int32)) dX11_areAnswers_16 (by decide) ?_
    refine e_icmp_ge (tgt := 38) dX11_areAnswers_18 (by decide) (fun c8 => ?_) (fun c8 => ?_)
    · replace H := ot c8 H
      obtain rfl := Option.some.inj H
      exact e_wk (lk0 (lk0 lkn)) (kE _ rfl)
    · replace H := of_ c8 H
      refine e_iload_n dX11_areAnswers_21 rfl ?_
      refine e_iload_n dX11_areAnswers_22 rfl ?_
      replace H := ob H; obtain ⟨q9, c10, H⟩ := H
      refine s1 lmX11_395 lsX11_answerOf msX11_answerOf dX11_areAnswers_23 (t_X11_answerOf (d + 0) c10) rfl (Nat.le_of_ble_eq_true rfl) (Nat.le_refl _) ?_
      refine e_iconst (v := (3 : Int32)) dX11_areAnswers_26 (by decide) ?_
      refine e_icmp_le (tgt := 32) dX11_areAnswers_27 (by decide) (fun c11 => ?_) (fun c11 => ?_)
      · replace H := ot c11 H
        refine e_iinc dX11_areAnswers_32 rfl (ii_ (by decide : Int32.ofInt (1) = (1 : Int32))) (Nat.le_of_ble_eq_true rfl) rfl rfl ?_
        refine e_goto (tgt := 15) dX11_areAnswers_35 (by decide) ?_
        exact e_wk (lk1 (lk1 lkn)) (ih H kR kE)
      · replace H := of_ c11 H
        refine e_iconst (v := (0 : Int32)) dX11_areAnswers_30 (by decide) ?_
        obtain rfl := Option.some.inj H
        obtain ⟨eR, eH⟩ := kR _ rfl
        exact z_iret rfl rfl dX11_areAnswers_31 eR eH
def f_X11_areAnswers (p0 : Int32) : Option Bool := (Option.bind (f_X11_isIn p0 (0 : Int32) ((999999 : Int32))) (fun q1 => (if q1 = true then (Option.bind (l_X11_areAnswers_15 p0 1000 (0 : Int32)) (fun q12 => (Sum.elim (fun v => some v) (fun e14 => (some true)) q12))) else (some false))))
set_option maxHeartbeats 4000000 in
set_option maxRecDepth 20000 in
theorem t_X11_areAnswers {G : GE} (d : Nat) {p0 : Int32} {h : HS} {q : Bool} (H : f_X11_areAnswers p0 = some q) : CE G (d + 2) yX11_areAnswers miX11_areAnswers [.int p0] h (some (.int (b2i q))) (h) := by
  unfold f_X11_areAnswers at H
  refine ce_of rfl (by decide) (fun q => by first | rfl | cases q) (Nat.le_of_ble_eq_true rfl) rfl ?_
  refine e_iload_n dX11_areAnswers_0 rfl ?_
  refine e_iconst (v := (0 : Int32)) dX11_areAnswers_1 (by decide) ?_
  refine e_ldcw (v := ((999999 : Int32))) lkX11_394 dX11_areAnswers_2 ?_
  replace H := ob H; obtain ⟨q1, c2, H⟩ := H
  refine s1 lmX11_106 lsX11_isIn msX11_isIn dX11_areAnswers_5 (t_X11_isIn (d + 1) c2) rfl (Nat.le_of_ble_eq_true rfl) (Nat.le_refl _) ?_
  refine e_ifB_ne (tgt := 13) dX11_areAnswers_8 (by decide) (fun c3 => ?_) (fun c3 => ?_)
  · replace H := ot c3 H
    refine e_iconst (v := (0 : Int32)) dX11_areAnswers_13 (by decide) ?_
    refine e_istore_n dX11_areAnswers_14 (Nat.le_of_ble_eq_true rfl) rfl rfl ?_
    replace H := ob H; obtain ⟨q12, c13, H⟩ := H
    refine e_wk (lk1 (lk1 lkn)) (w_X11_areAnswers_15 d 1000 c13 (fun v15 E0 => ?_) (fun e14 E0 => ?_))
    · subst E0; replace H := oSl H; obtain rfl := Option.some.inj H
      exact ⟨rfl, rfl⟩
    · subst E0; replace H := oSr H
      refine e_iconst (v := (1 : Int32)) dX11_areAnswers_38 (by decide) ?_
      obtain rfl := Option.some.inj H
      exact z_iret rfl rfl dX11_areAnswers_39 rfl rfl
  · replace H := of_ (nb c3) H
    refine e_iconst (v := (0 : Int32)) dX11_areAnswers_11 (by decide) ?_
    obtain rfl := Option.some.inj H
    exact z_iret rfl rfl dX11_areAnswers_12 rfl rfl
-- X11_test
def f_X11_test (p1 : Int32) (p2 : Int32) (h : HS) : Option (Int32 × HS) := (Option.bind (f_X11_isIn p1 (1 : Int32) (20 : Int32)) (fun q1 => (if q1 = true then (Option.bind (f_X11_areAnswers p2) (fun q4 => (if q4 = true then (if (hI h 32 8) < (6 : Int32) then (if ixb (hI h 32 8) 6 = true then (if ixb (hI (sI h 37 (hI h 32 8).toNatClampNeg p1) 32 8) 6 = true then (bh (sI (sI (sI h 37 (hI h 32 8).toNatClampNeg p1) 38 (hI (sI h 37 (hI h 32 8).toNatClampNeg p1) 32 8).toNatClampNeg p2) 32 8 ((hI (sI (sI h 37 (hI h 32 8).toNatClampNeg p1) 38 (hI (sI h 37 (hI h 32 8).toNatClampNeg p1) 32 8).toNatClampNeg p2) 32 8) + (1 : Int32))) (fun h10 => (some (((hI h10 32 8) - (1 : Int32)), h10)))) else none) else none) else (some ((-4 : Int32), h))) else (some ((-2 : Int32), h))))) else (some ((-2 : Int32), h)))))
set_option maxHeartbeats 4000000 in
set_option maxRecDepth 20000 in
theorem p_X11_test {p1 : Int32} {p2 : Int32} {h : HS} {q : (Int32 × HS)} (H : f_X11_test p1 p2 h = some q) : Pr h q.2 := by
  unfold f_X11_test at H
  replace H := ob H; obtain ⟨q1, c2, H⟩ := H
  replace H := oi H; obtain ⟨c3, H⟩ | ⟨c3, H⟩ := H
  · replace H := ob H; obtain ⟨q4, c5, H⟩ := H
    replace H := oi H; obtain ⟨c6, H⟩ | ⟨c6, H⟩ := H
    · replace H := oi H; obtain ⟨c7, H⟩ | ⟨c7, H⟩ := H
      · replace H := og H; obtain ⟨g8, H⟩ := H
        replace H := og H; obtain ⟨g9, H⟩ := H
        replace H := obh H; obtain ⟨h10, e11, H⟩ := H
        obtain rfl := Option.some.inj H
        exact (kP e11 Pr.rf)
      · obtain rfl := Option.some.inj H
        exact Pr.rf
    · obtain rfl := Option.some.inj H
      exact Pr.rf
  · obtain rfl := Option.some.inj H
    exact Pr.rf
set_option maxHeartbeats 4000000 in
set_option maxRecDepth 20000 in
theorem t_X11_test {G : GE} (d : Nat) {p1 : Int32} {p2 : Int32} {h : HS} {q : (Int32 × HS)} (hY : LY TX h) (H : f_X11_test p1 p2 h = some q) : CE G (d + 3) yX11_test miX11_test [.ref 32, .int p1, .int p2] h (some (.int q.1)) (q.2) := by
  unfold f_X11_test at H
  refine ce_of rfl (by decide) (fun q => by first | rfl | cases q) (Nat.le_of_ble_eq_true rfl) rfl ?_
  refine e_iload_n dX11_test_0 rfl ?_
  refine e_iconst (v := (1 : Int32)) dX11_test_1 (by decide) ?_
  refine e_bipush (v := (20 : Int32)) dX11_test_2 (by decide) ?_
  replace H := ob H; obtain ⟨q1, c2, H⟩ := H
  refine s1 lmX11_106 lsX11_isIn msX11_isIn dX11_test_4 (t_X11_isIn (d + 2) c2) rfl (Nat.le_of_ble_eq_true rfl) (Nat.le_refl _) ?_
  refine e_ifB_eq (tgt := 17) dX11_test_7 (by decide) (fun c3 => ?_) (fun c3 => ?_)
  · replace H := of_ (nb c3) H
    refine e_bipush (v := (-2 : Int32)) dX11_test_17 (by decide) ?_
    obtain rfl := Option.some.inj H
    exact z_iret rfl rfl dX11_test_19 rfl rfl
  · replace H := ot c3 H
    refine e_iload_n dX11_test_10 rfl ?_
    replace H := ob H; obtain ⟨q4, c5, H⟩ := H
    refine s1 lmX11_349 lsX11_areAnswers msX11_areAnswers dX11_test_11 (t_X11_areAnswers (d + 0) c5) rfl (Nat.le_of_ble_eq_true rfl) (Nat.le_refl _) ?_
    refine e_ifB_ne (tgt := 20) dX11_test_14 (by decide) (fun c6 => ?_) (fun c6 => ?_)
    · replace H := ot c6 H
      refine g_aload_n dX11_test_20 rfl rfl ?_
      refine e_getI (hY.t 0 rfl) flX11_39_12 dX11_test_21 rfl ?_
      refine e_bipush (v := (6 : Int32)) dX11_test_24 (by decide) ?_
      refine e_icmp_lt (tgt := 32) dX11_test_26 (by decide) (fun c7 => ?_) (fun c7 => ?_)
      · replace H := ot c7 H
        refine g_aload_n dX11_test_32 rfl rfl ?_
        refine e_getR (hY.t 0 rfl) flX11_33_12 dX11_test_33 rfl (hY.r 4 rfl) ?_
        refine g_aload_n dX11_test_36 rfl rfl ?_
        refine e_getI (hY.t 0 rfl) flX11_39_12 dX11_test_37 rfl ?_
        refine e_iload_n dX11_test_40 rfl ?_
        replace H := og H; obtain ⟨g8, H⟩ := H
        refine e_iast (hY.t 5 rfl) (ixb_y (hY.n 5 rfl) g8) dX11_test_41 ?_
        refine g_aload_n dX11_test_42 rfl rfl ?_
        refine e_getR (hY.t 0 rfl) flX11_36_12 dX11_test_43 rfl (hY.r 5 rfl) ?_
        refine g_aload_n dX11_test_46 rfl rfl ?_
        refine e_getI (hY.t 0 rfl) flX11_39_12 dX11_test_47 rfl ?_
        refine e_iload_n dX11_test_50 rfl ?_
        replace H := og H; obtain ⟨g9, H⟩ := H
        refine e_iast (hY.t 6 rfl) (ixb_y (hY.n 6 rfl) g9) dX11_test_51 ?_
        refine g_aload_n dX11_test_52 rfl rfl ?_
        refine e_dup dX11_test_53 rfl ?_
        refine e_getI (hY.t 0 rfl) flX11_39_12 dX11_test_54 rfl ?_
        refine e_iconst (v := (1 : Int32)) dX11_test_57 (by decide) ?_
        refine e_iadd dX11_test_58 ?_
        refine e_putI (hY.t 0 rfl) fpX11_39_12 rfl dX11_test_59 ?_
        replace H := obh H; obtain ⟨h10, e11, H⟩ := H
        refine e_hq e11 ?_
        have hY12 := kY e11 hY
        refine g_aload_n dX11_test_62 rfl rfl ?_
        refine e_getI (hY12.t 0 rfl) flX11_39_12 dX11_test_63 rfl ?_
        refine e_iconst (v := (1 : Int32)) dX11_test_66 (by decide) ?_
        refine e_isub dX11_test_67 ?_
        obtain rfl := Option.some.inj H
        exact z_iret rfl rfl dX11_test_68 rfl rfl
      · replace H := of_ c7 H
        refine e_bipush (v := (-4 : Int32)) dX11_test_29 (by decide) ?_
        obtain rfl := Option.some.inj H
        exact z_iret rfl rfl dX11_test_31 rfl rfl
    · replace H := of_ (nb c6) H
      refine e_bipush (v := (-2 : Int32)) dX11_test_17 (by decide) ?_
      obtain rfl := Option.some.inj H
      exact z_iret rfl rfl dX11_test_19 rfl rfl
