-- X11_hoursOfLooks
def l_X11_hoursOfLooks_4 (y1 : Int32) (h : HS)  : Nat → Int32 → Int32 → Option Int32
  | 0, _, _ => none
  | n + 1, x2, x3 => (if hT h 33 = 1 then (Option.bind (f_Jx4a65c_size_8abf5 33 h) (fun q10 => (if q10 ≤ x3 then (some x2) else (if (8 : Int32) ≤ x3 then (some x2) else (Option.bind (f_X11_isOf y1 x3) (fun q15 => (if q15 = true then (if ixb x3 8 = true then (l_X11_hoursOfLooks_4 y1 h n (x2 + (hI h 54 x3.toNatClampNeg)) (x3 + (1 : Int32))) else none) else (l_X11_hoursOfLooks_4 y1 h n (x2 + (0 : Int32)) (x3 + (1 : Int32)))))))))) else none)
set_option maxHeartbeats 4000000 in
set_option maxRecDepth 20000 in
theorem w_X11_hoursOfLooks_4 {G : GE} (d : Nat) {y1 : Int32} {h : HS} {r : Option Value} {h' : HS} (hYTX : LY TX h) : ∀ (n : Nat) {x2 : Int32} {x3 : Int32} {q : Int32}, l_X11_hoursOfLooks_4 y1 h n x2 x3 = some q → En G (d + 1) miX11_hoursOfLooks 51 [dum, dum, .int q, dum] [] h r h' → En G (d + 1) miX11_hoursOfLooks 4 [.ref 32, .int y1, .int x2, .int x3] [] h r h' := by
  intro n
  induction n with
  | zero => intro x2 x3 q H kE; exact nz H
  | succ n ih =>
    intro x2 x3 q H kE
    unfold l_X11_hoursOfLooks_4 at H
    refine e_iload_n dX11_hoursOfLooks_4 rfl ?_
    refine g_aload_n dX11_hoursOfLooks_5 rfl rfl ?_
    refine e_getR (hYTX.t 0 rfl) flX11_12_12 dX11_hoursOfLooks_6 rfl (hYTX.r 0 rfl) ?_
    replace H := og H; obtain ⟨g12, H⟩ := H
    replace H := ob H; obtain ⟨q10, c11, H⟩ := H
    refine v1 (hYTX.t 1 rfl) (by decide) rfl rfl lmX11_114 liJx4a65c_size_8abf5 lvJx4a65c_Jx4a65c_size_8abf5 msJx4a65c_size_8abf5 dX11_hoursOfLooks_9 (t_Jx4a65c_size_8abf5 (d + 0) c11) rfl (Nat.le_of_ble_eq_true rfl) (Nat.le_refl _) ?_
    refine e_icmp_ge (tgt := 51) dX11_hoursOfLooks_12 (by decide) (fun c13 => ?_) (fun c13 => ?_)
    · replace H := ot c13 H
      obtain rfl := Option.some.inj H
      exact e_wk (lk0 (lk0 (lk1 (lk0 lkn)))) kE
    · replace H := of_ c13 H
      refine e_iload_n dX11_hoursOfLooks_15 rfl ?_
      refine g_aload_n dX11_hoursOfLooks_16 rfl rfl ?_
      refine e_getR (hYTX.t 0 rfl) flX11_86_12 dX11_hoursOfLooks_17 rfl (hYTX.r 15 rfl) ?_
      refine e_alen (hYTX.t 22 rfl) (by decide) dX11_hoursOfLooks_20 ?_
      refine e_ci (y := (8 : Int32)) (by rw [(hYTX.n 22 rfl)]; rfl) ?_
      refine e_icmp_ge (tgt := 51) dX11_hoursOfLooks_21 (by decide) (fun c14 => ?_) (fun c14 => ?_)
      · replace H := ot c14 H
        obtain rfl := Option.some.inj H
        exact e_wk (lk0 (lk0 (lk1 (lk0 lkn)))) kE
      · replace H := of_ c14 H
        refine e_iload_n dX11_hoursOfLooks_24 rfl ?_
        refine e_iload_n dX11_hoursOfLooks_25 rfl ?_
        refine e_iload_n dX11_hoursOfLooks_26 rfl ?_
        replace H := ob H; obtain ⟨q15, c16, H⟩ := H
        refine s1 lmX11_401 lsX11_isOf msX11_isOf dX11_hoursOfLooks_27 (t_X11_isOf (d + 0) c16) rfl (Nat.le_of_ble_eq_true rfl) (Nat.le_refl _) ?_
        refine e_ifB_eq (tgt := 42) dX11_hoursOfLooks_30 (by decide) (fun c17 => ?_) (fun c17 => ?_)
        · replace H := of_ (nb c17) H
          refine e_iconst (v := (0 : Int32)) dX11_hoursOfLooks_42 (by decide) ?_
          refine e_iadd dX11_hoursOfLooks_43 ?_
          refine e_istore_n dX11_hoursOfLooks_44 (Nat.le_of_ble_eq_true rfl) rfl rfl ?_
          refine e_iinc dX11_hoursOfLooks_45 rfl (ii_ (by decide : Int32.ofInt (1) = (1 : Int32))) (Nat.le_of_ble_eq_true rfl) rfl rfl ?_
          refine e_goto (tgt := 4) dX11_hoursOfLooks_48 (by decide) ?_
          exact e_wk (lk1 (lk1 (lk1 (lk1 lkn)))) (ih H kE)
        · replace H := ot c17 H
          refine g_aload_n dX11_hoursOfLooks_33 rfl rfl ?_
          refine e_getR (hYTX.t 0 rfl) flX11_86_12 dX11_hoursOfLooks_34 rfl (hYTX.r 15 rfl) ?_
          refine e_iload_n dX11_hoursOfLooks_37 rfl ?_
          replace H := og H; obtain ⟨g18, H⟩ := H
          refine e_iald (hYTX.t 22 rfl) (ixb_y (hYTX.n 22 rfl) g18) dX11_hoursOfLooks_38 ?_
          refine e_goto (tgt := 43) dX11_hoursOfLooks_39 (by decide) ?_
          refine e_iadd dX11_hoursOfLooks_43 ?_
          refine e_istore_n dX11_hoursOfLooks_44 (Nat.le_of_ble_eq_true rfl) rfl rfl ?_
          refine e_iinc dX11_hoursOfLooks_45 rfl (ii_ (by decide : Int32.ofInt (1) = (1 : Int32))) (Nat.le_of_ble_eq_true rfl) rfl rfl ?_
          refine e_goto (tgt := 4) dX11_hoursOfLooks_48 (by decide) ?_
          exact e_wk (lk1 (lk1 (lk1 (lk1 lkn)))) (ih H kE)
def f_X11_hoursOfLooks (p1 : Int32) (h : HS) : Option Int32 := (Option.bind (l_X11_hoursOfLooks_4 p1 h 1000 (0 : Int32) (0 : Int32)) (fun q19 => (some q19)))
set_option maxHeartbeats 4000000 in
set_option maxRecDepth 20000 in
theorem t_X11_hoursOfLooks {G : GE} (d : Nat) {p1 : Int32} {h : HS} {q : Int32} (hY : LY TX h) (H : f_X11_hoursOfLooks p1 h = some q) : CE G (d + 1) yX11_hoursOfLooks miX11_hoursOfLooks [.ref 32, .int p1] h (some (.int q)) (h) := by
  unfold f_X11_hoursOfLooks at H
  refine ce_of rfl (by decide) (fun q => by first | rfl | cases q) (Nat.le_of_ble_eq_true rfl) rfl ?_
  refine e_iconst (v := (0 : Int32)) dX11_hoursOfLooks_0 (by decide) ?_
  refine e_istore_n dX11_hoursOfLooks_1 (Nat.le_of_ble_eq_true rfl) rfl rfl ?_
  refine e_iconst (v := (0 : Int32)) dX11_hoursOfLooks_2 (by decide) ?_
  refine e_istore_n dX11_hoursOfLooks_3 (Nat.le_of_ble_eq_true rfl) rfl rfl ?_
  replace H := ob H; obtain ⟨q19, c20, H⟩ := H
  refine e_wk (lk1 (lk1 (lk1 (lk1 lkn)))) (w_X11_hoursOfLooks_4 d hY 1000 c20 ?_)
  refine e_iload_n dX11_hoursOfLooks_51 rfl ?_
  obtain rfl := Option.some.inj H
  exact z_iret rfl rfl dX11_hoursOfLooks_52 rfl rfl
-- X11_gaffsOf
def l_X11_gaffsOf_4 (y1 : Int32) (h : HS)  : Nat → Int32 → Int32 → Option Int32
  | 0, _, _ => none
  | n + 1, x2, x3 => (if hT h 33 = 1 then (Option.bind (f_Jx4a65c_size_8abf5 33 h) (fun q15 => (if q15 ≤ x3 then (some x2) else (Option.bind (f_X11_isOf y1 x3) (fun q19 => (if q19 = true then (Option.bind (f_Jx4a65c_get_915e3 33 x3 h) (fun q22 => (om q22 none (fun b25 => (if isSt (hT h b25) = true then (Option.bind (f_V_gaffs b25 h) (fun q27 => (l_X11_gaffsOf_4 y1 h n (x2 + q27) (x3 + (1 : Int32))))) else none))))) else (l_X11_gaffsOf_4 y1 h n (x2 + (0 : Int32)) (x3 + (1 : Int32))))))))) else none)
set_option maxHeartbeats 4000000 in
set_option maxRecDepth 20000 in
theorem w_X11_gaffsOf_4 {G : GE} (d : Nat) {y1 : Int32} {h : HS} {r : Option Value} {h' : HS} (hYTX : LY TX h) : ∀ (n : Nat) {x2 : Int32} {x3 : Int32} {q : Int32}, l_X11_gaffsOf_4 y1 h n x2 x3 = some q → En G (d + 3) miX11_gaffsOf 50 [dum, dum, .int q, dum] [] h r h' → En G (d + 3) miX11_gaffsOf 4 [.ref 32, .int y1, .int x2, .int x3] [] h r h' := by
  intro n
  induction n with
  | zero => intro x2 x3 q H kE; exact nz H
  | succ n ih =>
    intro x2 x3 q H kE
    unfold l_X11_gaffsOf_4 at H
    refine e_iload_n dX11_gaffsOf_4 rfl ?_
    refine g_aload_n dX11_gaffsOf_5 rfl rfl ?_
    refine e_getR (hYTX.t 0 rfl) flX11_12_12 dX11_gaffsOf_6 rfl (hYTX.r 0 rfl) ?_
    replace H := og H; obtain ⟨g17, H⟩ := H
    replace H := ob H; obtain ⟨q15, c16, H⟩ := H
    refine v1 (hYTX.t 1 rfl) (by decide) rfl rfl lmX11_114 liJx4a65c_size_8abf5 lvJx4a65c_Jx4a65c_size_8abf5 msJx4a65c_size_8abf5 dX11_gaffsOf_9 (t_Jx4a65c_size_8abf5 (d + 2) c16) rfl (Nat.le_of_ble_eq_true rfl) (Nat.le_refl _) ?_
    refine e_icmp_ge (tgt := 50) dX11_gaffsOf_12 (by decide) (fun c18 => ?_) (fun c18 => ?_)
    · replace H := ot c18 H
      obtain rfl := Option.some.inj H
      exact e_wk (lk0 (lk0 (lk1 (lk0 lkn)))) kE
    · replace H := of_ c18 H
      refine e_iload_n dX11_gaffsOf_15 rfl ?_
      refine e_iload_n dX11_gaffsOf_16 rfl ?_
      refine e_iload_n dX11_gaffsOf_17 rfl ?_
      replace H := ob H; obtain ⟨q19, c20, H⟩ := H
      refine s1 lmX11_401 lsX11_isOf msX11_isOf dX11_gaffsOf_18 (t_X11_isOf (d + 2) c20) rfl (Nat.le_of_ble_eq_true rfl) (Nat.le_refl _) ?_
      refine e_ifB_eq (tgt := 41) dX11_gaffsOf_21 (by decide) (fun c21 => ?_) (fun c21 => ?_)
      · replace H := of_ (nb c21) H
        refine e_iconst (v := (0 : Int32)) dX11_gaffsOf_41 (by decide) ?_
        refine e_iadd dX11_gaffsOf_42 ?_
        refine e_istore_n dX11_gaffsOf_43 (Nat.le_of_ble_eq_true rfl) rfl rfl ?_
        refine e_iinc dX11_gaffsOf_44 rfl (ii_ (by decide : Int32.ofInt (1) = (1 : Int32))) (Nat.le_of_ble_eq_true rfl) rfl rfl ?_
        refine e_goto (tgt := 4) dX11_gaffsOf_47 (by decide) ?_
        exact e_wk (lk1 (lk1 (lk1 (lk1 lkn)))) (ih H kE)
      · replace H := ot c21 H
        refine g_aload_n dX11_gaffsOf_24 rfl rfl ?_
        refine e_getR (hYTX.t 0 rfl) flX11_12_12 dX11_gaffsOf_25 rfl (hYTX.r 0 rfl) ?_
        refine e_iload_n dX11_gaffsOf_28 rfl ?_
        replace H := ob H; obtain ⟨q22, c23, H⟩ := H
        replace H := oom H; obtain ⟨e24, H⟩ | ⟨b25, e24, H⟩ := H
        · refine v1 (hYTX.t 1 rfl) (by decide) rfl rfl lmX11_276 liJx4a65c_get_915e3 lvJx4a65c_Jx4a65c_get_915e3 msJx4a65c_get_915e3 dX11_gaffsOf_29 (ceN e24 (t_Jx4a65c_get_915e3 (d + 0) c23)) rfl (Nat.le_of_ble_eq_true rfl) (Nat.le_refl _) ?_
          exact nz H
        · refine v1 (hYTX.t 1 rfl) (by decide) rfl rfl lmX11_276 liJx4a65c_get_915e3 lvJx4a65c_Jx4a65c_get_915e3 msJx4a65c_get_915e3 dX11_gaffsOf_29 (ceS e24 (t_Jx4a65c_get_915e3 (d + 0) c23)) rfl (Nat.le_of_ble_eq_true rfl) (Nat.le_refl _) ?_
          replace H := og H; obtain ⟨g26, H⟩ := H
          refine e_castSt g26 lcX11_131 dX11_gaffsOf_32 ?_
          replace H := ob H; obtain ⟨q27, c28, H⟩ := H
          refine vrgaffs_X11 c28 (d + 1) dX11_gaffsOf_35 (Nat.le_of_ble_eq_true rfl) (Nat.le_refl _) ?_
          refine e_goto (tgt := 42) dX11_gaffsOf_38 (by decide) ?_
          refine e_iadd dX11_gaffsOf_42 ?_
          refine e_istore_n dX11_gaffsOf_43 (Nat.le_of_ble_eq_true rfl) rfl rfl ?_
          refine e_iinc dX11_gaffsOf_44 rfl (ii_ (by decide : Int32.ofInt (1) = (1 : Int32))) (Nat.le_of_ble_eq_true rfl) rfl rfl ?_
          refine e_goto (tgt := 4) dX11_gaffsOf_47 (by decide) ?_
          exact e_wk (lk1 (lk1 (lk1 (lk1 lkn)))) (ih H kE)
def f_X11_gaffsOf (p1 : Int32) (h : HS) : Option Int32 := (Option.bind (l_X11_gaffsOf_4 p1 h 1000 (0 : Int32) (0 : Int32)) (fun q29 => (some q29)))
set_option maxHeartbeats 4000000 in
set_option maxRecDepth 20000 in
theorem t_X11_gaffsOf {G : GE} (d : Nat) {p1 : Int32} {h : HS} {q : Int32} (hY : LY TX h) (H : f_X11_gaffsOf p1 h = some q) : CE G (d + 3) yX11_gaffsOf miX11_gaffsOf [.ref 32, .int p1] h (some (.int q)) (h) := by
  unfold f_X11_gaffsOf at H
  refine ce_of rfl (by decide) (fun q => by first | rfl | cases q) (Nat.le_of_ble_eq_true rfl) rfl ?_
  refine e_iconst (v := (0 : Int32)) dX11_gaffsOf_0 (by decide) ?_
  refine e_istore_n dX11_gaffsOf_1 (Nat.le_of_ble_eq_true rfl) rfl rfl ?_
  refine e_iconst (v := (0 : Int32)) dX11_gaffsOf_2 (by decide) ?_
  refine e_istore_n dX11_gaffsOf_3 (Nat.le_of_ble_eq_true rfl) rfl rfl ?_
  replace H := ob H; obtain ⟨q29, c30, H⟩ := H
  refine e_wk (lk1 (lk1 (lk1 (lk1 lkn)))) (w_X11_gaffsOf_4 d hY 1000 c30 ?_)
  refine e_iload_n dX11_gaffsOf_50 rfl ?_
  obtain rfl := Option.some.inj H
  exact z_iret rfl rfl dX11_gaffsOf_51 rfl rfl
-- X11_year
def l_X11_year_25 (y1 : Int32) (y2 : Int32)  : Nat → Int32 → HS → Option HS
  | 0, _, _ => none
  | n + 1, x3, h => (if hT h 33 = 1 then (Option.bind (f_Jx4a65c_size_8abf5 33 h) (fun q24 => (if q24 ≤ x3 then (some h) else (if (8 : Int32) ≤ x3 then (some h) else (Option.bind (f_Jx4a65c_get_915e3 33 x3 h) (fun q29 => (om q29 none (fun b32 => (if isSt (hT h b32) = true then (Option.bind (f_X11_lookHours b32 h) (fun q34 => (if ixb x3 8 = true then (l_X11_year_25 y1 y2 n (x3 + (1 : Int32)) (sI q34.2 54 x3.toNatClampNeg q34.1)) else none))) else none))))))))) else none)
set_option maxHeartbeats 4000000 in
set_option maxRecDepth 20000 in
theorem p_X11_year_25 {y1 : Int32} {y2 : Int32} : ∀ (n : Nat) {x3 : Int32} {h : HS} {q : HS}, l_X11_year_25 y1 y2 n x3 h = some q → Pr h q := by
  intro n
  induction n with
  | zero => intro x3 h q H; exact nz H
  | succ n ih =>
    intro x3 h q H
    unfold l_X11_year_25 at H
    replace H := og H; obtain ⟨g26, H⟩ := H
    replace H := ob H; obtain ⟨q24, c25, H⟩ := H
    replace H := oi H; obtain ⟨c27, H⟩ | ⟨c27, H⟩ := H
    · obtain rfl := Option.some.inj H
      exact Pr.rf
    · replace H := oi H; obtain ⟨c28, H⟩ | ⟨c28, H⟩ := H
      · obtain rfl := Option.some.inj H
        exact Pr.rf
      · replace H := ob H; obtain ⟨q29, c30, H⟩ := H
        replace H := oom H; obtain ⟨e31, H⟩ | ⟨b32, e31, H⟩ := H
        · exact nz H
        · replace H := og H; obtain ⟨g33, H⟩ := H
          replace H := ob H; obtain ⟨q34, c35, H⟩ := H
          have e36 := p_X11_lookHours c35
          replace H := og H; obtain ⟨g40, H⟩ := H
          exact (e36.sI).tr (ih H)
set_option maxHeartbeats 4000000 in
set_option maxRecDepth 20000 in
theorem w_X11_year_25 {G : GE} (d : Nat) {y1 : Int32} {y2 : Int32} {r : Option Value} {h' : HS}  : ∀ (n : Nat) {x3 : Int32} {h : HS} {q : HS}, LY TX h → l_X11_year_25 y1 y2 n x3 h = some q → En G (d + 5) miX11_year 72 [.ref 32, .int y1, .int y2, dum, dum, dum, dum, dum, dum, dum, dum] [] q r h' → En G (d + 5) miX11_year 25 [.ref 32, .int y1, .int y2, .int x3, dum, dum, dum, dum, dum, dum, dum] [] h r h' := by
  intro n
  induction n with
  | zero => intro x3 h q hYTX H kE; exact nz H
  | succ n ih =>
    intro x3 h q hYTX H kE
    unfold l_X11_year_25 at H
    refine e_iload_n dX11_year_25 rfl ?_
    refine g_aload_n dX11_year_26 rfl rfl ?_
    refine e_getR (hYTX.t 0 rfl) flX11_12_12 dX11_year_27 rfl (hYTX.r 0 rfl) ?_
    replace H := og H; obtain ⟨g26, H⟩ := H
    replace H := ob H; obtain ⟨q24, c25, H⟩ := H
    refine v1 (hYTX.t 1 rfl) (by decide) rfl rfl lmX11_114 liJx4a65c_size_8abf5 lvJx4a65c_Jx4a65c_size_8abf5 msJx4a65c_size_8abf5 dX11_year_30 (t_Jx4a65c_size_8abf5 (d + 4) c25) rfl (Nat.le_of_ble_eq_true rfl) (Nat.le_refl _) ?_
    refine e_icmp_ge (tgt := 72) dX11_year_33 (by decide) (fun c27 => ?_) (fun c27 => ?_)
    · replace H := ot c27 H
      obtain rfl := Option.some.inj H
      exact e_wk (lk1 (lk1 (lk1 (lk0 (lk1 (lk1 (lk1 (lk1 (lk1 (lk1 (lk1 lkn))))))))))) kE
    · replace H := of_ c27 H
      refine e_iload_n dX11_year_36 rfl ?_
      refine g_aload_n dX11_year_37 rfl rfl ?_
      refine e_getR (hYTX.t 0 rfl) flX11_86_12 dX11_year_38 rfl (hYTX.r 15 rfl) ?_
      refine e_alen (hYTX.t 22 rfl) (by decide) dX11_year_41 ?_
      refine e_ci (y := (8 : Int32)) (by rw [(hYTX.n 22 rfl)]; rfl) ?_
      refine e_icmp_ge (tgt := 72) dX11_year_42 (by decide) (fun c28 => ?_) (fun c28 => ?_)
      · replace H := ot c28 H
        obtain rfl := Option.some.inj H
        exact e_wk (lk1 (lk1 (lk1 (lk0 (lk1 (lk1 (lk1 (lk1 (lk1 (lk1 (lk1 lkn))))))))))) kE
      · replace H := of_ c28 H
        refine g_aload_n dX11_year_45 rfl rfl ?_
        refine e_getR (hYTX.t 0 rfl) flX11_86_12 dX11_year_46 rfl (hYTX.r 15 rfl) ?_
        refine e_iload_n dX11_year_49 rfl ?_
        refine g_aload_n dX11_year_50 rfl rfl ?_
        refine g_aload_n dX11_year_51 rfl rfl ?_
        refine e_getR (hYTX.t 0 rfl) flX11_12_12 dX11_year_52 rfl (hYTX.r 0 rfl) ?_
        refine e_iload_n dX11_year_55 rfl ?_
        replace H := ob H; obtain ⟨q29, c30, H⟩ := H
        replace H := oom H; obtain ⟨e31, H⟩ | ⟨b32, e31, H⟩ := H
        · refine v1 (hYTX.t 1 rfl) (by decide) rfl rfl lmX11_276 liJx4a65c_get_915e3 lvJx4a65c_Jx4a65c_get_915e3 msJx4a65c_get_915e3 dX11_year_56 (ceN e31 (t_Jx4a65c_get_915e3 (d + 2) c30)) rfl (Nat.le_of_ble_eq_true rfl) (Nat.le_refl _) ?_
          exact nz H
        · refine v1 (hYTX.t 1 rfl) (by decide) rfl rfl lmX11_276 liJx4a65c_get_915e3 lvJx4a65c_Jx4a65c_get_915e3 msJx4a65c_get_915e3 dX11_year_56 (ceS e31 (t_Jx4a65c_get_915e3 (d + 2) c30)) rfl (Nat.le_of_ble_eq_true rfl) (Nat.le_refl _) ?_
          replace H := og H; obtain ⟨g33, H⟩ := H
          refine e_castSt g33 lcX11_131 dX11_year_59 ?_
          replace H := ob H; obtain ⟨q34, c35, H⟩ := H
          refine v1 (hYTX.t 0 rfl) (by decide) rfl rfl lmX11_166 liX11_lookHours lvX11_X11_lookHours msX11_lookHours dX11_year_62 (t_X11_lookHours (d + 0) hYTX c35) rfl (Nat.le_of_ble_eq_true rfl) (Nat.le_refl _) ?_
          have e36 := p_X11_lookHours c35
          have hY37 := hYTX.pr okX e36
          have f38 := e36.k g26 (by decide)
          have f39 := e36.b g33 rfl
          replace H := og H; obtain ⟨g40, H⟩ := H
          refine e_iast (hY37.t 22 rfl) (ixb_y (hY37.n 22 rfl) g40) dX11_year_65 ?_
          refine e_iinc dX11_year_66 rfl (ii_ (by decide : Int32.ofInt (1) = (1 : Int32))) (Nat.le_of_ble_eq_true rfl) rfl rfl ?_
          refine e_goto (tgt := 25) dX11_year_69 (by decide) ?_
          exact e_wk (lk1 (lk1 (lk1 (lk1 (lk1 (lk1 (lk1 (lk1 (lk1 (lk1 (lk1 lkn))))))))))) (ih (hY37.sI) H kE)
def l_X11_year_89 (y1 : Int32) (y2 : Int32) (y3 : Int32) (h : HS)  : Nat → Int32 → Int32 → Int32 → Int32 → Option (Int32 × Int32 × Int32)
  | 0, _, _, _, _ => none
  | n + 1, x4, x5, x6, x7 => (if y3 < x7 then (some (x4, x5, x6)) else (Option.bind (f_X11_hoursOfLooks x7 h) (fun q65 => (Option.bind (f_X11_gaffsOf x7 h) (fun q67 => (if x5 < q67 then (if y1 < q65 then (l_X11_year_89 y1 y2 y3 h n x4 x5 x6 (x7 + (1 : Int32))) else (l_X11_year_89 y1 y2 y3 h n x7 q67 q65 (x7 + (1 : Int32)))) else (if q67 = x5 then (Option.bind (if x6 ≤ q65 then (some (0 : Int32)) else (some (1 : Int32))) (fun q76 => (if y1 < q65 then (l_X11_year_89 y1 y2 y3 h n x4 x5 x6 (x7 + (1 : Int32))) else (if q76 = 0 then (l_X11_year_89 y1 y2 y3 h n x4 x5 x6 (x7 + (1 : Int32))) else (l_X11_year_89 y1 y2 y3 h n x7 q67 q65 (x7 + (1 : Int32))))))) else (if y1 < q65 then (l_X11_year_89 y1 y2 y3 h n x4 x5 x6 (x7 + (1 : Int32))) else (l_X11_year_89 y1 y2 y3 h n x4 x5 x6 (x7 + (1 : Int32)))))))))))
set_option maxHeartbeats 4000000 in
set_option maxRecDepth 20000 in
theorem w_X11_year_89 {G : GE} (d : Nat) {y1 : Int32} {y2 : Int32} {y3 : Int32} {h : HS} {r : Option Value} {h' : HS} (hYTX : LY TX h) : ∀ (n : Nat) {x4 : Int32} {x5 : Int32} {x6 : Int32} {x7 : Int32} {q : (Int32 × Int32 × Int32)}, l_X11_year_89 y1 y2 y3 h n x4 x5 x6 x7 = some q → En G (d + 5) miX11_year 168 [dum, dum, .int y2, dum, .int q.1, .int q.2.1, .int q.2.2, dum, dum, dum, dum] [] h r h' → En G (d + 5) miX11_year 89 [.ref 32, .int y1, .int y2, .int y3, .int x4, .int x5, .int x6, .int x7, dum, dum, dum] [] h r h' := by
  intro n
  induction n with
  | zero => intro x4 x5 x6 x7 q H kE; exact nz H
  | succ n ih =>
    intro x4 x5 x6 x7 q H kE
    unfold l_X11_year_89 at H
    refine e_iload dX11_year_89 rfl ?_
    refine e_iload_n dX11_year_91 rfl ?_
    refine e_icmp_gt (tgt := 168) dX11_year_92 (by decide) (fun c64 => ?_) (fun c64 => ?_)
    · replace H := ot c64 H
      obtain rfl := Option.some.inj H
      exact e_wk (lk0 (lk0 (lk1 (lk0 (lk1 (lk1 (lk1 (lk0 (lk1 (lk1 (lk1 lkn))))))))))) kE
    · replace H := of_ c64 H
      refine g_aload_n dX11_year_95 rfl rfl ?_
      refine e_iload dX11_year_96 rfl ?_
      replace H := ob H; obtain ⟨q65, c66, H⟩ := H
      refine v1 (hYTX.t 0 rfl) (by decide) rfl rfl lmX11_361 liX11_hoursOfLooks lvX11_X11_hoursOfLooks msX11_hoursOfLooks dX11_year_98 (t_X11_hoursOfLooks (d + 3) hYTX c66) rfl (Nat.le_of_ble_eq_true rfl) (Nat.le_refl _) ?_
      refine e_istore dX11_year_101 (Nat.le_of_ble_eq_true rfl) rfl rfl ?_
      refine g_aload_n dX11_year_103 rfl rfl ?_
      refine e_iload dX11_year_104 rfl ?_
      replace H := ob H; obtain ⟨q67, c68, H⟩ := H
      refine v1 (hYTX.t 0 rfl) (by decide) rfl rfl lmX11_364 liX11_gaffsOf lvX11_X11_gaffsOf msX11_gaffsOf dX11_year_106 (t_X11_gaffsOf (d + 1) hYTX c68) rfl (Nat.le_of_ble_eq_true rfl) (Nat.le_refl _) ?_
      refine e_istore dX11_year_109 (Nat.le_of_ble_eq_true rfl) rfl rfl ?_
      refine e_iload dX11_year_111 rfl ?_
      refine e_iload dX11_year_113 rfl ?_
      refine e_icmp_gt (tgt := 132) dX11_year_115 (by decide) (fun c69 => ?_) (fun c69 => ?_)
      · replace H := ot c69 H
        refine e_iconst (v := (1 : Int32)) dX11_year_132 (by decide) ?_
        refine e_goto (tgt := 137) dX11_year_133 (by decide) ?_
        refine e_istore dX11_year_137 (Nat.le_of_ble_eq_true rfl) rfl rfl ?_
        refine e_iload dX11_year_139 rfl ?_
        refine e_iload_n dX11_year_141 rfl ?_
        refine e_icmp_gt (tgt := 162) dX11_year_142 (by decide) (fun c70 => ?_) (fun c70 => ?_)
        · replace H := ot c70 H
          refine e_iinc dX11_year_162 rfl (ii_ (by decide : Int32.ofInt (1) = (1 : Int32))) (Nat.le_of_ble_eq_true rfl) rfl rfl ?_
          refine e_goto (tgt := 89) dX11_year_165 (by decide) ?_
          exact e_wk (lk1 (lk1 (lk1 (lk1 (lk1 (lk1 (lk1 (lk1 (lk0 (lk0 (lk0 lkn))))))))))) (ih H kE)
        · replace H := of_ c70 H
          refine e_iload dX11_year_145 rfl ?_
          refine e_if_eq (tgt := 162) dX11_year_147 (by decide) (fun c71 => absurd c71 (by decide)) (fun c71 => ?_)
          refine e_iload dX11_year_150 rfl ?_
          refine e_istore dX11_year_152 (Nat.le_of_ble_eq_true rfl) rfl rfl ?_
          refine e_iload dX11_year_154 rfl ?_
          refine e_istore dX11_year_156 (Nat.le_of_ble_eq_true rfl) rfl rfl ?_
          refine e_iload dX11_year_158 rfl ?_
          refine e_istore dX11_year_160 (Nat.le_of_ble_eq_true rfl) rfl rfl ?_
          refine e_iinc dX11_year_162 rfl (ii_ (by decide : Int32.ofInt (1) = (1 : Int32))) (Nat.le_of_ble_eq_true rfl) rfl rfl ?_
          refine e_goto (tgt := 89) dX11_year_165 (by decide) ?_
          exact e_wk (lk1 (lk1 (lk1 (lk1 (lk1 (lk1 (lk1 (lk1 (lk0 (lk0 (lk0 lkn))))))))))) (ih H kE)
      · replace H := of_ c69 H
        refine e_iload dX11_year_118 rfl ?_
        refine e_iload dX11_year_120 rfl ?_
        refine e_icmp_ne (tgt := 136) dX11_year_122 (by decide) (fun c72 => ?_) (fun c72 => ?_)
        · replace H := of_ c72 H
          refine e_iconst (v := (0 : Int32)) dX11_year_136 (by decide) ?_
          refine e_istore dX11_year_137 (Nat.le_of_ble_eq_true rfl) rfl rfl ?_
          refine e_iload dX11_year_139 rfl ?_
          refine e_iload_n dX11_year_141 rfl ?_
          refine e_icmp_gt (tgt := 162) dX11_year_142 (by decide) (fun c73 => ?_) (fun c73 => ?_)
          · replace H := ot c73 H
            refine e_iinc dX11_year_162 rfl (ii_ (by decide : Int32.ofInt (1) = (1 : Int32))) (Nat.le_of_ble_eq_true rfl) rfl rfl ?_
            refine e_goto (tgt := 89) dX11_year_165 (by decide) ?_
            exact e_wk (lk1 (lk1 (lk1 (lk1 (lk1 (lk1 (lk1 (lk1 (lk0 (lk0 (lk0 lkn))))))))))) (ih H kE)
          · replace H := of_ c73 H
            refine e_iload dX11_year_145 rfl ?_
            refine e_if_eq (tgt := 162) dX11_year_147 (by decide) (fun c74 => ?_) (fun c74 => absurd c74 (by decide))
            refine e_iinc dX11_year_162 rfl (ii_ (by decide : Int32.ofInt (1) = (1 : Int32))) (Nat.le_of_ble_eq_true rfl) rfl rfl ?_
            refine e_goto (tgt := 89) dX11_year_165 (by decide) ?_
            exact e_wk (lk1 (lk1 (lk1 (lk1 (lk1 (lk1 (lk1 (lk1 (lk0 (lk0 (lk0 lkn))))))))))) (ih H kE)
        · replace H := ot c72 H
          refine e_iload dX11_year_125 rfl ?_
          refine e_iload dX11_year_127 rfl ?_
          replace H := ob H; obtain ⟨q76, c78, H⟩ := H
          have k77 : En G (d + 5) miX11_year 137 [.ref 32, .int y1, .int y2, .int y3, .int x4, .int x5, .int x6, .int x7, .int q65, .int q67, dum] [.int q76] h r h' := by
            refine e_istore dX11_year_137 (Nat.le_of_ble_eq_true rfl) rfl rfl ?_
            refine e_iload dX11_year_139 rfl ?_
            refine e_iload_n dX11_year_141 rfl ?_
            refine e_icmp_gt (tgt := 162) dX11_year_142 (by decide) (fun c79 => ?_) (fun c79 => ?_)
            · replace H := ot c79 H
              refine e_iinc dX11_year_162 rfl (ii_ (by decide : Int32.ofInt (1) = (1 : Int32))) (Nat.le_of_ble_eq_true rfl) rfl rfl ?_
              refine e_goto (tgt := 89) dX11_year_165 (by decide) ?_
              exact e_wk (lk1 (lk1 (lk1 (lk1 (lk1 (lk1 (lk1 (lk1 (lk0 (lk0 (lk0 lkn))))))))))) (ih H kE)
            · replace H := of_ c79 H
              refine e_iload dX11_year_145 rfl ?_
              refine e_if_eq (tgt := 162) dX11_year_147 (by decide) (fun c80 => ?_) (fun c80 => ?_)
              · replace H := ot c80 H
                refine e_iinc dX11_year_162 rfl (ii_ (by decide : Int32.ofInt (1) = (1 : Int32))) (Nat.le_of_ble_eq_true rfl) rfl rfl ?_
                refine e_goto (tgt := 89) dX11_year_165 (by decide) ?_
                exact e_wk (lk1 (lk1 (lk1 (lk1 (lk1 (lk1 (lk1 (lk1 (lk0 (lk0 (lk0 lkn))))))))))) (ih H kE)
              · replace H := of_ c80 H
                refine e_iload dX11_year_150 rfl ?_
                refine e_istore dX11_year_152 (Nat.le_of_ble_eq_true rfl) rfl rfl ?_
                refine e_iload dX11_year_154 rfl ?_
                refine e_istore dX11_year_156 (Nat.le_of_ble_eq_true rfl) rfl rfl ?_
                refine e_iload dX11_year_158 rfl ?_
                refine e_istore dX11_year_160 (Nat.le_of_ble_eq_true rfl) rfl rfl ?_
                refine e_iinc dX11_year_162 rfl (ii_ (by decide : Int32.ofInt (1) = (1 : Int32))) (Nat.le_of_ble_eq_true rfl) rfl rfl ?_
                refine e_goto (tgt := 89) dX11_year_165 (by decide) ?_
                exact e_wk (lk1 (lk1 (lk1 (lk1 (lk1 (lk1 (lk1 (lk1 (lk0 (lk0 (lk0 lkn))))))))))) (ih H kE)
          replace H := c78
          refine e_icmp_ge (tgt := 136) dX11_year_129 (by decide) (fun c75 => ?_) (fun c75 => ?_)
          · replace H := ot c75 H
            refine e_iconst (v := (0 : Int32)) dX11_year_136 (by decide) ?_
            obtain rfl := Option.some.inj H
            exact e_wk (lk1 (lk1 (lk1 (lk1 (lk1 (lk1 (lk1 (lk1 (lk1 (lk1 (lk1 lkn))))))))))) k77
          · replace H := of_ c75 H
            refine e_iconst (v := (1 : Int32)) dX11_year_132 (by decide) ?_
            refine e_goto (tgt := 137) dX11_year_133 (by decide) ?_
            obtain rfl := Option.some.inj H
            exact e_wk (lk1 (lk1 (lk1 (lk1 (lk1 (lk1 (lk1 (lk1 (lk1 (lk1 (lk1 lkn))))))))))) k77
def f_X11_year (p1 : Int32) (p2 : Int32) (h : HS) : Option (Int32 × HS) := (Option.bind (f_X11_isIn p1 (0 : Int32) (199 : Int32)) (fun q1 => (if q1 = true then (Option.bind (f_X11_isIn p2 (0 : Int32) (2 : Int32)) (fun q4 => (if q4 = true then (Option.bind (l_X11_year_25 p1 p2 1000 (0 : Int32) h) (fun q41 => (Option.bind (f_X11_allStalls q41) (fun q45 => (Option.bind (l_X11_year_89 p1 p2 q45 q41 1000 (0 : Int32) (0 : Int32) (0 : Int32) (1 : Int32)) (fun q81 => (if p2 = 0 then (some (q81.1, q41)) else (if p2 = (1 : Int32) then (some (q81.2.1, q41)) else (some (q81.2.2, q41)))))))))) else (some ((-2 : Int32), h))))) else (some ((-2 : Int32), h)))))
set_option maxHeartbeats 4000000 in
set_option maxRecDepth 20000 in
theorem p_X11_year {p1 : Int32} {p2 : Int32} {h : HS} {q : (Int32 × HS)} (H : f_X11_year p1 p2 h = some q) : Pr h q.2 := by
  unfold f_X11_year at H
  replace H := ob H; obtain ⟨q1, c2, H⟩ := H
  replace H := oi H; obtain ⟨c3, H⟩ | ⟨c3, H⟩ := H
  · replace H := ob H; obtain ⟨q4, c5, H⟩ := H
    replace H := oi H; obtain ⟨c6, H⟩ | ⟨c6, H⟩ := H
    · replace H := ob H; obtain ⟨q41, c42, H⟩ := H
      have e43 := p_X11_year_25 1000 c42
      replace H := ob H; obtain ⟨q45, c46, H⟩ := H
      replace H := ob H; obtain ⟨q81, c82, H⟩ := H
      replace H := oi H; obtain ⟨c83, H⟩ | ⟨c83, H⟩ := H
      · obtain rfl := Option.some.inj H
        exact e43
      · replace H := oi H; obtain ⟨c84, H⟩ | ⟨c84, H⟩ := H
        · obtain rfl := Option.some.inj H
          exact e43
        · obtain rfl := Option.some.inj H
          exact e43
    · obtain rfl := Option.some.inj H
      exact Pr.rf
  · obtain rfl := Option.some.inj H
    exact Pr.rf
set_option maxHeartbeats 4000000 in
set_option maxRecDepth 20000 in
theorem t_X11_year {G : GE} (d : Nat) {p1 : Int32} {p2 : Int32} {h : HS} {q : (Int32 × HS)} (hY : LY TX h) (H : f_X11_year p1 p2 h = some q) : CE G (d + 5) yX11_year miX11_year [.ref 32, .int p1, .int p2] h (some (.int q.1)) (q.2) := by
  unfold f_X11_year at H
  refine ce_of rfl (by decide) (fun q => by first | rfl | cases q) (Nat.le_of_ble_eq_true rfl) rfl ?_
  refine e_iload_n dX11_year_0 rfl ?_
  refine e_iconst (v := (0 : Int32)) dX11_year_1 (by decide) ?_
  refine e_sipush (v := (199 : Int32)) dX11_year_2 (by decide) ?_
  replace H := ob H; obtain ⟨q1, c2, H⟩ := H
  refine s1 lmX11_106 lsX11_isIn msX11_isIn dX11_year_5 (t_X11_isIn (d + 4) c2) rfl (Nat.le_of_ble_eq_true rfl) (Nat.le_refl _) ?_
  refine e_ifB_eq (tgt := 20) dX11_year_8 (by decide) (fun c3 => ?_) (fun c3 => ?_)
  · replace H := of_ (nb c3) H
    refine e_bipush (v := (-2 : Int32)) dX11_year_20 (by decide) ?_
    obtain rfl := Option.some.inj H
    exact z_iret rfl rfl dX11_year_22 rfl rfl
  · replace H := ot c3 H
    refine e_iload_n dX11_year_11 rfl ?_
    refine e_iconst (v := (0 : Int32)) dX11_year_12 (by decide) ?_
    refine e_iconst (v := (2 : Int32)) dX11_year_13 (by decide) ?_
    replace H := ob H; obtain ⟨q4, c5, H⟩ := H
    refine s1 lmX11_106 lsX11_isIn msX11_isIn dX11_year_14 (t_X11_isIn (d + 4) c5) rfl (Nat.le_of_ble_eq_true rfl) (Nat.le_refl _) ?_
    refine e_ifB_ne (tgt := 23) dX11_year_17 (by decide) (fun c6 => ?_) (fun c6 => ?_)
    · replace H := ot c6 H
      refine e_iconst (v := (0 : Int32)) dX11_year_23 (by decide) ?_
      refine e_istore_n dX11_year_24 (Nat.le_of_ble_eq_true rfl) rfl rfl ?_
      replace H := ob H; obtain ⟨q41, c42, H⟩ := H
      have e43 := p_X11_year_25 1000 c42
      have hY44 := hY.pr okX e43
      refine e_wk (lk1 (lk1 (lk1 (lk1 (lk1 (lk1 (lk1 (lk1 (lk1 (lk1 (lk1 lkn))))))))))) (w_X11_year_25 d 1000 hY c42 ?_)
      refine g_aload_n dX11_year_72 rfl rfl ?_
      replace H := ob H; obtain ⟨q45, c46, H⟩ := H
      refine v1 (hY44.t 0 rfl) (by decide) rfl rfl lmX11_352 liX11_allStalls lvX11_X11_allStalls msX11_allStalls dX11_year_73 (t_X11_allStalls (d + 3) hY44 c46) rfl (Nat.le_of_ble_eq_true rfl) (Nat.le_refl _) ?_
      refine e_istore_n dX11_year_76 (Nat.le_of_ble_eq_true rfl) rfl rfl ?_
      refine e_iconst (v := (0 : Int32)) dX11_year_77 (by decide) ?_
      refine e_istore dX11_year_78 (Nat.le_of_ble_eq_true rfl) rfl rfl ?_
      refine e_iconst (v := (0 : Int32)) dX11_year_80 (by decide) ?_
      refine e_istore dX11_year_81 (Nat.le_of_ble_eq_true rfl) rfl rfl ?_
      refine e_iconst (v := (0 : Int32)) dX11_year_83 (by decide) ?_
      refine e_istore dX11_year_84 (Nat.le_of_ble_eq_true rfl) rfl rfl ?_
      refine e_iconst (v := (1 : Int32)) dX11_year_86 (by decide) ?_
      refine e_istore dX11_year_87 (Nat.le_of_ble_eq_true rfl) rfl rfl ?_
      replace H := ob H; obtain ⟨q81, c82, H⟩ := H
      refine e_wk (lk1 (lk1 (lk1 (lk1 (lk1 (lk1 (lk1 (lk1 (lk1 (lk1 (lk1 lkn))))))))))) (w_X11_year_89 d hY44 1000 c82 ?_)
      refine e_iload_n dX11_year_168 rfl ?_
      refine e_if_ne (tgt := 177) dX11_year_169 (by decide) (fun c83 => ?_) (fun c83 => ?_)
      · replace H := of_ c83 H
        refine e_iload_n dX11_year_177 rfl ?_
        refine e_iconst (v := (1 : Int32)) dX11_year_178 (by decide) ?_
        refine e_icmp_ne (tgt := 187) dX11_year_179 (by decide) (fun c84 => ?_) (fun c84 => ?_)
        · replace H := of_ c84 H
          refine e_iload dX11_year_187 rfl ?_
          obtain rfl := Option.some.inj H
          exact z_iret rfl rfl dX11_year_189 rfl rfl
        · replace H := ot c84 H
          refine e_iload dX11_year_182 rfl ?_
          refine e_goto (tgt := 189) dX11_year_184 (by decide) ?_
          obtain rfl := Option.some.inj H
          exact z_iret rfl rfl dX11_year_189 rfl rfl
      · replace H := ot c83 H
        refine e_iload dX11_year_172 rfl ?_
        refine e_goto (tgt := 189) dX11_year_174 (by decide) ?_
        obtain rfl := Option.some.inj H
        exact z_iret rfl rfl dX11_year_189 rfl rfl
    · replace H := of_ (nb c6) H
      refine e_bipush (v := (-2 : Int32)) dX11_year_20 (by decide) ?_
      obtain rfl := Option.some.inj H
      exact z_iret rfl rfl dX11_year_22 rfl rfl
-- X11_make
def l_X11_make_127 (y1 : Int32) (y3 : Int32) (y4 : Int32) (y5 : Int32) (y6 : Nat) (y9 : Int32) (y10 : Int32) (y11 : Int32) (h : HS)  : Nat → Int32 → Int32 → Int32 → Option (Int32 × Int32)
  | 0, _, _, _ => none
  | n + 1, x7, x8, x12 => (if (99 : Int32) < x12 then (some (x7, x8)) else (if y11 = 0 then (some (x7, x8)) else (if hT h y6 = 5 then (if ((x12 * (hI h y6 4)) - (y10 * y3)) < (y5 * (hI h y6 4)) then (l_X11_make_127 y1 y3 y4 y5 y6 y9 y10 y11 h n x7 x8 (x12 + (1 : Int32))) else (if x7 = (-1 : Int32) then (l_X11_make_127 y1 y3 y4 y5 y6 y9 y10 y11 h n (((100 : Int32) * y9) + x12) ((x12 * (hI h y6 4)) - (y10 * y3)) (x12 + (1 : Int32))) else (if x8 ≤ ((x12 * (hI h y6 4)) - (y10 * y3)) then (l_X11_make_127 y1 y3 y4 y5 y6 y9 y10 y11 h n x7 x8 (x12 + (1 : Int32))) else (l_X11_make_127 y1 y3 y4 y5 y6 y9 y10 y11 h n (((100 : Int32) * y9) + x12) ((x12 * (hI h y6 4)) - (y10 * y3)) (x12 + (1 : Int32)))))) else none)))
set_option maxHeartbeats 4000000 in
set_option maxRecDepth 20000 in
theorem w_X11_make_127 {G : GE} (d : Nat) {y1 : Int32} {y3 : Int32} {y4 : Int32} {y5 : Int32} {y6 : Nat} {y9 : Int32} {y10 : Int32} {y11 : Int32} {h : HS} {r : Option Value} {h' : HS} (hYTX : LY TX h) : ∀ (n : Nat) {x7 : Int32} {x8 : Int32} {x12 : Int32} {q : (Int32 × Int32)}, l_X11_make_127 y1 y3 y4 y5 y6 y9 y10 y11 h n x7 x8 x12 = some q → En G (d + 6) miX11_make 200 [.ref 32, .int y1, dum, .int y3, .int y4, .int y5, .ref y6, .int q.1, .int q.2, .int y9, dum, dum, dum, dum] [] h r h' → En G (d + 6) miX11_make 127 [.ref 32, .int y1, dum, .int y3, .int y4, .int y5, .ref y6, .int x7, .int x8, .int y9, .int y10, .int y11, .int x12, dum] [] h r h' := by
  intro n
  induction n with
  | zero => intro x7 x8 x12 q H kE; exact nz H
  | succ n ih =>
    intro x7 x8 x12 q H kE
    unfold l_X11_make_127 at H
    refine e_iload dX11_make_127 rfl ?_
    refine e_bipush (v := (99 : Int32)) dX11_make_129 (by decide) ?_
    refine e_icmp_gt (tgt := 200) dX11_make_131 (by decide) (fun c78 => ?_) (fun c78 => ?_)
    · replace H := ot c78 H
      obtain rfl := Option.some.inj H
      exact e_wk (lk1 (lk1 (lk1 (lk1 (lk1 (lk1 (lk1 (lk1 (lk1 (lk1 (lk0 (lk0 (lk0 (lk1 lkn)))))))))))))) kE
    · replace H := of_ c78 H
      refine e_iload dX11_make_134 rfl ?_
      refine e_if_eq (tgt := 200) dX11_make_136 (by decide) (fun c79 => ?_) (fun c79 => ?_)
      · replace H := ot c79 H
        obtain rfl := Option.some.inj H
        exact e_wk (lk1 (lk1 (lk1 (lk1 (lk1 (lk1 (lk1 (lk1 (lk1 (lk1 (lk0 (lk0 (lk0 (lk1 lkn)))))))))))))) kE
      · replace H := of_ c79 H
        refine e_iload dX11_make_139 rfl ?_
        refine g_aload dX11_make_141 rfl rfl ?_
        replace H := og H; obtain ⟨g80, H⟩ := H
        refine e_getI g80 flX11_199_4 dX11_make_143 rfl ?_
        refine e_imul dX11_make_146 ?_
        refine e_iload dX11_make_147 rfl ?_
        refine e_iload_n dX11_make_149 rfl ?_
        refine e_imul dX11_make_150 ?_
        refine e_isub dX11_make_151 ?_
        refine e_istore dX11_make_152 (Nat.le_of_ble_eq_true rfl) rfl rfl ?_
        refine e_iload dX11_make_154 rfl ?_
        refine e_iload dX11_make_156 rfl ?_
        refine g_aload dX11_make_158 rfl rfl ?_
        refine e_getI g80 flX11_199_4 dX11_make_160 rfl ?_
        refine e_imul dX11_make_163 ?_
        refine e_icmp_lt (tgt := 194) dX11_make_164 (by decide) (fun c81 => ?_) (fun c81 => ?_)
        · replace H := ot c81 H
          refine e_iinc dX11_make_194 rfl (ii_ (by decide : Int32.ofInt (1) = (1 : Int32))) (Nat.le_of_ble_eq_true rfl) rfl rfl ?_
          refine e_goto (tgt := 127) dX11_make_197 (by decide) ?_
          exact e_wk (lk1 (lk1 (lk1 (lk1 (lk1 (lk1 (lk1 (lk1 (lk1 (lk1 (lk1 (lk1 (lk1 (lk0 lkn)))))))))))))) (ih H kE)
        · replace H := of_ c81 H
          refine e_iload dX11_make_167 rfl ?_
          refine e_iconst (v := (-1 : Int32)) dX11_make_169 (by decide) ?_
          refine e_icmp_eq (tgt := 180) dX11_make_170 (by decide) (fun c82 => ?_) (fun c82 => ?_)
          · replace H := ot c82 H
            refine e_bipush (v := (100 : Int32)) dX11_make_180 (by decide) ?_
            refine e_iload dX11_make_182 rfl ?_
            refine e_imul dX11_make_184 ?_
            refine e_iload dX11_make_185 rfl ?_
            refine e_iadd dX11_make_187 ?_
            refine e_istore dX11_make_188 (Nat.le_of_ble_eq_true rfl) rfl rfl ?_
            refine e_iload dX11_make_190 rfl ?_
            refine e_istore dX11_make_192 (Nat.le_of_ble_eq_true rfl) rfl rfl ?_
            refine e_iinc dX11_make_194 rfl (ii_ (by decide : Int32.ofInt (1) = (1 : Int32))) (Nat.le_of_ble_eq_true rfl) rfl rfl ?_
            refine e_goto (tgt := 127) dX11_make_197 (by decide) ?_
            exact e_wk (lk1 (lk1 (lk1 (lk1 (lk1 (lk1 (lk1 (lk1 (lk1 (lk1 (lk1 (lk1 (lk1 (lk0 lkn)))))))))))))) (ih H kE)
          · replace H := of_ c82 H
            refine e_iload dX11_make_173 rfl ?_
            refine e_iload dX11_make_175 rfl ?_
            refine e_icmp_ge (tgt := 194) dX11_make_177 (by decide) (fun c83 => ?_) (fun c83 => ?_)
            · replace H := ot c83 H
              refine e_iinc dX11_make_194 rfl (ii_ (by decide : Int32.ofInt (1) = (1 : Int32))) (Nat.le_of_ble_eq_true rfl) rfl rfl ?_
              refine e_goto (tgt := 127) dX11_make_197 (by decide) ?_
              exact e_wk (lk1 (lk1 (lk1 (lk1 (lk1 (lk1 (lk1 (lk1 (lk1 (lk1 (lk1 (lk1 (lk1 (lk0 lkn)))))))))))))) (ih H kE)
            · replace H := of_ c83 H
              refine e_bipush (v := (100 : Int32)) dX11_make_180 (by decide) ?_
              refine e_iload dX11_make_182 rfl ?_
              refine e_imul dX11_make_184 ?_
              refine e_iload dX11_make_185 rfl ?_
              refine e_iadd dX11_make_187 ?_
              refine e_istore dX11_make_188 (Nat.le_of_ble_eq_true rfl) rfl rfl ?_
              refine e_iload dX11_make_190 rfl ?_
              refine e_istore dX11_make_192 (Nat.le_of_ble_eq_true rfl) rfl rfl ?_
              refine e_iinc dX11_make_194 rfl (ii_ (by decide : Int32.ofInt (1) = (1 : Int32))) (Nat.le_of_ble_eq_true rfl) rfl rfl ?_
              refine e_goto (tgt := 127) dX11_make_197 (by decide) ?_
              exact e_wk (lk1 (lk1 (lk1 (lk1 (lk1 (lk1 (lk1 (lk1 (lk1 (lk1 (lk1 (lk1 (lk1 (lk0 lkn)))))))))))))) (ih H kE)
def l_X11_make_69 (y1 : Int32) (y3 : Int32) (y4 : Int32) (y5 : Int32) (y6 : Nat)  : Nat → Int32 → Int32 → Int32 → HS → Option (Int32 × HS)
  | 0, _, _, _, _ => none
  | n + 1, x7, x8, x9, h => (if (9 : Int32) < x9 then (some (x7, h)) else (Option.bind (f_X11_newStall y1 (1010 : Int32) x9 (1 : Int32) h) (fun q55 => (om q55.1 none (fun b58 => (Option.bind (f_X11_mostWinning b58 y6 q55.2) (fun q61 => (if hT q61.2 y6 = 5 then (Option.bind (f_X11_quotient ((1000 : Int64) * q61.1.toInt64) (hI q61.2 y6 4).toInt64) (fun q66 => (Option.bind (if q66 < y4.toInt64 then (some (0 : Int32)) else (some (1 : Int32))) (fun q69 => (Option.bind (l_X11_make_127 y1 y3 y4 y5 y6 x9 q61.1 q69 q61.2 1000 x7 x8 (1 : Int32)) (fun q84 => (l_X11_make_69 y1 y3 y4 y5 y6 n q84.1 q84.2 (x9 + (1 : Int32)) q61.2))))))) else none))))))))
set_option maxHeartbeats 4000000 in
set_option maxRecDepth 20000 in
theorem p_X11_make_69 {y1 : Int32} {y3 : Int32} {y4 : Int32} {y5 : Int32} {y6 : Nat} : ∀ (n : Nat) {x7 : Int32} {x8 : Int32} {x9 : Int32} {h : HS} {q : (Int32 × HS)}, l_X11_make_69 y1 y3 y4 y5 y6 n x7 x8 x9 h = some q → Pr h q.2 := by
  intro n
  induction n with
  | zero => intro x7 x8 x9 h q H; exact nz H
  | succ n ih =>
    intro x7 x8 x9 h q H
    unfold l_X11_make_69 at H
    replace H := oi H; obtain ⟨c54, H⟩ | ⟨c54, H⟩ := H
    · obtain rfl := Option.some.inj H
      exact Pr.rf
    · replace H := ob H; obtain ⟨q55, c56, H⟩ := H
      have e59 := p_X11_newStall c56
      replace H := oom H; obtain ⟨e57, H⟩ | ⟨b58, e57, H⟩ := H
      · exact nz H
      · replace H := ob H; obtain ⟨q61, c62, H⟩ := H
        have e63 := p_X11_mostWinning c62
        replace H := og H; obtain ⟨g65, H⟩ := H
        replace H := ob H; obtain ⟨q66, c67, H⟩ := H
        replace H := ob H; obtain ⟨q69, c71, H⟩ := H
        replace H := ob H; obtain ⟨q84, c85, H⟩ := H
        exact (e59.tr e63).tr (ih H)
set_option maxHeartbeats 4000000 in
set_option maxRecDepth 20000 in
theorem w_X11_make_69 {G : GE} (d : Nat) {y1 : Int32} {y3 : Int32} {y4 : Int32} {y5 : Int32} {y6 : Nat} {r : Option Value} {h' : HS}  : ∀ (n : Nat) {x7 : Int32} {x8 : Int32} {x9 : Int32} {h : HS} {q : (Int32 × HS)}, LY TX h → l_X11_make_69 y1 y3 y4 y5 y6 n x7 x8 x9 h = some q → En G (d + 6) miX11_make 206 [dum, dum, dum, dum, dum, dum, dum, .int q.1, dum, dum, dum, dum, dum, dum] [] q.2 r h' → En G (d + 6) miX11_make 69 [.ref 32, .int y1, dum, .int y3, .int y4, .int y5, .ref y6, .int x7, .int x8, .int x9, dum, dum, dum, dum] [] h r h' := by
  intro n
  induction n with
  | zero => intro x7 x8 x9 h q hYTX H kE; exact nz H
  | succ n ih =>
    intro x7 x8 x9 h q hYTX H kE
    unfold l_X11_make_69 at H
    refine e_iload dX11_make_69 rfl ?_
    refine e_bipush (v := (9 : Int32)) dX11_make_71 (by decide) ?_
    refine e_icmp_gt (tgt := 206) dX11_make_73 (by decide) (fun c54 => ?_) (fun c54 => ?_)
    · replace H := ot c54 H
      obtain rfl := Option.some.inj H
      exact e_wk (lk0 (lk0 (lk1 (lk0 (lk0 (lk0 (lk0 (lk1 (lk0 (lk0 (lk1 (lk1 (lk1 (lk1 lkn)))))))))))))) kE
    · replace H := of_ c54 H
      refine g_aload_n dX11_make_76 rfl rfl ?_
      refine e_iload_n dX11_make_77 rfl ?_
      refine e_sipush (v := (1010 : Int32)) dX11_make_78 (by decide) ?_
      refine e_iload dX11_make_81 rfl ?_
      refine e_iconst (v := (1 : Int32)) dX11_make_83 (by decide) ?_
      replace H := ob H; obtain ⟨q55, c56, H⟩ := H
      have e59 := p_X11_newStall c56
      have hY60 := hYTX.pr okX e59
      replace H := oom H; obtain ⟨e57, H⟩ | ⟨b58, e57, H⟩ := H
      · refine s1 lmX11_118 lsX11_newStall msX11_newStall dX11_make_84 (ceN e57 (t_X11_newStall (d + 1) c56)) rfl (Nat.le_of_ble_eq_true rfl) (Nat.le_refl _) ?_
        refine g_aload dX11_make_87 rfl rfl ?_
        exact nz H
      · refine s1 lmX11_118 lsX11_newStall msX11_newStall dX11_make_84 (ceS e57 (t_X11_newStall (d + 1) c56)) rfl (Nat.le_of_ble_eq_true rfl) (Nat.le_refl _) ?_
        refine g_aload dX11_make_87 rfl rfl ?_
        replace H := ob H; obtain ⟨q61, c62, H⟩ := H
        refine v1 (hY60.t 0 rfl) (by decide) rfl rfl lmX11_280 liX11_mostWinning lvX11_X11_mostWinning msX11_mostWinning dX11_make_89 (t_X11_mostWinning (d + 0) hY60 c62) rfl (Nat.le_of_ble_eq_true rfl) (Nat.le_refl _) ?_
        have e63 := p_X11_mostWinning c62
        have hY64 := hY60.pr okX e63
        refine e_istore dX11_make_92 (Nat.le_of_ble_eq_true rfl) rfl rfl ?_
        refine e_ldc2 (v := (1000 : Int64)) lkX11_335 dX11_make_94 ?_
        refine e_iload dX11_make_97 rfl ?_
        refine e_i2l dX11_make_99 ?_
        refine e_lmul dX11_make_100 ?_
        refine g_aload dX11_make_101 rfl rfl ?_
        replace H := og H; obtain ⟨g65, H⟩ := H
        refine e_getI g65 flX11_199_4 dX11_make_103 rfl ?_
        refine e_i2l dX11_make_106 ?_
        replace H := ob H; obtain ⟨q66, c67, H⟩ := H
        refine s1 lmX11_267 lsX11_quotient msX11_quotient dX11_make_107 (t_X11_quotient (d + 5) c67) rfl (Nat.le_of_ble_eq_true rfl) (Nat.le_refl _) ?_
        refine e_iload dX11_make_110 rfl ?_
        refine e_i2l dX11_make_112 ?_
        replace H := ob H; obtain ⟨q69, c71, H⟩ := H
        have k70 : En G (d + 6) miX11_make 122 [.ref 32, .int y1, dum, .int y3, .int y4, .int y5, .ref y6, .int x7, .int x8, .int x9, .int q61.1, dum, dum, dum] [.int q69] q61.2 r h' := by
          refine e_istore dX11_make_122 (Nat.le_of_ble_eq_true rfl) rfl rfl ?_
          refine e_iconst (v := (1 : Int32)) dX11_make_124 (by decide) ?_
          refine e_istore dX11_make_125 (Nat.le_of_ble_eq_true rfl) rfl rfl ?_
          replace H := ob H; obtain ⟨q84, c85, H⟩ := H
          refine e_wk (lk1 (lk1 (lk1 (lk1 (lk1 (lk1 (lk1 (lk1 (lk1 (lk1 (lk1 (lk1 (lk1 (lk1 lkn)))))))))))))) (w_X11_make_127 d hY64 1000 c85 ?_)
          refine e_iinc dX11_make_200 rfl (ii_ (by decide : Int32.ofInt (1) = (1 : Int32))) (Nat.le_of_ble_eq_true rfl) rfl rfl ?_
          refine e_goto (tgt := 69) dX11_make_203 (by decide) ?_
          exact e_wk (lk1 (lk1 (lk1 (lk1 (lk1 (lk1 (lk1 (lk1 (lk1 (lk1 (lk1 (lk1 (lk1 (lk1 lkn)))))))))))))) (ih hY64 H kE)
        replace H := c71
        refine e_lc_lt (tgt := 121) dX11_make_113 dX11_make_114 (by decide) (fun c68 => ?_) (fun c68 => ?_)
        · replace H := ot c68 H
          refine e_iconst (v := (0 : Int32)) dX11_make_121 (by decide) ?_
          obtain rfl := Option.some.inj H
          exact e_wk (lk1 (lk1 (lk1 (lk1 (lk1 (lk1 (lk1 (lk1 (lk1 (lk1 (lk1 (lk1 (lk1 (lk1 lkn)))))))))))))) k70
        · replace H := of_ c68 H
          refine e_iconst (v := (1 : Int32)) dX11_make_117 (by decide) ?_
          refine e_goto (tgt := 122) dX11_make_118 (by decide) ?_
          obtain rfl := Option.some.inj H
          exact e_wk (lk1 (lk1 (lk1 (lk1 (lk1 (lk1 (lk1 (lk1 (lk1 (lk1 (lk1 (lk1 (lk1 (lk1 lkn)))))))))))))) k70
def f_X11_make (p1 : Int32) (p2 : Int32) (p3 : Int32) (p4 : Int32) (p5 : Int32) (h : HS) : Option (Int32 × HS) := (Option.bind (f_X11_handAt p2 h) (fun q1 => (om q1 (Option.bind (f_X11_isIn p1 (0 : Int32) (5 : Int32)) (fun q5 => (if q5 = true then (some ((-2 : Int32), h)) else (some ((-2 : Int32), h))))) (fun b4 => (Option.bind (f_X11_isIn p1 (0 : Int32) (5 : Int32)) (fun q9 => (if q9 = true then (Option.bind (f_X11_isIn p3 (0 : Int32) (999 : Int32)) (fun q13 => (if q13 = true then (Option.bind (f_X11_isIn p4 (0 : Int32) (1000 : Int32)) (fun q16 => (if q16 = true then (Option.bind (f_X11_isIn p5 (-999 : Int32) (99 : Int32)) (fun q19 => (if q19 = true then (Option.bind (l_X11_make_69 p1 p3 p4 p5 b4 1000 (-1 : Int32) (0 : Int32) (0 : Int32) h) (fun q86 => (some (q86.1, q86.2)))) else (some ((-2 : Int32), h))))) else (some ((-2 : Int32), h))))) else (some ((-2 : Int32), h))))) else (some ((-2 : Int32), h)))))))))
set_option maxHeartbeats 4000000 in
set_option maxRecDepth 20000 in
theorem p_X11_make {p1 : Int32} {p2 : Int32} {p3 : Int32} {p4 : Int32} {p5 : Int32} {h : HS} {q : (Int32 × HS)} (H : f_X11_make p1 p2 p3 p4 p5 h = some q) : Pr h q.2 := by
  unfold f_X11_make at H
  replace H := ob H; obtain ⟨q1, c2, H⟩ := H
  replace H := oom H; obtain ⟨e3, H⟩ | ⟨b4, e3, H⟩ := H
  · replace H := ob H; obtain ⟨q5, c6, H⟩ := H
    replace H := oi H; obtain ⟨c7, H⟩ | ⟨c7, H⟩ := H
    · obtain rfl := Option.some.inj H
      exact Pr.rf
    · obtain rfl := Option.some.inj H
      exact Pr.rf
  · replace H := ob H; obtain ⟨q9, c10, H⟩ := H
    replace H := oi H; obtain ⟨c11, H⟩ | ⟨c11, H⟩ := H
    · replace H := ob H; obtain ⟨q13, c14, H⟩ := H
      replace H := oi H; obtain ⟨c15, H⟩ | ⟨c15, H⟩ := H
      · replace H := ob H; obtain ⟨q16, c17, H⟩ := H
        replace H := oi H; obtain ⟨c18, H⟩ | ⟨c18, H⟩ := H
        · replace H := ob H; obtain ⟨q19, c20, H⟩ := H
          replace H := oi H; obtain ⟨c21, H⟩ | ⟨c21, H⟩ := H
          · replace H := ob H; obtain ⟨q86, c87, H⟩ := H
            have e88 := p_X11_make_69 1000 c87
            obtain rfl := Option.some.inj H
            exact e88
          · obtain rfl := Option.some.inj H
            exact Pr.rf
        · obtain rfl := Option.some.inj H
          exact Pr.rf
      · obtain rfl := Option.some.inj H
        exact Pr.rf
    · obtain rfl := Option.some.inj H
      exact Pr.rf
set_option maxHeartbeats 4000000 in
set_option maxRecDepth 20000 in
theorem t_X11_make {G : GE} (d : Nat) {p1 : Int32} {p2 : Int32} {p3 : Int32} {p4 : Int32} {p5 : Int32} {h : HS} {q : (Int32 × HS)} (hY : LY TX h) (H : f_X11_make p1 p2 p3 p4 p5 h = some q) : CE G (d + 6) yX11_make miX11_make [.ref 32, .int p1, .int p2, .int p3, .int p4, .int p5] h (some (.int q.1)) (q.2) := by
  unfold f_X11_make at H
  refine ce_of rfl (by decide) (fun q => by first | rfl | cases q) (Nat.le_of_ble_eq_true rfl) rfl ?_
  refine g_aload_n dX11_make_0 rfl rfl ?_
  refine e_iload_n dX11_make_1 rfl ?_
  replace H := ob H; obtain ⟨q1, c2, H⟩ := H
  replace H := oom H; obtain ⟨e3, H⟩ | ⟨b4, e3, H⟩ := H
  · refine v1 (hY.t 0 rfl) (by decide) rfl rfl lmX11_182 liX11_handAt lvX11_X11_handAt msX11_handAt dX11_make_2 (ceN e3 (t_X11_handAt (d + 2) hY c2)) rfl (Nat.le_of_ble_eq_true rfl) (Nat.le_refl _) ?_
    refine g_astore dX11_make_5 (Nat.le_of_ble_eq_true rfl) rfl rfl rfl ?_
    refine e_iload_n dX11_make_7 rfl ?_
    refine e_iconst (v := (0 : Int32)) dX11_make_8 (by decide) ?_
    refine e_iconst (v := (5 : Int32)) dX11_make_9 (by decide) ?_
    replace H := ob H; obtain ⟨q5, c6, H⟩ := H
    refine s1 lmX11_106 lsX11_isIn msX11_isIn dX11_make_10 (t_X11_isIn (d + 5) c6) rfl (Nat.le_of_ble_eq_true rfl) (Nat.le_refl _) ?_
    refine e_ifB_eq (tgt := 57) dX11_make_13 (by decide) (fun c7 => ?_) (fun c7 => ?_)
    · replace H := of_ (nb c7) H
      refine e_bipush (v := (-2 : Int32)) dX11_make_57 (by decide) ?_
      obtain rfl := Option.some.inj H
      exact z_iret rfl rfl dX11_make_59 rfl rfl
    · replace H := ot c7 H
      refine g_aload dX11_make_16 rfl rfl ?_
      refine e_ifnullN (tgt := 57) dX11_make_18 (by decide) ?_
      refine e_bipush (v := (-2 : Int32)) dX11_make_57 (by decide) ?_
      obtain rfl := Option.some.inj H
      exact z_iret rfl rfl dX11_make_59 rfl rfl
  · refine v1 (hY.t 0 rfl) (by decide) rfl rfl lmX11_182 liX11_handAt lvX11_X11_handAt msX11_handAt dX11_make_2 (ceS e3 (t_X11_handAt (d + 2) hY c2)) rfl (Nat.le_of_ble_eq_true rfl) (Nat.le_refl _) ?_
    refine g_astore dX11_make_5 (Nat.le_of_ble_eq_true rfl) rfl rfl rfl ?_
    refine e_iload_n dX11_make_7 rfl ?_
    refine e_iconst (v := (0 : Int32)) dX11_make_8 (by decide) ?_
    refine e_iconst (v := (5 : Int32)) dX11_make_9 (by decide) ?_
    replace H := ob H; obtain ⟨q9, c10, H⟩ := H
    refine s1 lmX11_106 lsX11_isIn msX11_isIn dX11_make_10 (t_X11_isIn (d + 5) c10) rfl (Nat.le_of_ble_eq_true rfl) (Nat.le_refl _) ?_
    refine e_ifB_eq (tgt := 57) dX11_make_13 (by decide) (fun c11 => ?_) (fun c11 => ?_)
    · replace H := of_ (nb c11) H
      refine e_bipush (v := (-2 : Int32)) dX11_make_57 (by decide) ?_
      obtain rfl := Option.some.inj H
      exact z_iret rfl rfl dX11_make_59 rfl rfl
    · replace H := ot c11 H
      refine g_aload dX11_make_16 rfl rfl ?_
      refine e_ifnull dX11_make_18 ?_
      refine e_iload_n dX11_make_21 rfl ?_
      refine e_iconst (v := (0 : Int32)) dX11_make_22 (by decide) ?_
      refine e_sipush (v := (999 : Int32)) dX11_make_23 (by decide) ?_
      replace H := ob H; obtain ⟨q13, c14, H⟩ := H
      refine s1 lmX11_106 lsX11_isIn msX11_isIn dX11_make_26 (t_X11_isIn (d + 5) c14) rfl (Nat.le_of_ble_eq_true rfl) (Nat.le_refl _) ?_
      refine e_ifB_eq (tgt := 57) dX11_make_29 (by decide) (fun c15 => ?_) (fun c15 => ?_)
      · replace H := of_ (nb c15) H
        refine e_bipush (v := (-2 : Int32)) dX11_make_57 (by decide) ?_
        obtain rfl := Option.some.inj H
        exact z_iret rfl rfl dX11_make_59 rfl rfl
      · replace H := ot c15 H
        refine e_iload dX11_make_32 rfl ?_
        refine e_iconst (v := (0 : Int32)) dX11_make_34 (by decide) ?_
        refine e_sipush (v := (1000 : Int32)) dX11_make_35 (by decide) ?_
        replace H := ob H; obtain ⟨q16, c17, H⟩ := H
        refine s1 lmX11_106 lsX11_isIn msX11_isIn dX11_make_38 (t_X11_isIn (d + 5) c17) rfl (Nat.le_of_ble_eq_true rfl) (Nat.le_refl _) ?_
        refine e_ifB_eq (tgt := 57) dX11_make_41 (by decide) (fun c18 => ?_) (fun c18 => ?_)
        · replace H := of_ (nb c18) H
          refine e_bipush (v := (-2 : Int32)) dX11_make_57 (by decide) ?_
          obtain rfl := Option.some.inj H
          exact z_iret rfl rfl dX11_make_59 rfl rfl
        · replace H := ot c18 H
          refine e_iload dX11_make_44 rfl ?_
          refine e_sipush (v := (-999 : Int32)) dX11_make_46 (by decide) ?_
          refine e_bipush (v := (99 : Int32)) dX11_make_49 (by decide) ?_
          replace H := ob H; obtain ⟨q19, c20, H⟩ := H
          refine s1 lmX11_106 lsX11_isIn msX11_isIn dX11_make_51 (t_X11_isIn (d + 5) c20) rfl (Nat.le_of_ble_eq_true rfl) (Nat.le_refl _) ?_
          refine e_ifB_ne (tgt := 60) dX11_make_54 (by decide) (fun c21 => ?_) (fun c21 => ?_)
          · replace H := ot c21 H
            refine e_iconst (v := (-1 : Int32)) dX11_make_60 (by decide) ?_
            refine e_istore dX11_make_61 (Nat.le_of_ble_eq_true rfl) rfl rfl ?_
            refine e_iconst (v := (0 : Int32)) dX11_make_63 (by decide) ?_
            refine e_istore dX11_make_64 (Nat.le_of_ble_eq_true rfl) rfl rfl ?_
            refine e_iconst (v := (0 : Int32)) dX11_make_66 (by decide) ?_
            refine e_istore dX11_make_67 (Nat.le_of_ble_eq_true rfl) rfl rfl ?_
            replace H := ob H; obtain ⟨q86, c87, H⟩ := H
            have e88 := p_X11_make_69 1000 c87
            have hY89 := hY.pr okX e88
            refine e_wk (lk1 (lk1 (lk0 (lk1 (lk1 (lk1 (lk1 (lk1 (lk1 (lk1 (lk1 (lk1 (lk1 (lk1 lkn)))))))))))))) (w_X11_make_69 d 1000 hY c87 ?_)
            refine e_iload dX11_make_206 rfl ?_
            obtain rfl := Option.some.inj H
            exact z_iret rfl rfl dX11_make_208 rfl rfl
          · replace H := of_ (nb c21) H
            refine e_bipush (v := (-2 : Int32)) dX11_make_57 (by decide) ?_
            obtain rfl := Option.some.inj H
            exact z_iret rfl rfl dX11_make_59 rfl rfl
-- X11_failAfter
def f_X11_failAfter (p1 : Nat) (p2 : Int32) (p3 : Int32) (h : HS) : Option Int32 := (Option.bind (f_X11_isIn p3 (0 : Int32) ((8 : Int32) - (1 : Int32))) (fun q1 => (if q1 = true then (if ixb p3 8 = true then (if hT h p1 = 5 then (Option.bind (f_X11_quotient (p2.toInt64 * (hI h 54 p3.toNatClampNeg).toInt64) (hI h p1 4).toInt64) (fun q6 => (some q6.toInt32))) else none) else none) else (some p2))))
set_option maxHeartbeats 4000000 in
set_option maxRecDepth 20000 in
theorem t_X11_failAfter {G : GE} (d : Nat) {p1 : Nat} {p2 : Int32} {p3 : Int32} {h : HS} {q : Int32} (hY : LY TX h) (H : f_X11_failAfter p1 p2 p3 h = some q) : CE G (d + 1) yX11_failAfter miX11_failAfter [.ref 32, .ref p1, .int p2, .int p3] h (some (.int q)) (h) := by
  unfold f_X11_failAfter at H
  refine ce_of rfl (by decide) (fun q => by first | rfl | cases q) (Nat.le_of_ble_eq_true rfl) rfl ?_
  refine e_iload_n dX11_failAfter_0 rfl ?_
  refine e_iconst (v := (0 : Int32)) dX11_failAfter_1 (by decide) ?_
  refine g_aload_n dX11_failAfter_2 rfl rfl ?_
  refine e_getR (hY.t 0 rfl) flX11_86_12 dX11_failAfter_3 rfl (hY.r 15 rfl) ?_
  refine e_alen (hY.t 22 rfl) (by decide) dX11_failAfter_6 ?_
  refine e_ci (y := (8 : Int32)) (by rw [(hY.n 22 rfl)]; rfl) ?_
  refine e_iconst (v := (1 : Int32)) dX11_failAfter_7 (by decide) ?_
  refine e_isub dX11_failAfter_8 ?_
  replace H := ob H; obtain ⟨q1, c2, H⟩ := H
  refine s1 lmX11_106 lsX11_isIn msX11_isIn dX11_failAfter_9 (t_X11_isIn (d + 0) c2) rfl (Nat.le_of_ble_eq_true rfl) (Nat.le_refl _) ?_
  refine e_ifB_eq (tgt := 37) dX11_failAfter_12 (by decide) (fun c3 => ?_) (fun c3 => ?_)
  · replace H := of_ (nb c3) H
    refine e_iload_n dX11_failAfter_37 rfl ?_
    obtain rfl := Option.some.inj H
    exact z_iret rfl rfl dX11_failAfter_38 rfl rfl
  · replace H := ot c3 H
    refine e_iload_n dX11_failAfter_15 rfl ?_
    refine e_i2l dX11_failAfter_16 ?_
    refine g_aload_n dX11_failAfter_17 rfl rfl ?_
    refine e_getR (hY.t 0 rfl) flX11_86_12 dX11_failAfter_18 rfl (hY.r 15 rfl) ?_
    refine e_iload_n dX11_failAfter_21 rfl ?_
    replace H := og H; obtain ⟨g4, H⟩ := H
    refine e_iald (hY.t 22 rfl) (ixb_y (hY.n 22 rfl) g4) dX11_failAfter_22 ?_
    refine e_i2l dX11_failAfter_23 ?_
    refine e_lmul dX11_failAfter_24 ?_
    refine g_aload_n dX11_failAfter_25 rfl rfl ?_
    replace H := og H; obtain ⟨g5, H⟩ := H
    refine e_getI g5 flX11_199_4 dX11_failAfter_26 rfl ?_
    refine e_i2l dX11_failAfter_29 ?_
    replace H := ob H; obtain ⟨q6, c7, H⟩ := H
    refine s1 lmX11_267 lsX11_quotient msX11_quotient dX11_failAfter_30 (t_X11_quotient (d + 0) c7) rfl (Nat.le_of_ble_eq_true rfl) (Nat.le_refl _) ?_
    refine e_l2i dX11_failAfter_33 ?_
    refine e_goto (tgt := 38) dX11_failAfter_34 (by decide) ?_
    obtain rfl := Option.some.inj H
    exact z_iret rfl rfl dX11_failAfter_38 rfl rfl
-- X11_leastFail
def l_X11_leastFail_47 (y1 : Nat) (y3 : Int32) (y4 : Int32) (h : HS)  : Nat → Int32 → Int32 → Option Int32
  | 0, _, _ => none
  | n + 1, x5, x6 => (if hT h 33 = 1 then (Option.bind (f_Jx4a65c_size_8abf5 33 h) (fun q56 => (if q56 ≤ x6 then (some x5) else (Option.bind (f_Jx4a65c_get_915e3 33 x6 h) (fun q60 => (om q60 none (fun b63 => (if isSt (hT h b63) = true then (Option.bind (f_X11_isIn (y4 - (hI h b63 4)) (0 : Int32) (y4 - (1 : Int32))) (fun q65 => (if q65 = true then (if ixb (y4 - (hI h b63 4)) 201 = true then (Option.bind (f_X11_failAfter y1 (hI h 55 (y4 - (hI h b63 4)).toNatClampNeg) x6 h) (fun q69 => (l_X11_leastFail_47 y1 y3 y4 h n (if q69 < x5 then q69 else x5) (x6 + (1 : Int32))))) else none) else (l_X11_leastFail_47 y1 y3 y4 h n x5 (x6 + (1 : Int32)))))) else none)))))))) else none)
set_option maxHeartbeats 4000000 in
set_option maxRecDepth 20000 in
theorem w_X11_leastFail_47 {G : GE} (d : Nat) {y1 : Nat} {y3 : Int32} {y4 : Int32} {h : HS} {r : Option Value} {h' : HS} (hYTX : LY TX h) : ∀ (n : Nat) {x5 : Int32} {x6 : Int32} {q : Int32}, l_X11_leastFail_47 y1 y3 y4 h n x5 x6 = some q → En G (d + 3) miX11_leastFail 119 [.ref 32, .ref y1, dum, .int y3, .int y4, .int q, dum, dum] [] h r h' → En G (d + 3) miX11_leastFail 47 [.ref 32, .ref y1, dum, .int y3, .int y4, .int x5, .int x6, dum] [] h r h' := by
  intro n
  induction n with
  | zero => intro x5 x6 q H kE; exact nz H
  | succ n ih =>
    intro x5 x6 q H kE
    unfold l_X11_leastFail_47 at H
    refine e_iload dX11_leastFail_47 rfl ?_
    refine g_aload_n dX11_leastFail_49 rfl rfl ?_
    refine e_getR (hYTX.t 0 rfl) flX11_12_12 dX11_leastFail_50 rfl (hYTX.r 0 rfl) ?_
    replace H := og H; obtain ⟨g58, H⟩ := H
    replace H := ob H; obtain ⟨q56, c57, H⟩ := H
    refine v1 (hYTX.t 1 rfl) (by decide) rfl rfl lmX11_114 liJx4a65c_size_8abf5 lvJx4a65c_Jx4a65c_size_8abf5 msJx4a65c_size_8abf5 dX11_leastFail_53 (t_Jx4a65c_size_8abf5 (d + 2) c57) rfl (Nat.le_of_ble_eq_true rfl) (Nat.le_refl _) ?_
    refine e_icmp_ge (tgt := 119) dX11_leastFail_56 (by decide) (fun c59 => ?_) (fun c59 => ?_)
    · replace H := ot c59 H
      obtain rfl := Option.some.inj H
      exact e_wk (lk1 (lk1 (lk1 (lk1 (lk1 (lk1 (lk0 (lk1 lkn)))))))) kE
    · replace H := of_ c59 H
      refine e_iload dX11_leastFail_59 rfl ?_
      refine g_aload_n dX11_leastFail_61 rfl rfl ?_
      refine e_getR (hYTX.t 0 rfl) flX11_12_12 dX11_leastFail_62 rfl (hYTX.r 0 rfl) ?_
      refine e_iload dX11_leastFail_65 rfl ?_
      replace H := ob H; obtain ⟨q60, c61, H⟩ := H
      replace H := oom H; obtain ⟨e62, H⟩ | ⟨b63, e62, H⟩ := H
      · refine v1 (hYTX.t 1 rfl) (by decide) rfl rfl lmX11_276 liJx4a65c_get_915e3 lvJx4a65c_Jx4a65c_get_915e3 msJx4a65c_get_915e3 dX11_leastFail_67 (ceN e62 (t_Jx4a65c_get_915e3 (d + 0) c61)) rfl (Nat.le_of_ble_eq_true rfl) (Nat.le_refl _) ?_
        exact nz H
      · refine v1 (hYTX.t 1 rfl) (by decide) rfl rfl lmX11_276 liJx4a65c_get_915e3 lvJx4a65c_Jx4a65c_get_915e3 msJx4a65c_get_915e3 dX11_leastFail_67 (ceS e62 (t_Jx4a65c_get_915e3 (d + 0) c61)) rfl (Nat.le_of_ble_eq_true rfl) (Nat.le_refl _) ?_
        replace H := og H; obtain ⟨g64, H⟩ := H
        refine e_castSt g64 lcX11_131 dX11_leastFail_70 ?_
        refine gmX11_151_isSt g64 dX11_leastFail_73 ?_
        refine e_isub dX11_leastFail_76 ?_
        refine e_istore dX11_leastFail_77 (Nat.le_of_ble_eq_true rfl) rfl rfl ?_
        refine e_iload dX11_leastFail_79 rfl ?_
        refine e_iconst (v := (0 : Int32)) dX11_leastFail_81 (by decide) ?_
        refine e_iload dX11_leastFail_82 rfl ?_
        refine e_iconst (v := (1 : Int32)) dX11_leastFail_84 (by decide) ?_
        refine e_isub dX11_leastFail_85 ?_
        replace H := ob H; obtain ⟨q65, c66, H⟩ := H
        refine s1 lmX11_106 lsX11_isIn msX11_isIn dX11_leastFail_86 (t_X11_isIn (d + 2) c66) rfl (Nat.le_of_ble_eq_true rfl) (Nat.le_refl _) ?_
        refine e_ifB_eq (tgt := 113) dX11_leastFail_89 (by decide) (fun c67 => ?_) (fun c67 => ?_)
        · replace H := of_ (nb c67) H
          refine e_iinc dX11_leastFail_113 rfl (ii_ (by decide : Int32.ofInt (1) = (1 : Int32))) (Nat.le_of_ble_eq_true rfl) rfl rfl ?_
          refine e_goto (tgt := 47) dX11_leastFail_116 (by decide) ?_
          exact e_wk (lk1 (lk1 (lk1 (lk1 (lk1 (lk1 (lk1 (lk0 lkn)))))))) (ih H kE)
        · replace H := ot c67 H
          refine e_iload dX11_leastFail_92 rfl ?_
          refine g_aload_n dX11_leastFail_94 rfl rfl ?_
          refine g_aload_n dX11_leastFail_95 rfl rfl ?_
          refine g_aload_n dX11_leastFail_96 rfl rfl ?_
          refine e_getR (hYTX.t 0 rfl) flX11_89_12 dX11_leastFail_97 rfl (hYTX.r 16 rfl) ?_
          refine e_iload dX11_leastFail_100 rfl ?_
          replace H := og H; obtain ⟨g68, H⟩ := H
          refine e_iald (hYTX.t 23 rfl) (ixb_y (hYTX.n 23 rfl) g68) dX11_leastFail_102 ?_
          refine e_iload dX11_leastFail_103 rfl ?_
          replace H := ob H; obtain ⟨q69, c70, H⟩ := H
          refine v1 (hYTX.t 0 rfl) (by decide) rfl rfl lmX11_407 liX11_failAfter lvX11_X11_failAfter msX11_failAfter dX11_leastFail_105 (t_X11_failAfter (d + 1) hYTX c70) rfl (Nat.le_of_ble_eq_true rfl) (Nat.le_refl _) ?_
          refine e_mmin lmX11_341 lsJ9_min_7cf53 msJ9_min_7cf53.2.1 (Nat.le_of_ble_eq_true rfl) (by omega) dX11_leastFail_108 ?_
          refine e_istore dX11_leastFail_111 (Nat.le_of_ble_eq_true rfl) rfl rfl ?_
          refine e_iinc dX11_leastFail_113 rfl (ii_ (by decide : Int32.ofInt (1) = (1 : Int32))) (Nat.le_of_ble_eq_true rfl) rfl rfl ?_
          refine e_goto (tgt := 47) dX11_leastFail_116 (by decide) ?_
          exact e_wk (lk1 (lk1 (lk1 (lk1 (lk1 (lk1 (lk1 (lk0 lkn)))))))) (ih H kE)
def l_X11_leastFail_27 (y1 : Nat) (y3 : Int32)  : Nat → Int32 → HS → Option HS
  | 0, _, _ => none
  | n + 1, x4, h => (if y3 < x4 then (some h) else (if ixb (x4 - (1 : Int32)) 201 = true then (Option.bind (l_X11_leastFail_47 y1 y3 x4 h 1000 (hI h 55 (x4 - (1 : Int32)).toNatClampNeg) (0 : Int32)) (fun q71 => (if ixb x4 201 = true then (l_X11_leastFail_27 y1 y3 n (x4 + (1 : Int32)) (sI h 55 x4.toNatClampNeg q71)) else none))) else none))
set_option maxHeartbeats 4000000 in
set_option maxRecDepth 20000 in
theorem p_X11_leastFail_27 {y1 : Nat} {y3 : Int32} : ∀ (n : Nat) {x4 : Int32} {h : HS} {q : HS}, l_X11_leastFail_27 y1 y3 n x4 h = some q → Pr h q := by
  intro n
  induction n with
  | zero => intro x4 h q H; exact nz H
  | succ n ih =>
    intro x4 h q H
    unfold l_X11_leastFail_27 at H
    replace H := oi H; obtain ⟨c39, H⟩ | ⟨c39, H⟩ := H
    · obtain rfl := Option.some.inj H
      exact Pr.rf
    · replace H := og H; obtain ⟨g40, H⟩ := H
      replace H := ob H; obtain ⟨q71, c72, H⟩ := H
      replace H := og H; obtain ⟨g73, H⟩ := H
      exact (Pr.rf.sI).tr (ih H)
set_option maxHeartbeats 4000000 in
set_option maxRecDepth 20000 in
theorem w_X11_leastFail_27 {G : GE} (d : Nat) {y1 : Nat} {y3 : Int32} {r : Option Value} {h' : HS}  : ∀ (n : Nat) {x4 : Int32} {h : HS} {q : HS}, LY TX h → l_X11_leastFail_27 y1 y3 n x4 h = some q → En G (d + 3) miX11_leastFail 134 [.ref 32, dum, dum, .int y3, dum, dum, dum, dum] [] q r h' → En G (d + 3) miX11_leastFail 27 [.ref 32, .ref y1, dum, .int y3, .int x4, dum, dum, dum] [] h r h' := by
  intro n
  induction n with
  | zero => intro x4 h q hYTX H kE; exact nz H
  | succ n ih =>
    intro x4 h q hYTX H kE
    unfold l_X11_leastFail_27 at H
    refine e_iload dX11_leastFail_27 rfl ?_
    refine e_iload_n dX11_leastFail_29 rfl ?_
    refine e_icmp_gt (tgt := 134) dX11_leastFail_30 (by decide) (fun c39 => ?_) (fun c39 => ?_)
    · replace H := ot c39 H
      obtain rfl := Option.some.inj H
      exact e_wk (lk1 (lk0 (lk1 (lk1 (lk0 (lk1 (lk1 (lk1 lkn)))))))) kE
    · replace H := of_ c39 H
      refine g_aload_n dX11_leastFail_33 rfl rfl ?_
      refine e_getR (hYTX.t 0 rfl) flX11_89_12 dX11_leastFail_34 rfl (hYTX.r 16 rfl) ?_
      refine e_iload dX11_leastFail_37 rfl ?_
      refine e_iconst (v := (1 : Int32)) dX11_leastFail_39 (by decide) ?_
      refine e_isub dX11_leastFail_40 ?_
      replace H := og H; obtain ⟨g40, H⟩ := H
      refine e_iald (hYTX.t 23 rfl) (ixb_y (hYTX.n 23 rfl) g40) dX11_leastFail_41 ?_
      refine e_istore dX11_leastFail_42 (Nat.le_of_ble_eq_true rfl) rfl rfl ?_
      refine e_iconst (v := (0 : Int32)) dX11_leastFail_44 (by decide) ?_
      refine e_istore dX11_leastFail_45 (Nat.le_of_ble_eq_true rfl) rfl rfl ?_
      replace H := ob H; obtain ⟨q71, c72, H⟩ := H
      refine e_wk (lk1 (lk1 (lk1 (lk1 (lk1 (lk1 (lk1 (lk1 lkn)))))))) (w_X11_leastFail_47 d hYTX 1000 c72 ?_)
      refine g_aload_n dX11_leastFail_119 rfl rfl ?_
      refine e_getR (hYTX.t 0 rfl) flX11_89_12 dX11_leastFail_120 rfl (hYTX.r 16 rfl) ?_
      refine e_iload dX11_leastFail_123 rfl ?_
      refine e_iload dX11_leastFail_125 rfl ?_
      replace H := og H; obtain ⟨g73, H⟩ := H
      refine e_iast (hYTX.t 23 rfl) (ixb_y (hYTX.n 23 rfl) g73) dX11_leastFail_127 ?_
      refine e_iinc dX11_leastFail_128 rfl (ii_ (by decide : Int32.ofInt (1) = (1 : Int32))) (Nat.le_of_ble_eq_true rfl) rfl rfl ?_
      refine e_goto (tgt := 27) dX11_leastFail_131 (by decide) ?_
      exact e_wk (lk1 (lk1 (lk1 (lk1 (lk1 (lk0 (lk1 (lk1 lkn)))))))) (ih (hYTX.sI) H kE)
def f_X11_leastFail (p1 : Nat) (p2 : Int32) (p3 : Int32) (h : HS) : Option (Int32 × HS) := (Option.bind (f_X11_isIn p3 (0 : Int32) ((201 : Int32) - (1 : Int32))) (fun q1 => (if q1 = true then (Option.bind (l_X11_leastFail_27 p1 p3 1000 (1 : Int32) (sI h 55 (0 : Int32).toNatClampNeg p2)) (fun q74 => (if ixb p3 201 = true then (some ((hI q74 55 p3.toNatClampNeg), q74)) else none))) else (some (p2, h)))))
set_option maxHeartbeats 4000000 in
set_option maxRecDepth 20000 in
theorem p_X11_leastFail {p1 : Nat} {p2 : Int32} {p3 : Int32} {h : HS} {q : (Int32 × HS)} (H : f_X11_leastFail p1 p2 p3 h = some q) : Pr h q.2 := by
  unfold f_X11_leastFail at H
  replace H := ob H; obtain ⟨q1, c2, H⟩ := H
  replace H := oi H; obtain ⟨c3, H⟩ | ⟨c3, H⟩ := H
  · replace H := ob H; obtain ⟨q74, c75, H⟩ := H
    have e76 := p_X11_leastFail_27 1000 c75
    replace H := og H; obtain ⟨g78, H⟩ := H
    obtain rfl := Option.some.inj H
    exact ((Pr.rf.sI).tr e76)
  · obtain rfl := Option.some.inj H
    exact Pr.rf
set_option maxHeartbeats 4000000 in
set_option maxRecDepth 20000 in
theorem t_X11_leastFail {G : GE} (d : Nat) {p1 : Nat} {p2 : Int32} {p3 : Int32} {h : HS} {q : (Int32 × HS)} (hY : LY TX h) (H : f_X11_leastFail p1 p2 p3 h = some q) : CE G (d + 3) yX11_leastFail miX11_leastFail [.ref 32, .ref p1, .int p2, .int p3] h (some (.int q.1)) (q.2) := by
  unfold f_X11_leastFail at H
  refine ce_of rfl (by decide) (fun q => by first | rfl | cases q) (Nat.le_of_ble_eq_true rfl) rfl ?_
  refine e_iload_n dX11_leastFail_0 rfl ?_
  refine e_iconst (v := (0 : Int32)) dX11_leastFail_1 (by decide) ?_
  refine g_aload_n dX11_leastFail_2 rfl rfl ?_
  refine e_getR (hY.t 0 rfl) flX11_89_12 dX11_leastFail_3 rfl (hY.r 16 rfl) ?_
  refine e_alen (hY.t 23 rfl) (by decide) dX11_leastFail_6 ?_
  refine e_ci (y := (201 : Int32)) (by rw [(hY.n 23 rfl)]; rfl) ?_
  refine e_iconst (v := (1 : Int32)) dX11_leastFail_7 (by decide) ?_
  refine e_isub dX11_leastFail_8 ?_
  replace H := ob H; obtain ⟨q1, c2, H⟩ := H
  refine s1 lmX11_106 lsX11_isIn msX11_isIn dX11_leastFail_9 (t_X11_isIn (d + 2) c2) rfl (Nat.le_of_ble_eq_true rfl) (Nat.le_refl _) ?_
  refine e_ifB_ne (tgt := 17) dX11_leastFail_12 (by decide) (fun c3 => ?_) (fun c3 => ?_)
  · replace H := ot c3 H
    refine g_aload_n dX11_leastFail_17 rfl rfl ?_
    refine e_getR (hY.t 0 rfl) flX11_89_12 dX11_leastFail_18 rfl (hY.r 16 rfl) ?_
    refine e_iconst (v := (0 : Int32)) dX11_leastFail_21 (by decide) ?_
    refine e_iload_n dX11_leastFail_22 rfl ?_
    refine e_iast (hY.t 23 rfl) (ixb_y (hY.n 23 rfl) (by decide)) dX11_leastFail_23 ?_
    refine e_iconst (v := (1 : Int32)) dX11_leastFail_24 (by decide) ?_
    refine e_istore dX11_leastFail_25 (Nat.le_of_ble_eq_true rfl) rfl rfl ?_
    replace H := ob H; obtain ⟨q74, c75, H⟩ := H
    have e76 := p_X11_leastFail_27 1000 c75
    have hY77 := (hY.sI).pr okX e76
    refine e_wk (lk1 (lk1 (lk0 (lk1 (lk1 (lk1 (lk1 (lk1 lkn)))))))) (w_X11_leastFail_27 d 1000 (hY.sI) c75 ?_)
    refine g_aload_n dX11_leastFail_134 rfl rfl ?_
    refine e_getR (hY77.t 0 rfl) flX11_89_12 dX11_leastFail_135 rfl (hY77.r 16 rfl) ?_
    refine e_iload_n dX11_leastFail_138 rfl ?_
    replace H := og H; obtain ⟨g78, H⟩ := H
    refine e_iald (hY77.t 23 rfl) (ixb_y (hY77.n 23 rfl) g78) dX11_leastFail_139 ?_
    obtain rfl := Option.some.inj H
    exact z_iret rfl rfl dX11_leastFail_140 rfl rfl
  · replace H := of_ (nb c3) H
    refine e_iload_n dX11_leastFail_15 rfl ?_
    obtain rfl := Option.some.inj H
    exact z_iret rfl rfl dX11_leastFail_16 rfl rfl
-- X11_firstOfWalk
def l_X11_firstOfWalk_3 (y1 : Nat) (y2 : Int32) (y3 : Int32)  : Nat → Int32 → HS → Option ((Int32 × HS) ⊕ HS)
  | 0, _, _ => none
  | n + 1, x4, h => (if hT h 33 = 1 then (Option.bind (f_Jx4a65c_size_8abf5 33 h) (fun q20 => (if q20 ≤ x4 then (some (Sum.inr h)) else (Option.bind (f_Jx4a65c_get_915e3 33 x4 h) (fun q24 => (om q24 none (fun b27 => (if isSt (hT h b27) = true then (if (y2 - (hI h b27 4)) < 0 then (l_X11_firstOfWalk_3 y1 y2 y3 n (x4 + (1 : Int32)) h) else (Option.bind (f_X11_failAfter y1 ((1000000 : Int32)) x4 h) (fun q30 => (Option.bind (f_X11_leastFail y1 q30 (y2 - (hI h b27 4)) h) (fun q32 => (if q32.1 = y3 then (some (Sum.inl (x4, q32.2))) else (l_X11_firstOfWalk_3 y1 y2 y3 n (x4 + (1 : Int32)) q32.2))))))) else none)))))))) else none)
set_option maxHeartbeats 4000000 in
set_option maxRecDepth 20000 in
theorem p_X11_firstOfWalk_3 {y1 : Nat} {y2 : Int32} {y3 : Int32} : ∀ (n : Nat) {x4 : Int32} {h : HS} {q : ((Int32 × HS) ⊕ HS)}, l_X11_firstOfWalk_3 y1 y2 y3 n x4 h = some q → Pr h (Sum.elim (fun v => v.2) (fun e => e) q) := by
  intro n
  induction n with
  | zero => intro x4 h q H; exact nz H
  | succ n ih =>
    intro x4 h q H
    unfold l_X11_firstOfWalk_3 at H
    replace H := og H; obtain ⟨g22, H⟩ := H
    replace H := ob H; obtain ⟨q20, c21, H⟩ := H
    replace H := oi H; obtain ⟨c23, H⟩ | ⟨c23, H⟩ := H
    · obtain rfl := Option.some.inj H
      exact Pr.rf
    · replace H := ob H; obtain ⟨q24, c25, H⟩ := H
      replace H := oom H; obtain ⟨e26, H⟩ | ⟨b27, e26, H⟩ := H
      · exact nz H
      · replace H := og H; obtain ⟨g28, H⟩ := H
        replace H := oi H; obtain ⟨c29, H⟩ | ⟨c29, H⟩ := H
        · exact id (ih H)
        · replace H := ob H; obtain ⟨q30, c31, H⟩ := H
          replace H := ob H; obtain ⟨q32, c33, H⟩ := H
          have e34 := p_X11_leastFail c33
          replace H := oi H; obtain ⟨c38, H⟩ | ⟨c38, H⟩ := H
          · obtain rfl := Option.some.inj H
            exact e34
          · exact e34.tr (ih H)
set_option maxHeartbeats 4000000 in
set_option maxRecDepth 20000 in
theorem w_X11_firstOfWalk_3 {G : GE} (d : Nat) {y1 : Nat} {y2 : Int32} {y3 : Int32} {r : Option Value} {h' : HS}  : ∀ (n : Nat) {x4 : Int32} {h : HS} {q : ((Int32 × HS) ⊕ HS)}, LY TX h → l_X11_firstOfWalk_3 y1 y2 y3 n x4 h = some q → (∀ v, q = Sum.inl v → r = some (.int v.1) ∧ h' = v.2) → (∀ e, q = Sum.inr e → En G (d + 4) miX11_firstOfWalk 69 [dum, dum, dum, dum, dum, dum] [] e r h') → En G (d + 4) miX11_firstOfWalk 3 [.ref 32, .ref y1, .int y2, .int y3, .int x4, dum] [] h r h' := by
  intro n
  induction n with
  | zero => intro x4 h q hYTX H kR kE; exact nz H
  | succ n ih =>
    intro x4 h q hYTX H kR kE
    unfold l_X11_firstOfWalk_3 at H
    refine e_iload dX11_firstOfWalk_3 rfl ?_
    refine g_aload_n dX11_firstOfWalk_5 rfl rfl ?_
    refine e_getR (hYTX.t 0 rfl) flX11_12_12 dX11_firstOfWalk_6 rfl (hYTX.r 0 rfl) ?_
    replace H := og H; obtain ⟨g22, H⟩ := H
    replace H := ob H; obtain ⟨q20, c21, H⟩ := H
    refine v1 (hYTX.t 1 rfl) (by decide) rfl rfl lmX11_114 liJx4a65c_size_8abf5 lvJx4a65c_Jx4a65c_size_8abf5 msJx4a65c_size_8abf5 dX11_firstOfWalk_9 (t_Jx4a65c_size_8abf5 (d + 3) c21) rfl (Nat.le_of_ble_eq_true rfl) (Nat.le_refl _) ?_
    refine e_icmp_ge (tgt := 69) dX11_firstOfWalk_12 (by decide) (fun c23 => ?_) (fun c23 => ?_)
    · replace H := ot c23 H
      obtain rfl := Option.some.inj H
      exact e_wk (lk0 (lk0 (lk0 (lk0 (lk0 (lk1 lkn)))))) (kE _ rfl)
    · replace H := of_ c23 H
      refine e_iload_n dX11_firstOfWalk_15 rfl ?_
      refine g_aload_n dX11_firstOfWalk_16 rfl rfl ?_
      refine e_getR (hYTX.t 0 rfl) flX11_12_12 dX11_firstOfWalk_17 rfl (hYTX.r 0 rfl) ?_
      refine e_iload dX11_firstOfWalk_20 rfl ?_
      replace H := ob H; obtain ⟨q24, c25, H⟩ := H
      replace H := oom H; obtain ⟨e26, H⟩ | ⟨b27, e26, H⟩ := H
      · refine v1 (hYTX.t 1 rfl) (by decide) rfl rfl lmX11_276 liJx4a65c_get_915e3 lvJx4a65c_Jx4a65c_get_915e3 msJx4a65c_get_915e3 dX11_firstOfWalk_22 (ceN e26 (t_Jx4a65c_get_915e3 (d + 1) c25)) rfl (Nat.le_of_ble_eq_true rfl) (Nat.le_refl _) ?_
        exact nz H
      · refine v1 (hYTX.t 1 rfl) (by decide) rfl rfl lmX11_276 liJx4a65c_get_915e3 lvJx4a65c_Jx4a65c_get_915e3 msJx4a65c_get_915e3 dX11_firstOfWalk_22 (ceS e26 (t_Jx4a65c_get_915e3 (d + 1) c25)) rfl (Nat.le_of_ble_eq_true rfl) (Nat.le_refl _) ?_
        replace H := og H; obtain ⟨g28, H⟩ := H
        refine e_castSt g28 lcX11_131 dX11_firstOfWalk_25 ?_
        refine gmX11_151_isSt g28 dX11_firstOfWalk_28 ?_
        refine e_isub dX11_firstOfWalk_31 ?_
        refine e_istore dX11_firstOfWalk_32 (Nat.le_of_ble_eq_true rfl) rfl rfl ?_
        refine e_iload dX11_firstOfWalk_34 rfl ?_
        refine e_if_lt (tgt := 63) dX11_firstOfWalk_36 (by decide) (fun c29 => ?_) (fun c29 => ?_)
        · replace H := ot c29 H
          refine e_iinc dX11_firstOfWalk_63 rfl (ii_ (by decide : Int32.ofInt (1) = (1 : Int32))) (Nat.le_of_ble_eq_true rfl) rfl rfl ?_
          refine e_goto (tgt := 3) dX11_firstOfWalk_66 (by decide) ?_
          exact e_wk (lk1 (lk1 (lk1 (lk1 (lk1 (lk0 lkn)))))) (ih hYTX H kR kE)
        · replace H := of_ c29 H
          refine g_aload_n dX11_firstOfWalk_39 rfl rfl ?_
          refine g_aload_n dX11_firstOfWalk_40 rfl rfl ?_
          refine g_aload_n dX11_firstOfWalk_41 rfl rfl ?_
          refine g_aload_n dX11_firstOfWalk_42 rfl rfl ?_
          refine e_ldcw (v := ((1000000 : Int32))) lkX11_367 dX11_firstOfWalk_43 ?_
          refine e_iload dX11_firstOfWalk_46 rfl ?_
          replace H := ob H; obtain ⟨q30, c31, H⟩ := H
          refine v1 (hYTX.t 0 rfl) (by decide) rfl rfl lmX11_407 liX11_failAfter lvX11_X11_failAfter msX11_failAfter dX11_firstOfWalk_48 (t_X11_failAfter (d + 2) hYTX c31) rfl (Nat.le_of_ble_eq_true rfl) (Nat.le_refl _) ?_
          refine e_iload dX11_firstOfWalk_51 rfl ?_
          replace H := ob H; obtain ⟨q32, c33, H⟩ := H
          refine v1 (hYTX.t 0 rfl) (by decide) rfl rfl lmX11_368 liX11_leastFail lvX11_X11_leastFail msX11_leastFail dX11_firstOfWalk_53 (t_X11_leastFail (d + 0) hYTX c33) rfl (Nat.le_of_ble_eq_true rfl) (Nat.le_refl _) ?_
          have e34 := p_X11_leastFail c33
          have hY35 := hYTX.pr okX e34
          have f36 := e34.k g22 (by decide)
          have f37 := e34.b g28 rfl
          refine e_iload_n dX11_firstOfWalk_56 rfl ?_
          refine e_icmp_ne (tgt := 63) dX11_firstOfWalk_57 (by decide) (fun c38 => ?_) (fun c38 => ?_)
          · replace H := of_ c38 H
            refine e_iinc dX11_firstOfWalk_63 rfl (ii_ (by decide : Int32.ofInt (1) = (1 : Int32))) (Nat.le_of_ble_eq_true rfl) rfl rfl ?_
            refine e_goto (tgt := 3) dX11_firstOfWalk_66 (by decide) ?_
            exact e_wk (lk1 (lk1 (lk1 (lk1 (lk1 (lk0 lkn)))))) (ih hY35 H kR kE)
          · replace H := ot c38 H
            refine e_iload dX11_firstOfWalk_60 rfl ?_
            obtain rfl := Option.some.inj H
            obtain ⟨eR, eH⟩ := kR _ rfl
            exact z_iret rfl rfl dX11_firstOfWalk_62 eR eH
def f_X11_firstOfWalk (p1 : Nat) (p2 : Int32) (p3 : Int32) (h : HS) : Option (Int32 × HS) := (Option.bind (l_X11_firstOfWalk_3 p1 p2 p3 1000 (0 : Int32) h) (fun q39 => (Sum.elim (fun v => some v) (fun e41 => (some ((-1 : Int32), e41))) q39)))
set_option maxHeartbeats 4000000 in
set_option maxRecDepth 20000 in
theorem p_X11_firstOfWalk {p1 : Nat} {p2 : Int32} {p3 : Int32} {h : HS} {q : (Int32 × HS)} (H : f_X11_firstOfWalk p1 p2 p3 h = some q) : Pr h q.2 := by
  unfold f_X11_firstOfWalk at H
  replace H := ob H; obtain ⟨q39, c40, H⟩ := H
  rcases q39 with v44 | e41
  · replace H := oSl H; obtain rfl := Option.some.inj H
    exact p_X11_firstOfWalk_3 1000 c40
  · replace H := oSr H
    have e42 : Pr h e41 := p_X11_firstOfWalk_3 1000 c40
    obtain rfl := Option.some.inj H
    exact e42
set_option maxHeartbeats 4000000 in
set_option maxRecDepth 20000 in
theorem t_X11_firstOfWalk {G : GE} (d : Nat) {p1 : Nat} {p2 : Int32} {p3 : Int32} {h : HS} {q : (Int32 × HS)} (hY : LY TX h) (H : f_X11_firstOfWalk p1 p2 p3 h = some q) : CE G (d + 4) yX11_firstOfWalk miX11_firstOfWalk [.ref 32, .ref p1, .int p2, .int p3] h (some (.int q.1)) (q.2) := by
  unfold f_X11_firstOfWalk at H
  refine ce_of rfl (by decide) (fun q => by first | rfl | cases q) (Nat.le_of_ble_eq_true rfl) rfl ?_
  refine e_iconst (v := (0 : Int32)) dX11_firstOfWalk_0 (by decide) ?_
  refine e_istore dX11_firstOfWalk_1 (Nat.le_of_ble_eq_true rfl) rfl rfl ?_
  replace H := ob H; obtain ⟨q39, c40, H⟩ := H
  refine e_wk (lk1 (lk1 (lk1 (lk1 (lk1 (lk1 lkn)))))) (w_X11_firstOfWalk_3 d 1000 hY c40 (fun v44 E0 => ?_) (fun e41 E0 => ?_))
  · subst E0; replace H := oSl H; obtain rfl := Option.some.inj H
    exact ⟨rfl, rfl⟩
  · subst E0; replace H := oSr H
    have e42 : Pr h e41 := p_X11_firstOfWalk_3 1000 c40
    have hY43 := hY.pr okX e42
    refine e_iconst (v := (-1 : Int32)) dX11_firstOfWalk_69 (by decide) ?_
    obtain rfl := Option.some.inj H
    exact z_iret rfl rfl dX11_firstOfWalk_70 rfl rfl
-- X11_walk
def l_X11_walk_36 (y2 : Int32) (y3 : Int32) (y4 : Nat)  : Nat → Int32 → HS → Option HS
  | 0, _, _ => none
  | n + 1, x5, h => (if hT h 33 = 1 then (Option.bind (f_Jx4a65c_size_8abf5 33 h) (fun q32 => (if q32 ≤ x5 then (some h) else (if (8 : Int32) ≤ x5 then (some h) else (if hT h y4 = 5 then (Option.bind (f_Jx4a65c_get_915e3 33 x5 h) (fun q38 => (om q38 none (fun b41 => (if isSt (hT h b41) = true then (Option.bind (f_X11_mostWinning b41 y4 h) (fun q43 => (if ixb x5 8 = true then (l_X11_walk_36 y2 y3 y4 n (x5 + (1 : Int32)) (sI q43.2 54 x5.toNatClampNeg ((hI h y4 4) - q43.1))) else none))) else none))))) else none))))) else none)
set_option maxHeartbeats 4000000 in
set_option maxRecDepth 20000 in
theorem p_X11_walk_36 {y2 : Int32} {y3 : Int32} {y4 : Nat} : ∀ (n : Nat) {x5 : Int32} {h : HS} {q : HS}, l_X11_walk_36 y2 y3 y4 n x5 h = some q → Pr h q := by
  intro n
  induction n with
  | zero => intro x5 h q H; exact nz H
  | succ n ih =>
    intro x5 h q H
    unfold l_X11_walk_36 at H
    replace H := og H; obtain ⟨g34, H⟩ := H
    replace H := ob H; obtain ⟨q32, c33, H⟩ := H
    replace H := oi H; obtain ⟨c35, H⟩ | ⟨c35, H⟩ := H
    · obtain rfl := Option.some.inj H
      exact Pr.rf
    · replace H := oi H; obtain ⟨c36, H⟩ | ⟨c36, H⟩ := H
      · obtain rfl := Option.some.inj H
        exact Pr.rf
      · replace H := og H; obtain ⟨g37, H⟩ := H
        replace H := ob H; obtain ⟨q38, c39, H⟩ := H
        replace H := oom H; obtain ⟨e40, H⟩ | ⟨b41, e40, H⟩ := H
        · exact nz H
        · replace H := og H; obtain ⟨g42, H⟩ := H
          replace H := ob H; obtain ⟨q43, c44, H⟩ := H
          have e45 := p_X11_mostWinning c44
          replace H := og H; obtain ⟨g50, H⟩ := H
          exact (e45.sI).tr (ih H)
set_option maxHeartbeats 4000000 in
set_option maxRecDepth 20000 in
theorem w_X11_walk_36 {G : GE} (d : Nat) {y2 : Int32} {y3 : Int32} {y4 : Nat} {r : Option Value} {h' : HS}  : ∀ (n : Nat) {x5 : Int32} {h : HS} {q : HS}, LY TX h → l_X11_walk_36 y2 y3 y4 n x5 h = some q → En G (d + 6) miX11_walk 95 [.ref 32, dum, .int y2, .int y3, .ref y4, dum] [] q r h' → En G (d + 6) miX11_walk 36 [.ref 32, dum, .int y2, .int y3, .ref y4, .int x5] [] h r h' := by
  intro n
  induction n with
  | zero => intro x5 h q hYTX H kE; exact nz H
  | succ n ih =>
    intro x5 h q hYTX H kE
    unfold l_X11_walk_36 at H
    refine e_iload dX11_walk_36 rfl ?_
    refine g_aload_n dX11_walk_38 rfl rfl ?_
    refine e_getR (hYTX.t 0 rfl) flX11_12_12 dX11_walk_39 rfl (hYTX.r 0 rfl) ?_
    replace H := og H; obtain ⟨g34, H⟩ := H
    replace H := ob H; obtain ⟨q32, c33, H⟩ := H
    refine v1 (hYTX.t 1 rfl) (by decide) rfl rfl lmX11_114 liJx4a65c_size_8abf5 lvJx4a65c_Jx4a65c_size_8abf5 msJx4a65c_size_8abf5 dX11_walk_42 (t_Jx4a65c_size_8abf5 (d + 5) c33) rfl (Nat.le_of_ble_eq_true rfl) (Nat.le_refl _) ?_
    refine e_icmp_ge (tgt := 95) dX11_walk_45 (by decide) (fun c35 => ?_) (fun c35 => ?_)
    · replace H := ot c35 H
      obtain rfl := Option.some.inj H
      exact e_wk (lk1 (lk1 (lk1 (lk1 (lk1 (lk0 lkn)))))) kE
    · replace H := of_ c35 H
      refine e_iload dX11_walk_48 rfl ?_
      refine g_aload_n dX11_walk_50 rfl rfl ?_
      refine e_getR (hYTX.t 0 rfl) flX11_86_12 dX11_walk_51 rfl (hYTX.r 15 rfl) ?_
      refine e_alen (hYTX.t 22 rfl) (by decide) dX11_walk_54 ?_
      refine e_ci (y := (8 : Int32)) (by rw [(hYTX.n 22 rfl)]; rfl) ?_
      refine e_icmp_ge (tgt := 95) dX11_walk_55 (by decide) (fun c36 => ?_) (fun c36 => ?_)
      · replace H := ot c36 H
        obtain rfl := Option.some.inj H
        exact e_wk (lk1 (lk1 (lk1 (lk1 (lk1 (lk0 lkn)))))) kE
      · replace H := of_ c36 H
        refine g_aload_n dX11_walk_58 rfl rfl ?_
        refine e_getR (hYTX.t 0 rfl) flX11_86_12 dX11_walk_59 rfl (hYTX.r 15 rfl) ?_
        refine e_iload dX11_walk_62 rfl ?_
        refine g_aload dX11_walk_64 rfl rfl ?_
        replace H := og H; obtain ⟨g37, H⟩ := H
        refine e_getI g37 flX11_199_4 dX11_walk_66 rfl ?_
        refine g_aload_n dX11_walk_69 rfl rfl ?_
        refine g_aload_n dX11_walk_70 rfl rfl ?_
        refine e_getR (hYTX.t 0 rfl) flX11_12_12 dX11_walk_71 rfl (hYTX.r 0 rfl) ?_
        refine e_iload dX11_walk_74 rfl ?_
        replace H := ob H; obtain ⟨q38, c39, H⟩ := H
        replace H := oom H; obtain ⟨e40, H⟩ | ⟨b41, e40, H⟩ := H
        · refine v1 (hYTX.t 1 rfl) (by decide) rfl rfl lmX11_276 liJx4a65c_get_915e3 lvJx4a65c_Jx4a65c_get_915e3 msJx4a65c_get_915e3 dX11_walk_76 (ceN e40 (t_Jx4a65c_get_915e3 (d + 3) c39)) rfl (Nat.le_of_ble_eq_true rfl) (Nat.le_refl _) ?_
          exact nz H
        · refine v1 (hYTX.t 1 rfl) (by decide) rfl rfl lmX11_276 liJx4a65c_get_915e3 lvJx4a65c_Jx4a65c_get_915e3 msJx4a65c_get_915e3 dX11_walk_76 (ceS e40 (t_Jx4a65c_get_915e3 (d + 3) c39)) rfl (Nat.le_of_ble_eq_true rfl) (Nat.le_refl _) ?_
          replace H := og H; obtain ⟨g42, H⟩ := H
          refine e_castSt g42 lcX11_131 dX11_walk_79 ?_
          refine g_aload dX11_walk_82 rfl rfl ?_
          replace H := ob H; obtain ⟨q43, c44, H⟩ := H
          refine v1 (hYTX.t 0 rfl) (by decide) rfl rfl lmX11_280 liX11_mostWinning lvX11_X11_mostWinning msX11_mostWinning dX11_walk_84 (t_X11_mostWinning (d + 0) hYTX c44) rfl (Nat.le_of_ble_eq_true rfl) (Nat.le_refl _) ?_
          have e45 := p_X11_mostWinning c44
          have hY46 := hYTX.pr okX e45
          have f47 := e45.k g34 (by decide)
          have f48 := e45.k g37 (by decide)
          have f49 := e45.b g42 rfl
          refine e_isub dX11_walk_87 ?_
          replace H := og H; obtain ⟨g50, H⟩ := H
          refine e_iast (hY46.t 22 rfl) (ixb_y (hY46.n 22 rfl) g50) dX11_walk_88 ?_
          refine e_iinc dX11_walk_89 rfl (ii_ (by decide : Int32.ofInt (1) = (1 : Int32))) (Nat.le_of_ble_eq_true rfl) rfl rfl ?_
          refine e_goto (tgt := 36) dX11_walk_92 (by decide) ?_
          exact e_wk (lk1 (lk1 (lk1 (lk1 (lk1 (lk1 lkn)))))) (ih (hY46.sI) H kE)
def f_X11_walk (p1 : Int32) (p2 : Int32) (p3 : Int32) (h : HS) : Option (Int32 × HS) := (Option.bind (f_X11_handAt p1 h) (fun q1 => (om q1 (some ((-2 : Int32), h)) (fun b4 => (Option.bind (f_X11_isIn p2 (0 : Int32) (200 : Int32)) (fun q7 => (if q7 = true then (Option.bind (f_X11_isBit p3) (fun q10 => (if q10 = true then (Option.bind (l_X11_walk_36 p2 p3 b4 1000 (0 : Int32) h) (fun q51 => (Option.bind (f_X11_leastFail b4 ((1000000 : Int32)) p2 q51) (fun q55 => (if p3 = 0 then (some (q55.1, q55.2)) else (if q55.1 = ((1000000 : Int32)) then (some ((-1 : Int32), q55.2)) else (Option.bind (f_X11_firstOfWalk b4 p2 q55.1 q55.2) (fun q61 => (some (q61.1, q61.2)))))))))) else (some ((-2 : Int32), h))))) else (some ((-2 : Int32), h)))))))))
set_option maxHeartbeats 4000000 in
set_option maxRecDepth 20000 in
theorem p_X11_walk {p1 : Int32} {p2 : Int32} {p3 : Int32} {h : HS} {q : (Int32 × HS)} (H : f_X11_walk p1 p2 p3 h = some q) : Pr h q.2 := by
  unfold f_X11_walk at H
  replace H := ob H; obtain ⟨q1, c2, H⟩ := H
  replace H := oom H; obtain ⟨e3, H⟩ | ⟨b4, e3, H⟩ := H
  · obtain rfl := Option.some.inj H
    exact Pr.rf
  · replace H := ob H; obtain ⟨q7, c8, H⟩ := H
    replace H := oi H; obtain ⟨c9, H⟩ | ⟨c9, H⟩ := H
    · replace H := ob H; obtain ⟨q10, c11, H⟩ := H
      replace H := oi H; obtain ⟨c12, H⟩ | ⟨c12, H⟩ := H
      · replace H := ob H; obtain ⟨q51, c52, H⟩ := H
        have e53 := p_X11_walk_36 1000 c52
        replace H := ob H; obtain ⟨q55, c56, H⟩ := H
        have e57 := p_X11_leastFail c56
        replace H := oi H; obtain ⟨c59, H⟩ | ⟨c59, H⟩ := H
        · obtain rfl := Option.some.inj H
          exact (e53.tr e57)
        · replace H := oi H; obtain ⟨c60, H⟩ | ⟨c60, H⟩ := H
          · obtain rfl := Option.some.inj H
            exact (e53.tr e57)
          · replace H := ob H; obtain ⟨q61, c62, H⟩ := H
            have e63 := p_X11_firstOfWalk c62
            obtain rfl := Option.some.inj H
            exact ((e53.tr e57).tr e63)
      · obtain rfl := Option.some.inj H
        exact Pr.rf
    · obtain rfl := Option.some.inj H
      exact Pr.rf
set_option maxHeartbeats 4000000 in
set_option maxRecDepth 20000 in
theorem t_X11_walk {G : GE} (d : Nat) {p1 : Int32} {p2 : Int32} {p3 : Int32} {h : HS} {q : (Int32 × HS)} (hY : LY TX h) (H : f_X11_walk p1 p2 p3 h = some q) : CE G (d + 6) yX11_walk miX11_walk [.ref 32, .int p1, .int p2, .int p3] h (some (.int q.1)) (q.2) := by
  unfold f_X11_walk at H
  refine ce_of rfl (by decide) (fun q => by first | rfl | cases q) (Nat.le_of_ble_eq_true rfl) rfl ?_
  refine g_aload_n dX11_walk_0 rfl rfl ?_
  refine e_iload_n dX11_walk_1 rfl ?_
  replace H := ob H; obtain ⟨q1, c2, H⟩ := H
  replace H := oom H; obtain ⟨e3, H⟩ | ⟨b4, e3, H⟩ := H
  · refine v1 (hY.t 0 rfl) (by decide) rfl rfl lmX11_182 liX11_handAt lvX11_X11_handAt msX11_handAt dX11_walk_2 (ceN e3 (t_X11_handAt (d + 2) hY c2)) rfl (Nat.le_of_ble_eq_true rfl) (Nat.le_refl _) ?_
    refine g_astore dX11_walk_5 (Nat.le_of_ble_eq_true rfl) rfl rfl rfl ?_
    refine g_aload dX11_walk_7 rfl rfl ?_
    refine e_ifnullN (tgt := 30) dX11_walk_9 (by decide) ?_
    refine e_bipush (v := (-2 : Int32)) dX11_walk_30 (by decide) ?_
    obtain rfl := Option.some.inj H
    exact z_iret rfl rfl dX11_walk_32 rfl rfl
  · refine v1 (hY.t 0 rfl) (by decide) rfl rfl lmX11_182 liX11_handAt lvX11_X11_handAt msX11_handAt dX11_walk_2 (ceS e3 (t_X11_handAt (d + 2) hY c2)) rfl (Nat.le_of_ble_eq_true rfl) (Nat.le_refl _) ?_
    refine g_astore dX11_walk_5 (Nat.le_of_ble_eq_true rfl) rfl rfl rfl ?_
    refine g_aload dX11_walk_7 rfl rfl ?_
    refine e_ifnull dX11_walk_9 ?_
    refine e_iload_n dX11_walk_12 rfl ?_
    refine e_iconst (v := (0 : Int32)) dX11_walk_13 (by decide) ?_
    refine e_sipush (v := (200 : Int32)) dX11_walk_14 (by decide) ?_
    replace H := ob H; obtain ⟨q7, c8, H⟩ := H
    refine s1 lmX11_106 lsX11_isIn msX11_isIn dX11_walk_17 (t_X11_isIn (d + 5) c8) rfl (Nat.le_of_ble_eq_true rfl) (Nat.le_refl _) ?_
    refine e_ifB_eq (tgt := 30) dX11_walk_20 (by decide) (fun c9 => ?_) (fun c9 => ?_)
    · replace H := of_ (nb c9) H
      refine e_bipush (v := (-2 : Int32)) dX11_walk_30 (by decide) ?_
      obtain rfl := Option.some.inj H
      exact z_iret rfl rfl dX11_walk_32 rfl rfl
    · replace H := ot c9 H
      refine e_iload_n dX11_walk_23 rfl ?_
      replace H := ob H; obtain ⟨q10, c11, H⟩ := H
      refine s1 lmX11_186 lsX11_isBit msX11_isBit dX11_walk_24 (t_X11_isBit (d + 5) c11) rfl (Nat.le_of_ble_eq_true rfl) (Nat.le_refl _) ?_
      refine e_ifB_ne (tgt := 33) dX11_walk_27 (by decide) (fun c12 => ?_) (fun c12 => ?_)
      · replace H := ot c12 H
        refine e_iconst (v := (0 : Int32)) dX11_walk_33 (by decide) ?_
        refine e_istore dX11_walk_34 (Nat.le_of_ble_eq_true rfl) rfl rfl ?_
        replace H := ob H; obtain ⟨q51, c52, H⟩ := H
        have e53 := p_X11_walk_36 1000 c52
        have hY54 := hY.pr okX e53
        refine e_wk (lk1 (lk0 (lk1 (lk1 (lk1 (lk1 lkn)))))) (w_X11_walk_36 d 1000 hY c52 ?_)
        refine g_aload_n dX11_walk_95 rfl rfl ?_
        refine g_aload dX11_walk_96 rfl rfl ?_
        refine e_ldcw (v := ((1000000 : Int32))) lkX11_367 dX11_walk_98 ?_
        refine e_iload_n dX11_walk_101 rfl ?_
        replace H := ob H; obtain ⟨q55, c56, H⟩ := H
        refine v1 (hY54.t 0 rfl) (by decide) rfl rfl lmX11_368 liX11_leastFail lvX11_X11_leastFail msX11_leastFail dX11_walk_102 (t_X11_leastFail (d + 2) hY54 c56) rfl (Nat.le_of_ble_eq_true rfl) (Nat.le_refl _) ?_
        have e57 := p_X11_leastFail c56
        have hY58 := hY54.pr okX e57
        refine e_istore dX11_walk_105 (Nat.le_of_ble_eq_true rfl) rfl rfl ?_
        refine e_iload_n dX11_walk_107 rfl ?_
        refine e_if_ne (tgt := 114) dX11_walk_108 (by decide) (fun c59 => ?_) (fun c59 => ?_)
        · replace H := of_ c59 H
          refine e_iload dX11_walk_114 rfl ?_
          refine e_ldcw (v := ((1000000 : Int32))) lkX11_367 dX11_walk_116 ?_
          refine e_icmp_ne (tgt := 126) dX11_walk_119 (by decide) (fun c60 => ?_) (fun c60 => ?_)
          · replace H := of_ c60 H
            refine g_aload_n dX11_walk_126 rfl rfl ?_
            refine g_aload dX11_walk_127 rfl rfl ?_
            refine e_iload_n dX11_walk_129 rfl ?_
            refine e_iload dX11_walk_130 rfl ?_
            replace H := ob H; obtain ⟨q61, c62, H⟩ := H
            refine v1 (hY58.t 0 rfl) (by decide) rfl rfl lmX11_372 liX11_firstOfWalk lvX11_X11_firstOfWalk msX11_firstOfWalk dX11_walk_132 (t_X11_firstOfWalk (d + 1) hY58 c62) rfl (Nat.le_of_ble_eq_true rfl) (Nat.le_refl _) ?_
            have e63 := p_X11_firstOfWalk c62
            have hY64 := hY58.pr okX e63
            obtain rfl := Option.some.inj H
            exact z_iret rfl rfl dX11_walk_135 rfl rfl
          · replace H := ot c60 H
            refine e_iconst (v := (-1 : Int32)) dX11_walk_122 (by decide) ?_
            refine e_goto (tgt := 135) dX11_walk_123 (by decide) ?_
            obtain rfl := Option.some.inj H
            exact z_iret rfl rfl dX11_walk_135 rfl rfl
        · replace H := ot c59 H
          refine e_iload dX11_walk_111 rfl ?_
          obtain rfl := Option.some.inj H
          exact z_iret rfl rfl dX11_walk_113 rfl rfl
      · replace H := of_ (nb c12) H
        refine e_bipush (v := (-2 : Int32)) dX11_walk_30 (by decide) ?_
        obtain rfl := Option.some.inj H
        exact z_iret rfl rfl dX11_walk_32 rfl rfl
-- X11_image
def l_X11_image_46  : Nat → Int32 → HS → Option HS
  | 0, _, _ => none
  | n + 1, x1, h => (if hT h 33 = 1 then (Option.bind (f_Jx4a65c_size_8abf5 33 h) (fun q23 => (if q23 ≤ x1 then (some h) else (Option.bind (f_Jx4a65c_get_915e3 33 x1 h) (fun q27 => (om q27 none (fun b30 => (if isSt (hT h b30) = true then (Option.bind (f_X5_keep x1 b30 h) (fun q32 => (l_X11_image_46  n (x1 + (1 : Int32)) q32))) else none)))))))) else none)
set_option maxHeartbeats 4000000 in
set_option maxRecDepth 20000 in
theorem p_X11_image_46  : ∀ (n : Nat) {x1 : Int32} {h : HS} {q : HS}, l_X11_image_46  n x1 h = some q → Pr h q := by
  intro n
  induction n with
  | zero => intro x1 h q H; exact nz H
  | succ n ih =>
    intro x1 h q H
    unfold l_X11_image_46 at H
    replace H := og H; obtain ⟨g25, H⟩ := H
    replace H := ob H; obtain ⟨q23, c24, H⟩ := H
    replace H := oi H; obtain ⟨c26, H⟩ | ⟨c26, H⟩ := H
    · obtain rfl := Option.some.inj H
      exact Pr.rf
    · replace H := ob H; obtain ⟨q27, c28, H⟩ := H
      replace H := oom H; obtain ⟨e29, H⟩ | ⟨b30, e29, H⟩ := H
      · exact nz H
      · replace H := og H; obtain ⟨g31, H⟩ := H
        replace H := ob H; obtain ⟨q32, c33, H⟩ := H
        have e34 := p_X5_keep c33
        exact e34.tr (ih H)
set_option maxHeartbeats 4000000 in
set_option maxRecDepth 20000 in
theorem w_X11_image_46 {G : GE} (d : Nat)  {r : Option Value} {h' : HS}  : ∀ (n : Nat) {x1 : Int32} {h : HS} {q : HS}, LY TX h → l_X11_image_46  n x1 h = some q → En G (d + 3) miX11_image 82 [.ref 32, dum] [] q r h' → En G (d + 3) miX11_image 46 [.ref 32, .int x1] [] h r h' := by
  intro n
  induction n with
  | zero => intro x1 h q hYTX H kE; exact nz H
  | succ n ih =>
    intro x1 h q hYTX H kE
    unfold l_X11_image_46 at H
    refine e_iload_n dX11_image_46 rfl ?_
    refine g_aload_n dX11_image_47 rfl rfl ?_
    refine e_getR (hYTX.t 0 rfl) flX11_12_12 dX11_image_48 rfl (hYTX.r 0 rfl) ?_
    replace H := og H; obtain ⟨g25, H⟩ := H
    replace H := ob H; obtain ⟨q23, c24, H⟩ := H
    refine v1 (hYTX.t 1 rfl) (by decide) rfl rfl lmX11_114 liJx4a65c_size_8abf5 lvJx4a65c_Jx4a65c_size_8abf5 msJx4a65c_size_8abf5 dX11_image_51 (t_Jx4a65c_size_8abf5 (d + 2) c24) rfl (Nat.le_of_ble_eq_true rfl) (Nat.le_refl _) ?_
    refine e_icmp_ge (tgt := 82) dX11_image_54 (by decide) (fun c26 => ?_) (fun c26 => ?_)
    · replace H := ot c26 H
      obtain rfl := Option.some.inj H
      exact e_wk (lk1 (lk0 lkn)) kE
    · replace H := of_ c26 H
      refine g_aload_n dX11_image_57 rfl rfl ?_
      refine e_getR (hYTX.t 0 rfl) flX11_52_12 dX11_image_58 rfl (hYTX.r 7 rfl) ?_
      refine e_iload_n dX11_image_61 rfl ?_
      refine g_aload_n dX11_image_62 rfl rfl ?_
      refine e_getR (hYTX.t 0 rfl) flX11_12_12 dX11_image_63 rfl (hYTX.r 0 rfl) ?_
      refine e_iload_n dX11_image_66 rfl ?_
      replace H := ob H; obtain ⟨q27, c28, H⟩ := H
      replace H := oom H; obtain ⟨e29, H⟩ | ⟨b30, e29, H⟩ := H
      · refine v1 (hYTX.t 1 rfl) (by decide) rfl rfl lmX11_276 liJx4a65c_get_915e3 lvJx4a65c_Jx4a65c_get_915e3 msJx4a65c_get_915e3 dX11_image_67 (ceN e29 (t_Jx4a65c_get_915e3 (d + 0) c28)) rfl (Nat.le_of_ble_eq_true rfl) (Nat.le_refl _) ?_
        exact nz H
      · refine v1 (hYTX.t 1 rfl) (by decide) rfl rfl lmX11_276 liJx4a65c_get_915e3 lvJx4a65c_Jx4a65c_get_915e3 msJx4a65c_get_915e3 dX11_image_67 (ceS e29 (t_Jx4a65c_get_915e3 (d + 0) c28)) rfl (Nat.le_of_ble_eq_true rfl) (Nat.le_refl _) ?_
        replace H := og H; obtain ⟨g31, H⟩ := H
        refine e_castSt g31 lcX11_131 dX11_image_70 ?_
        replace H := ob H; obtain ⟨q32, c33, H⟩ := H
        refine v0 (hYTX.t 12 rfl) (by decide) rfl rfl lmX11_384 liX5_keep lvX5_X5_keep msX5_keep dX11_image_73 (t_X5_keep (d + 1) hYTX c33) rfl (Nat.le_of_ble_eq_true rfl) (Nat.le_refl _) ?_
        have e34 := p_X5_keep c33
        have hY35 := hYTX.pr okX e34
        have f36 := e34.k g25 (by decide)
        have f37 := e34.b g31 rfl
        refine e_iinc dX11_image_76 rfl (ii_ (by decide : Int32.ofInt (1) = (1 : Int32))) (Nat.le_of_ble_eq_true rfl) rfl rfl ?_
        refine e_goto (tgt := 46) dX11_image_79 (by decide) ?_
        exact e_wk (lk1 (lk1 lkn)) (ih hY35 H kE)
def f_X11_image  (h : HS) : Option (Int32 × HS) := (if hT (sI h 44 0 (1 : Int32)) 33 = 1 then (Option.bind (f_Jx4a65c_size_8abf5 33 (sI h 44 0 (1 : Int32))) (fun q1 => (bh (sI (sI (sI (sI h 44 0 (1 : Int32)) 44 1 q1) 44 2 (hI (sI (sI h 44 0 (1 : Int32)) 44 1 q1) 32 3)) 44 3 (hI (sI (sI (sI h 44 0 (1 : Int32)) 44 1 q1) 44 2 (hI (sI (sI h 44 0 (1 : Int32)) 44 1 q1) 32 3)) 32 5)) (fun h4 => (Option.bind (l_X11_image_46  1000 (0 : Int32) h4) (fun q38 => (some ((hI q38 32 5), q38)))))))) else none)
set_option maxHeartbeats 4000000 in
set_option maxRecDepth 20000 in
theorem p_X11_image  {h : HS} {q : (Int32 × HS)} (H : f_X11_image h = some q) : Pr h q.2 := by
  unfold f_X11_image at H
  replace H := og H; obtain ⟨g3, H⟩ := H
  replace H := ob H; obtain ⟨q1, c2, H⟩ := H
  replace H := obh H; obtain ⟨h4, e5, H⟩ := H
  replace H := ob H; obtain ⟨q38, c39, H⟩ := H
  have e40 := p_X11_image_46 1000 c39
  obtain rfl := Option.some.inj H
  exact ((kP e5 ((((Pr.rf.sI).sI).sI).sI)).tr e40)
set_option maxHeartbeats 4000000 in
set_option maxRecDepth 20000 in
theorem t_X11_image {G : GE} (d : Nat)  {h : HS} {q : (Int32 × HS)} (hY : LY TX h) (H : f_X11_image h = some q) : CE G (d + 3) yX11_image miX11_image [.ref 32] h (some (.int q.1)) (q.2) := by
  unfold f_X11_image at H
  refine ce_of rfl (by decide) (fun q => by first | rfl | cases q) (Nat.le_of_ble_eq_true rfl) rfl ?_
  refine g_aload_n dX11_image_0 rfl rfl ?_
  refine e_getR (hY.t 0 rfl) flX11_52_12 dX11_image_1 rfl (hY.r 7 rfl) ?_
  refine e_iconst (v := (1 : Int32)) dX11_image_4 (by decide) ?_
  refine e_putZ (hY.t 12 rfl) fpX11_375_6 rfl (Or.inr rfl) dX11_image_5 ?_
  refine g_aload_n dX11_image_8 rfl rfl ?_
  refine e_getR ((hY.sI).t 0 rfl) flX11_52_12 dX11_image_9 rfl ((hY.sI).r 7 rfl) ?_
  refine g_aload_n dX11_image_12 rfl rfl ?_
  refine e_getR ((hY.sI).t 0 rfl) flX11_12_12 dX11_image_13 rfl ((hY.sI).r 0 rfl) ?_
  replace H := og H; obtain ⟨g3, H⟩ := H
  replace H := ob H; obtain ⟨q1, c2, H⟩ := H
  refine v1 ((hY.sI).t 1 rfl) (by decide) rfl rfl lmX11_114 liJx4a65c_size_8abf5 lvJx4a65c_Jx4a65c_size_8abf5 msJx4a65c_size_8abf5 dX11_image_16 (t_Jx4a65c_size_8abf5 (d + 2) c2) rfl (Nat.le_of_ble_eq_true rfl) (Nat.le_refl _) ?_
  refine e_putI ((hY.sI).t 12 rfl) fpX11_379_6 rfl dX11_image_19 ?_
  refine g_aload_n dX11_image_22 rfl rfl ?_
  refine e_getR (((hY.sI).sI).t 0 rfl) flX11_52_12 dX11_image_23 rfl (((hY.sI).sI).r 7 rfl) ?_
  refine g_aload_n dX11_image_26 rfl rfl ?_
  refine e_getI (((hY.sI).sI).t 0 rfl) flX11_22_12 dX11_image_27 rfl ?_
  refine e_putI (((hY.sI).sI).t 12 rfl) fpX11_382_6 rfl dX11_image_30 ?_
  refine g_aload_n dX11_image_33 rfl rfl ?_
  refine e_getR ((((hY.sI).sI).sI).t 0 rfl) flX11_52_12 dX11_image_34 rfl ((((hY.sI).sI).sI).r 7 rfl) ?_
  refine g_aload_n dX11_image_37 rfl rfl ?_
  refine e_getI ((((hY.sI).sI).sI).t 0 rfl) flX11_30_12 dX11_image_38 rfl ?_
  refine e_putI ((((hY.sI).sI).sI).t 12 rfl) fpX11_383_6 rfl dX11_image_41 ?_
  replace H := obh H; obtain ⟨h4, e5, H⟩ := H
  refine e_hq e5 ?_
  have hY6 := kY e5 ((((hY.sI).sI).sI).sI)
  have f7 := kT e5 (kI (kI (kI g3)))
  refine e_iconst (v := (0 : Int32)) dX11_image_44 (by decide) ?_
  refine e_istore_n dX11_image_45 (Nat.le_of_ble_eq_true rfl) rfl rfl ?_
  replace H := ob H; obtain ⟨q38, c39, H⟩ := H
  have e40 := p_X11_image_46 1000 c39
  have hY41 := hY6.pr okX e40
  have f42 := e40.k f7 (by decide)
  refine e_wk (lk1 (lk1 lkn)) (w_X11_image_46 d 1000 hY6 c39 ?_)
  refine g_aload_n dX11_image_82 rfl rfl ?_
  refine e_getI (hY41.t 0 rfl) flX11_30_12 dX11_image_83 rfl ?_
  obtain rfl := Option.some.inj H
  exact z_iret rfl rfl dX11_image_86 rfl rfl
-- X11_back
def l_X11_back_37  : Nat → Int32 → HS → Option HS
  | 0, _, _ => none
  | n + 1, x1, h => (if (hI h 44 1) ≤ x1 then (some h) else (if hT h 33 = 1 then (Option.bind (f_Jx4a65c_size_8abf5 33 h) (fun q19 => (if q19 ≤ x1 then (some h) else (Option.bind (f_Jx4a65c_get_915e3 33 x1 h) (fun q23 => (om q23 none (fun b26 => (if isSt (hT h b26) = true then (Option.bind (f_X5_layBack x1 b26 h) (fun q28 => (l_X11_back_37  n (x1 + (1 : Int32)) q28))) else none)))))))) else none))
set_option maxHeartbeats 4000000 in
set_option maxRecDepth 20000 in
theorem p_X11_back_37  : ∀ (n : Nat) {x1 : Int32} {h : HS} {q : HS}, l_X11_back_37  n x1 h = some q → Pr h q := by
  intro n
  induction n with
  | zero => intro x1 h q H; exact nz H
  | succ n ih =>
    intro x1 h q H
    unfold l_X11_back_37 at H
    replace H := oi H; obtain ⟨c18, H⟩ | ⟨c18, H⟩ := H
    · obtain rfl := Option.some.inj H
      exact Pr.rf
    · replace H := og H; obtain ⟨g21, H⟩ := H
      replace H := ob H; obtain ⟨q19, c20, H⟩ := H
      replace H := oi H; obtain ⟨c22, H⟩ | ⟨c22, H⟩ := H
      · obtain rfl := Option.some.inj H
        exact Pr.rf
      · replace H := ob H; obtain ⟨q23, c24, H⟩ := H
        replace H := oom H; obtain ⟨e25, H⟩ | ⟨b26, e25, H⟩ := H
        · exact nz H
        · replace H := og H; obtain ⟨g27, H⟩ := H
          replace H := ob H; obtain ⟨q28, c29, H⟩ := H
          have e30 := p_X5_layBack c29
          exact e30.tr (ih H)
set_option maxHeartbeats 4000000 in
set_option maxRecDepth 20000 in
theorem w_X11_back_37 {G : GE} (d : Nat)  {r : Option Value} {h' : HS}  : ∀ (n : Nat) {x1 : Int32} {h : HS} {q : HS}, LY TX h → l_X11_back_37  n x1 h = some q → En G (d + 3) miX11_back 84 [.ref 32, dum] [] q r h' → En G (d + 3) miX11_back 37 [.ref 32, .int x1] [] h r h' := by
  intro n
  induction n with
  | zero => intro x1 h q hYTX H kE; exact nz H
  | succ n ih =>
    intro x1 h q hYTX H kE
    unfold l_X11_back_37 at H
    refine e_iload_n dX11_back_37 rfl ?_
    refine g_aload_n dX11_back_38 rfl rfl ?_
    refine e_getR (hYTX.t 0 rfl) flX11_52_12 dX11_back_39 rfl (hYTX.r 7 rfl) ?_
    refine e_getI (hYTX.t 12 rfl) flX11_379_6 dX11_back_42 rfl ?_
    refine e_icmp_ge (tgt := 84) dX11_back_45 (by decide) (fun c18 => ?_) (fun c18 => ?_)
    · replace H := ot c18 H
      obtain rfl := Option.some.inj H
      exact e_wk (lk1 (lk0 lkn)) kE
    · replace H := of_ c18 H
      refine e_iload_n dX11_back_48 rfl ?_
      refine g_aload_n dX11_back_49 rfl rfl ?_
      refine e_getR (hYTX.t 0 rfl) flX11_12_12 dX11_back_50 rfl (hYTX.r 0 rfl) ?_
      replace H := og H; obtain ⟨g21, H⟩ := H
      replace H := ob H; obtain ⟨q19, c20, H⟩ := H
      refine v1 (hYTX.t 1 rfl) (by decide) rfl rfl lmX11_114 liJx4a65c_size_8abf5 lvJx4a65c_Jx4a65c_size_8abf5 msJx4a65c_size_8abf5 dX11_back_53 (t_Jx4a65c_size_8abf5 (d + 2) c20) rfl (Nat.le_of_ble_eq_true rfl) (Nat.le_refl _) ?_
      refine e_icmp_ge (tgt := 84) dX11_back_56 (by decide) (fun c22 => ?_) (fun c22 => ?_)
      · replace H := ot c22 H
        obtain rfl := Option.some.inj H
        exact e_wk (lk1 (lk0 lkn)) kE
      · replace H := of_ c22 H
        refine g_aload_n dX11_back_59 rfl rfl ?_
        refine e_getR (hYTX.t 0 rfl) flX11_52_12 dX11_back_60 rfl (hYTX.r 7 rfl) ?_
        refine e_iload_n dX11_back_63 rfl ?_
        refine g_aload_n dX11_back_64 rfl rfl ?_
        refine e_getR (hYTX.t 0 rfl) flX11_12_12 dX11_back_65 rfl (hYTX.r 0 rfl) ?_
        refine e_iload_n dX11_back_68 rfl ?_
        replace H := ob H; obtain ⟨q23, c24, H⟩ := H
        replace H := oom H; obtain ⟨e25, H⟩ | ⟨b26, e25, H⟩ := H
        · refine v1 (hYTX.t 1 rfl) (by decide) rfl rfl lmX11_276 liJx4a65c_get_915e3 lvJx4a65c_Jx4a65c_get_915e3 msJx4a65c_get_915e3 dX11_back_69 (ceN e25 (t_Jx4a65c_get_915e3 (d + 0) c24)) rfl (Nat.le_of_ble_eq_true rfl) (Nat.le_refl _) ?_
          exact nz H
        · refine v1 (hYTX.t 1 rfl) (by decide) rfl rfl lmX11_276 liJx4a65c_get_915e3 lvJx4a65c_Jx4a65c_get_915e3 msJx4a65c_get_915e3 dX11_back_69 (ceS e25 (t_Jx4a65c_get_915e3 (d + 0) c24)) rfl (Nat.le_of_ble_eq_true rfl) (Nat.le_refl _) ?_
          replace H := og H; obtain ⟨g27, H⟩ := H
          refine e_castSt g27 lcX11_131 dX11_back_72 ?_
          replace H := ob H; obtain ⟨q28, c29, H⟩ := H
          refine v0 (hYTX.t 12 rfl) (by decide) rfl rfl lmX11_388 liX5_layBack lvX5_X5_layBack msX5_layBack dX11_back_75 (t_X5_layBack (d + 1) hYTX c29) rfl (Nat.le_of_ble_eq_true rfl) (Nat.le_refl _) ?_
          have e30 := p_X5_layBack c29
          have hY31 := hYTX.pr okX e30
          have f32 := e30.k g21 (by decide)
          have f33 := e30.b g27 rfl
          refine e_iinc dX11_back_78 rfl (ii_ (by decide : Int32.ofInt (1) = (1 : Int32))) (Nat.le_of_ble_eq_true rfl) rfl rfl ?_
          refine e_goto (tgt := 37) dX11_back_81 (by decide) ?_
          exact e_wk (lk1 (lk1 lkn)) (ih hY31 H kE)
def f_X11_back  (h : HS) : Option (Int32 × HS) := (if (hI h 44 0) = 0 then (some ((-3 : Int32), h)) else (Option.bind (l_X11_back_37  1000 (0 : Int32) (sI (sI h 32 3 (hI h 44 2)) 32 5 (hI (sI h 32 3 (hI h 44 2)) 44 3))) (fun q34 => (some ((hI q34 32 5), q34)))))
set_option maxHeartbeats 4000000 in
set_option maxRecDepth 20000 in
theorem p_X11_back  {h : HS} {q : (Int32 × HS)} (H : f_X11_back h = some q) : Pr h q.2 := by
  unfold f_X11_back at H
  replace H := oi H; obtain ⟨c1, H⟩ | ⟨c1, H⟩ := H
  · obtain rfl := Option.some.inj H
    exact Pr.rf
  · replace H := ob H; obtain ⟨q34, c35, H⟩ := H
    have e36 := p_X11_back_37 1000 c35
    obtain rfl := Option.some.inj H
    exact (((Pr.rf.sI).sI).tr e36)
set_option maxHeartbeats 4000000 in
set_option maxRecDepth 20000 in
theorem t_X11_back {G : GE} (d : Nat)  {h : HS} {q : (Int32 × HS)} (hY : LY TX h) (H : f_X11_back h = some q) : CE G (d + 3) yX11_back miX11_back [.ref 32] h (some (.int q.1)) (q.2) := by
  unfold f_X11_back at H
  refine ce_of rfl (by decide) (fun q => by first | rfl | cases q) (Nat.le_of_ble_eq_true rfl) rfl ?_
  refine g_aload_n dX11_back_0 rfl rfl ?_
  refine e_getR (hY.t 0 rfl) flX11_52_12 dX11_back_1 rfl (hY.r 7 rfl) ?_
  refine e_getI (hY.t 12 rfl) flX11_375_6 dX11_back_4 rfl ?_
  refine e_if_ne (tgt := 13) dX11_back_7 (by decide) (fun c1 => ?_) (fun c1 => ?_)
  · replace H := of_ c1 H
    refine g_aload_n dX11_back_13 rfl rfl ?_
    refine g_aload_n dX11_back_14 rfl rfl ?_
    refine e_getR (hY.t 0 rfl) flX11_52_12 dX11_back_15 rfl (hY.r 7 rfl) ?_
    refine e_getI (hY.t 12 rfl) flX11_382_6 dX11_back_18 rfl ?_
    refine e_putI (hY.t 0 rfl) fpX11_22_12 rfl dX11_back_21 ?_
    refine g_aload_n dX11_back_24 rfl rfl ?_
    refine g_aload_n dX11_back_25 rfl rfl ?_
    refine e_getR ((hY.sI).t 0 rfl) flX11_52_12 dX11_back_26 rfl ((hY.sI).r 7 rfl) ?_
    refine e_getI ((hY.sI).t 12 rfl) flX11_383_6 dX11_back_29 rfl ?_
    refine e_putI ((hY.sI).t 0 rfl) fpX11_30_12 rfl dX11_back_32 ?_
    refine e_iconst (v := (0 : Int32)) dX11_back_35 (by decide) ?_
    refine e_istore_n dX11_back_36 (Nat.le_of_ble_eq_true rfl) rfl rfl ?_
    replace H := ob H; obtain ⟨q34, c35, H⟩ := H
    have e36 := p_X11_back_37 1000 c35
    have hY37 := ((hY.sI).sI).pr okX e36
    refine e_wk (lk1 (lk1 lkn)) (w_X11_back_37 d 1000 ((hY.sI).sI) c35 ?_)
    refine g_aload_n dX11_back_84 rfl rfl ?_
    refine e_getI (hY37.t 0 rfl) flX11_30_12 dX11_back_85 rfl ?_
    obtain rfl := Option.some.inj H
    exact z_iret rfl rfl dX11_back_88 rfl rfl
  · replace H := ot c1 H
    refine e_bipush (v := (-3 : Int32)) dX11_back_10 (by decide) ?_
    obtain rfl := Option.some.inj H
    exact z_iret rfl rfl dX11_back_12 rfl rfl
