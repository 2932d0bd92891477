-- X11_askPlayer
def f_X11_askPlayer (p1 : Nat) (p2 : Nat) (p3 : Int32) (h : HS) : Option HS := (Option.bind (f_X11_thousandths p1 p2 p3 h) (fun q1 => (Option.bind (f_X11_tellValues p1 q1.1 q1.2) (fun q5 => (Option.bind (f_J7_fill_d0a16 52 (0 : Int64) q5) (fun q9 => (Option.bind (f_J7_fill_d0a16 53 (0 : Int64) q9) (fun q13 => (some q13)))))))))
set_option maxHeartbeats 4000000 in
set_option maxRecDepth 20000 in
theorem p_X11_askPlayer {p1 : Nat} {p2 : Nat} {p3 : Int32} {h : HS} {q : HS} (H : f_X11_askPlayer p1 p2 p3 h = some q) : Pr h q := by
  unfold f_X11_askPlayer at H
  replace H := ob H; obtain ⟨q1, c2, H⟩ := H
  have e3 := p_X11_thousandths c2
  replace H := ob H; obtain ⟨q5, c6, H⟩ := H
  have e7 := p_X11_tellValues c6
  replace H := ob H; obtain ⟨q9, c10, H⟩ := H
  have e11 := p_J7_fill_d0a16 c10
  replace H := ob H; obtain ⟨q13, c14, H⟩ := H
  have e15 := p_J7_fill_d0a16 c14
  obtain rfl := Option.some.inj H
  exact (((e3.tr e7).tr e11).tr e15)
set_option maxHeartbeats 4000000 in
set_option maxRecDepth 20000 in
theorem t_X11_askPlayer {G : GE} (d : Nat) {p1 : Nat} {p2 : Nat} {p3 : Int32} {h : HS} {q : HS} (hY : LY TX h) (H : f_X11_askPlayer p1 p2 p3 h = some q) : CE G (d + 6) yX11_askPlayer miX11_askPlayer [.ref 32, .ref p1, .ref p2, .int p3] h (none) (q) := by
  unfold f_X11_askPlayer at H
  refine ce_of rfl (by decide) (fun q => by first | rfl | cases q) (Nat.le_of_ble_eq_true rfl) rfl ?_
  refine g_aload_n dX11_askPlayer_0 rfl rfl ?_
  refine g_aload_n dX11_askPlayer_1 rfl rfl ?_
  refine g_aload_n dX11_askPlayer_2 rfl rfl ?_
  refine g_aload_n dX11_askPlayer_3 rfl rfl ?_
  refine g_aload_n dX11_askPlayer_4 rfl rfl ?_
  refine e_iload_n dX11_askPlayer_5 rfl ?_
  replace H := ob H; obtain ⟨q1, c2, H⟩ := H
  refine v1 (hY.t 0 rfl) (by decide) rfl rfl lmX11_292 liX11_thousandths lvX11_X11_thousandths msX11_thousandths dX11_askPlayer_6 (t_X11_thousandths (d + 0) hY c2) rfl (Nat.le_of_ble_eq_true rfl) (Nat.le_refl _) ?_
  have e3 := p_X11_thousandths c2
  have hY4 := hY.pr okX e3
  replace H := ob H; obtain ⟨q5, c6, H⟩ := H
  refine v0 (hY4.t 0 rfl) (by decide) rfl rfl lmX11_296 liX11_tellValues lvX11_X11_tellValues msX11_tellValues dX11_askPlayer_9 (t_X11_tellValues (d + 5) hY4 c6) rfl (Nat.le_of_ble_eq_true rfl) (Nat.le_refl _) ?_
  have e7 := p_X11_tellValues c6
  have hY8 := hY4.pr okX e7
  refine g_aload_n dX11_askPlayer_12 rfl rfl ?_
  refine e_getR (hY8.t 0 rfl) flX11_79_12 dX11_askPlayer_13 rfl (hY8.r 13 rfl) ?_
  refine e_lconst (v := (0 : Int64)) dX11_askPlayer_16 (by decide) ?_
  replace H := ob H; obtain ⟨q9, c10, H⟩ := H
  refine s0 lmX11_323 lsJ7_fill_d0a16 msJ7_fill_d0a16 dX11_askPlayer_17 (t_J7_fill_d0a16 (d + 5) c10) rfl (Nat.le_of_ble_eq_true rfl) (Nat.le_refl _) ?_
  have e11 := p_J7_fill_d0a16 c10
  have hY12 := hY8.pr okX e11
  refine g_aload_n dX11_askPlayer_20 rfl rfl ?_
  refine e_getR (hY12.t 0 rfl) flX11_83_12 dX11_askPlayer_21 rfl (hY12.r 14 rfl) ?_
  refine e_lconst (v := (0 : Int64)) dX11_askPlayer_24 (by decide) ?_
  replace H := ob H; obtain ⟨q13, c14, H⟩ := H
  refine s0 lmX11_323 lsJ7_fill_d0a16 msJ7_fill_d0a16 dX11_askPlayer_25 (t_J7_fill_d0a16 (d + 5) c14) rfl (Nat.le_of_ble_eq_true rfl) (Nat.le_refl _) ?_
  have e15 := p_J7_fill_d0a16 c14
  have hY16 := hY12.pr okX e15
  obtain rfl := Option.some.inj H
  exact z_vret rfl dX11_askPlayer_28 rfl rfl
-- X11_winningThrows
def l_X11_winningThrows_12 (y0 : Nat) (y1 : Nat) (y2 : Int32) (h : HS)  : Nat → Int64 → Int64 → Int32 → Option Int64
  | 0, _, _, _ => none
  | n + 1, x4, x6, x8 => (if (40 : Int32) ≤ x8 then (some x4) else (Option.bind (f_X11_lands y0 y1 y2 x6 h) (fun q13 => (Option.bind (if q13 = true then (some (x4 ||| ((1 : Int64) <<< (x8.toInt64 &&& 63)))) else (some x4)) (fun q16 => (Option.bind (f_X11_nextLot x6) (fun q19 => (l_X11_winningThrows_12 y0 y1 y2 h n q16 q19 (x8 + (1 : Int32))))))))))
set_option maxHeartbeats 4000000 in
set_option maxRecDepth 20000 in
theorem w_X11_winningThrows_12 {G : GE} (d : Nat) {y0 : Nat} {y1 : Nat} {y2 : Int32} {h : HS} {r : Option Value} {h' : HS}  : ∀ (n : Nat) {x4 : Int64} {x6 : Int64} {x8 : Int32} {q : Int64}, l_X11_winningThrows_12 y0 y1 y2 h n x4 x6 x8 = some q → En G (d + 5) miX11_winningThrows 52 [dum, dum, dum, dum, .long q, dum, dum, dum, dum] [] h r h' → En G (d + 5) miX11_winningThrows 12 [.ref y0, .ref y1, .int y2, dum, .long x4, dum, .long x6, dum, .int x8] [] h r h' := by
  intro n
  induction n with
  | zero => intro x4 x6 x8 q H kE; exact nz H
  | succ n ih =>
    intro x4 x6 x8 q H kE
    unfold l_X11_winningThrows_12 at H
    refine e_iload dX11_winningThrows_12 rfl ?_
    refine e_bipush (v := (40 : Int32)) dX11_winningThrows_14 (by decide) ?_
    refine e_icmp_ge (tgt := 52) dX11_winningThrows_16 (by decide) (fun c12 => ?_) (fun c12 => ?_)
    · replace H := ot c12 H
      obtain rfl := Option.some.inj H
      exact e_wk (lk0 (lk0 (lk0 (lk1 (lk1 (lk1 (lk0 (lk1 (lk0 lkn))))))))) kE
    · replace H := of_ c12 H
      refine g_aload_n dX11_winningThrows_19 rfl rfl ?_
      refine g_aload_n dX11_winningThrows_20 rfl rfl ?_
      refine e_iload_n dX11_winningThrows_21 rfl ?_
      refine e_lload dX11_winningThrows_22 rfl ?_
      replace H := ob H; obtain ⟨q13, c14, H⟩ := H
      refine s1 lmX11_235 lsX11_lands msX11_lands dX11_winningThrows_24 (t_X11_lands (d + 0) c14) rfl (Nat.le_of_ble_eq_true rfl) (Nat.le_refl _) ?_
      replace H := ob H; obtain ⟨q16, c18, H⟩ := H
      have k17 : En G (d + 5) miX11_winningThrows 39 [.ref y0, .ref y1, .int y2, dum, .long q16, dum, .long x6, dum, .int x8] [] h r h' := by
        refine e_lload dX11_winningThrows_39 rfl ?_
        replace H := ob H; obtain ⟨q19, c20, H⟩ := H
        refine s1 lmX11_328 lsX11_nextLot msX11_nextLot dX11_winningThrows_41 (t_X11_nextLot (d + 4) c20) rfl (Nat.le_of_ble_eq_true rfl) (Nat.le_refl _) ?_
        refine e_lstore dX11_winningThrows_44 (Nat.le_of_ble_eq_true rfl) rfl rfl ?_
        refine e_iinc dX11_winningThrows_46 rfl (ii_ (by decide : Int32.ofInt (1) = (1 : Int32))) (Nat.le_of_ble_eq_true rfl) rfl rfl ?_
        refine e_goto (tgt := 12) dX11_winningThrows_49 (by decide) ?_
        exact e_wk (lk1 (lk1 (lk1 (lk1 (lk1 (lk1 (lk1 (lk1 (lk1 lkn))))))))) (ih H kE)
      replace H := c18
      refine e_ifB_eq (tgt := 39) dX11_winningThrows_27 (by decide) (fun c15 => ?_) (fun c15 => ?_)
      · replace H := of_ (nb c15) H
        obtain rfl := Option.some.inj H
        exact e_wk (lk1 (lk1 (lk1 (lk1 (lk1 (lk1 (lk1 (lk1 (lk1 lkn))))))))) k17
      · replace H := ot c15 H
        refine e_lload dX11_winningThrows_30 rfl ?_
        refine e_lconst (v := (1 : Int64)) dX11_winningThrows_32 (by decide) ?_
        refine e_iload dX11_winningThrows_33 rfl ?_
        refine e_lshl dX11_winningThrows_35 ?_
        refine e_lor dX11_winningThrows_36 ?_
        refine e_lstore dX11_winningThrows_37 (Nat.le_of_ble_eq_true rfl) rfl rfl ?_
        obtain rfl := Option.some.inj H
        exact e_wk (lk1 (lk1 (lk1 (lk1 (lk1 (lk1 (lk1 (lk1 (lk1 lkn))))))))) k17
def f_X11_winningThrows (p0 : Nat) (p1 : Nat) (p2 : Int32) (p3 : Int32) (h : HS) : Option Int64 := (Option.bind (f_X11_firstLot p3) (fun q1 => (Option.bind (l_X11_winningThrows_12 p0 p1 p2 h 1000 (0 : Int64) q1 (0 : Int32)) (fun q21 => (some q21)))))
set_option maxHeartbeats 4000000 in
set_option maxRecDepth 20000 in
theorem t_X11_winningThrows {G : GE} (d : Nat) {p0 : Nat} {p1 : Nat} {p2 : Int32} {p3 : Int32} {h : HS} {q : Int64} (H : f_X11_winningThrows p0 p1 p2 p3 h = some q) : CE G (d + 5) yX11_winningThrows miX11_winningThrows [.ref p0, .ref p1, .int p2, .int p3] h (some (.long q)) (h) := by
  unfold f_X11_winningThrows at H
  refine ce_of rfl (by decide) (fun q => by first | rfl | cases q) (Nat.le_of_ble_eq_true rfl) rfl ?_
  refine e_lconst (v := (0 : Int64)) dX11_winningThrows_0 (by decide) ?_
  refine e_lstore dX11_winningThrows_1 (Nat.le_of_ble_eq_true rfl) rfl rfl ?_
  refine e_iload_n dX11_winningThrows_3 rfl ?_
  replace H := ob H; obtain ⟨q1, c2, H⟩ := H
  refine s1 lmX11_231 lsX11_firstLot msX11_firstLot dX11_winningThrows_4 (t_X11_firstLot (d + 4) c2) rfl (Nat.le_of_ble_eq_true rfl) (Nat.le_refl _) ?_
  refine e_lstore dX11_winningThrows_7 (Nat.le_of_ble_eq_true rfl) rfl rfl ?_
  refine e_iconst (v := (0 : Int32)) dX11_winningThrows_9 (by decide) ?_
  refine e_istore dX11_winningThrows_10 (Nat.le_of_ble_eq_true rfl) rfl rfl ?_
  replace H := ob H; obtain ⟨q21, c22, H⟩ := H
  refine e_wk (lk1 (lk1 (lk1 (lk0 (lk1 (lk1 (lk1 (lk1 (lk1 lkn))))))))) (w_X11_winningThrows_12 d 1000 c22 ?_)
  refine e_lload dX11_winningThrows_52 rfl ?_
  obtain rfl := Option.some.inj H
  exact z_lret rfl dX11_winningThrows_54 rfl rfl
-- X11_goesOn
def f_X11_goesOn (p1 : Int32) (p2 : Int32) (h : HS) : Option (Bool × HS) := (Option.bind (f_X11_isIn p2 (0 : Int32) (39 : Int32)) (fun q1 => (if q1 = true then (if ixb p2 40 = true then (Option.bind (if ((hL h 52 p2.toNatClampNeg) &&& ((1 : Int64) <<< (p1.toInt64 &&& 63))) = (0 : Int64) then (if ixb p2 40 = true then (if ixb p2 40 = true then (if ixb p2 40 = true then (Option.bind (f_X11_ruleSays (0 : Int32) p1 p2 (sL h 52 p2.toNatClampNeg ((hL h 52 p2.toNatClampNeg) ||| ((1 : Int64) <<< (p1.toInt64 &&& 63))))) (fun q11 => (if q11.1 = 0 then (if ixb p2 40 = true then (some (sL q11.2 53 p2.toNatClampNeg ((hL (sL h 52 p2.toNatClampNeg ((hL h 52 p2.toNatClampNeg) ||| ((1 : Int64) <<< (p1.toInt64 &&& 63)))) 53 p2.toNatClampNeg) ||| (0 : Int64)))) else none) else (if ixb p2 40 = true then (some (sL q11.2 53 p2.toNatClampNeg ((hL (sL h 52 p2.toNatClampNeg ((hL h 52 p2.toNatClampNeg) ||| ((1 : Int64) <<< (p1.toInt64 &&& 63)))) 53 p2.toNatClampNeg) ||| ((1 : Int64) <<< (p1.toInt64 &&& 63))))) else none)))) else none) else none) else none) else (some h)) (fun q6 => (if ixb p2 40 = true then (if ((hL q6 53 p2.toNatClampNeg) &&& ((1 : Int64) <<< (p1.toInt64 &&& 63))) = (0 : Int64) then (some (false, q6)) else (some (true, q6))) else none))) else none) else (some (false, h)))))
set_option maxHeartbeats 4000000 in
set_option maxRecDepth 20000 in
theorem p_X11_goesOn {p1 : Int32} {p2 : Int32} {h : HS} {q : (Bool × HS)} (H : f_X11_goesOn p1 p2 h = some q) : Pr h q.2 := by
  unfold f_X11_goesOn at H
  replace H := ob H; obtain ⟨q1, c2, H⟩ := H
  replace H := oi H; obtain ⟨c3, H⟩ | ⟨c3, H⟩ := H
  · replace H := og H; obtain ⟨g4, H⟩ := H
    replace H := ob H; obtain ⟨q6, c18, H⟩ := H
    have e19 : Pr h q6 := by
      replace H := c18
      replace H := oi H; obtain ⟨c5, H⟩ | ⟨c5, H⟩ := H
      · replace H := og H; obtain ⟨g8, H⟩ := H
        replace H := og H; obtain ⟨g9, H⟩ := H
        replace H := og H; obtain ⟨g10, H⟩ := H
        replace H := ob H; obtain ⟨q11, c12, H⟩ := H
        have e13 := p_X11_ruleSays c12
        replace H := oi H; obtain ⟨c15, H⟩ | ⟨c15, H⟩ := H
        · replace H := og H; obtain ⟨g16, H⟩ := H
          obtain rfl := Option.some.inj H
          exact (((Pr.rf.sL).tr e13).sL)
        · replace H := og H; obtain ⟨g17, H⟩ := H
          obtain rfl := Option.some.inj H
          exact (((Pr.rf.sL).tr e13).sL)
      · obtain rfl := Option.some.inj H
        exact Pr.rf
    replace H := og H; obtain ⟨g21, H⟩ := H
    replace H := oi H; obtain ⟨c22, H⟩ | ⟨c22, H⟩ := H
    · obtain rfl := Option.some.inj H
      exact e19
    · obtain rfl := Option.some.inj H
      exact e19
  · obtain rfl := Option.some.inj H
    exact Pr.rf
set_option maxHeartbeats 4000000 in
set_option maxRecDepth 20000 in
theorem t_X11_goesOn {G : GE} (d : Nat) {p1 : Int32} {p2 : Int32} {h : HS} {q : (Bool × HS)} (hY : LY TX h) (H : f_X11_goesOn p1 p2 h = some q) : CE G (d + 4) yX11_goesOn miX11_goesOn [.ref 32, .int p1, .int p2] h (some (.int (b2i q.1))) (q.2) := by
  unfold f_X11_goesOn at H
  refine ce_of rfl (by decide) (fun q => by first | rfl | cases q) (Nat.le_of_ble_eq_true rfl) rfl ?_
  refine e_iload_n dX11_goesOn_0 rfl ?_
  refine e_iconst (v := (0 : Int32)) dX11_goesOn_1 (by decide) ?_
  refine e_bipush (v := (39 : Int32)) dX11_goesOn_2 (by decide) ?_
  replace H := ob H; obtain ⟨q1, c2, H⟩ := H
  refine s1 lmX11_106 lsX11_isIn msX11_isIn dX11_goesOn_4 (t_X11_isIn (d + 3) c2) rfl (Nat.le_of_ble_eq_true rfl) (Nat.le_refl _) ?_
  refine e_ifB_ne (tgt := 12) dX11_goesOn_7 (by decide) (fun c3 => ?_) (fun c3 => ?_)
  · replace H := ot c3 H
    refine e_lconst (v := (1 : Int64)) dX11_goesOn_12 (by decide) ?_
    refine e_iload_n dX11_goesOn_13 rfl ?_
    refine e_lshl dX11_goesOn_14 ?_
    refine e_lstore_n dX11_goesOn_15 (Nat.le_of_ble_eq_true rfl) rfl rfl ?_
    refine g_aload_n dX11_goesOn_16 rfl rfl ?_
    refine e_getR (hY.t 0 rfl) flX11_79_12 dX11_goesOn_17 rfl (hY.r 13 rfl) ?_
    refine e_iload_n dX11_goesOn_20 rfl ?_
    replace H := og H; obtain ⟨g4, H⟩ := H
    refine e_lald (hY.t 20 rfl) (ixb_y (hY.n 20 rfl) g4) dX11_goesOn_21 ?_
    refine e_lload_n dX11_goesOn_22 rfl ?_
    refine e_land dX11_goesOn_23 ?_
    refine e_lconst (v := (0 : Int64)) dX11_goesOn_24 (by decide) ?_
    replace H := ob H; obtain ⟨q6, c18, H⟩ := H
    have e19 : Pr h q6 := by
      replace H := c18
      replace H := oi H; obtain ⟨c5, H⟩ | ⟨c5, H⟩ := H
      · replace H := og H; obtain ⟨g8, H⟩ := H
        replace H := og H; obtain ⟨g9, H⟩ := H
        replace H := og H; obtain ⟨g10, H⟩ := H
        replace H := ob H; obtain ⟨q11, c12, H⟩ := H
        have e13 := p_X11_ruleSays c12
        replace H := oi H; obtain ⟨c15, H⟩ | ⟨c15, H⟩ := H
        · replace H := og H; obtain ⟨g16, H⟩ := H
          obtain rfl := Option.some.inj H
          exact (((Pr.rf.sL).tr e13).sL)
        · replace H := og H; obtain ⟨g17, H⟩ := H
          obtain rfl := Option.some.inj H
          exact (((Pr.rf.sL).tr e13).sL)
      · obtain rfl := Option.some.inj H
        exact Pr.rf
    have hY20 := hY.pr okX e19
    have k7 : En G (d + 4) miX11_goesOn 63 [.ref 32, dum, .int p2, .long ((1 : Int64) <<< (p1.toInt64 &&& 63)), dum] [] q6 (some (.int (b2i q.1))) (q.2) := by
      refine g_aload_n dX11_goesOn_63 rfl rfl ?_
      refine e_getR (hY20.t 0 rfl) flX11_83_12 dX11_goesOn_64 rfl (hY20.r 14 rfl) ?_
      refine e_iload_n dX11_goesOn_67 rfl ?_
      replace H := og H; obtain ⟨g21, H⟩ := H
      refine e_lald (hY20.t 21 rfl) (ixb_y (hY20.n 21 rfl) g21) dX11_goesOn_68 ?_
      refine e_lload_n dX11_goesOn_69 rfl ?_
      refine e_land dX11_goesOn_70 ?_
      refine e_lconst (v := (0 : Int64)) dX11_goesOn_71 (by decide) ?_
      refine e_lc_eq (tgt := 80) dX11_goesOn_72 dX11_goesOn_73 (by decide) (fun c22 => ?_) (fun c22 => ?_)
      · replace H := ot c22 H
        refine e_iconst (v := (0 : Int32)) dX11_goesOn_80 (by decide) ?_
        obtain rfl := Option.some.inj H
        exact z_iret rfl rfl dX11_goesOn_81 rfl rfl
      · replace H := of_ c22 H
        refine e_iconst (v := (1 : Int32)) dX11_goesOn_76 (by decide) ?_
        refine e_goto (tgt := 81) dX11_goesOn_77 (by decide) ?_
        obtain rfl := Option.some.inj H
        exact z_iret rfl rfl dX11_goesOn_81 rfl rfl
    replace H := c18
    refine e_lc_ne (tgt := 63) dX11_goesOn_25 dX11_goesOn_26 (by decide) (fun c5 => ?_) (fun c5 => ?_)
    · replace H := of_ c5 H
      obtain rfl := Option.some.inj H
      exact e_wk (lk1 (lk0 (lk1 (lk1 (lk1 lkn))))) k7
    · replace H := ot c5 H
      refine g_aload_n dX11_goesOn_29 rfl rfl ?_
      refine e_getR (hY.t 0 rfl) flX11_79_12 dX11_goesOn_30 rfl (hY.r 13 rfl) ?_
      refine e_iload_n dX11_goesOn_33 rfl ?_
      refine e_dup2 dX11_goesOn_34 rfl rfl ?_
      replace H := og H; obtain ⟨g8, H⟩ := H
      refine e_lald (hY.t 20 rfl) (ixb_y (hY.n 20 rfl) g8) dX11_goesOn_35 ?_
      refine e_lload_n dX11_goesOn_36 rfl ?_
      refine e_lor dX11_goesOn_37 ?_
      replace H := og H; obtain ⟨g9, H⟩ := H
      refine e_last (hY.t 20 rfl) (ixb_y (hY.n 20 rfl) g9) dX11_goesOn_38 ?_
      refine g_aload_n dX11_goesOn_39 rfl rfl ?_
      refine e_getR ((hY.sL).t 0 rfl) flX11_83_12 dX11_goesOn_40 rfl ((hY.sL).r 14 rfl) ?_
      refine e_iload_n dX11_goesOn_43 rfl ?_
      refine e_dup2 dX11_goesOn_44 rfl rfl ?_
      replace H := og H; obtain ⟨g10, H⟩ := H
      refine e_lald ((hY.sL).t 21 rfl) (ixb_y ((hY.sL).n 21 rfl) g10) dX11_goesOn_45 ?_
      refine g_aload_n dX11_goesOn_46 rfl rfl ?_
      refine e_iconst (v := (0 : Int32)) dX11_goesOn_47 (by decide) ?_
      refine e_iload_n dX11_goesOn_48 rfl ?_
      refine e_iload_n dX11_goesOn_49 rfl ?_
      replace H := ob H; obtain ⟨q11, c12, H⟩ := H
      refine v1 ((hY.sL).t 0 rfl) (by decide) rfl rfl lmX11_299 liX11_ruleSays lvX11_X11_ruleSays msX11_ruleSays dX11_goesOn_50 (t_X11_ruleSays (d + 0) (hY.sL) c12) rfl (Nat.le_of_ble_eq_true rfl) (Nat.le_refl _) ?_
      have e13 := p_X11_ruleSays c12
      have hY14 := (hY.sL).pr okX e13
      refine e_if_eq (tgt := 60) dX11_goesOn_53 (by decide) (fun c15 => ?_) (fun c15 => ?_)
      · replace H := ot c15 H
        refine e_lconst (v := (0 : Int64)) dX11_goesOn_60 (by decide) ?_
        refine e_lor dX11_goesOn_61 ?_
        replace H := og H; obtain ⟨g16, H⟩ := H
        refine e_last (hY14.t 21 rfl) (ixb_y (hY14.n 21 rfl) g16) dX11_goesOn_62 ?_
        obtain rfl := Option.some.inj H
        exact e_wk (lk1 (lk0 (lk1 (lk1 (lk1 lkn))))) k7
      · replace H := of_ c15 H
        refine e_lload_n dX11_goesOn_56 rfl ?_
        refine e_goto (tgt := 61) dX11_goesOn_57 (by decide) ?_
        refine e_lor dX11_goesOn_61 ?_
        replace H := og H; obtain ⟨g17, H⟩ := H
        refine e_last (hY14.t 21 rfl) (ixb_y (hY14.n 21 rfl) g17) dX11_goesOn_62 ?_
        obtain rfl := Option.some.inj H
        exact e_wk (lk1 (lk0 (lk1 (lk1 (lk1 lkn))))) k7
  · replace H := of_ (nb c3) H
    refine e_iconst (v := (0 : Int32)) dX11_goesOn_10 (by decide) ?_
    obtain rfl := Option.some.inj H
    exact z_iret rfl rfl dX11_goesOn_11 rfl rfl
-- X11_playOut
def l_X11_playOut_9 (y1 : Nat) (y3 : Int64)  : Nat → Int32 → Int32 → Int32 → HS → Option (Int32 × Int32 × Int32 × HS)
  | 0, _, _, _, _ => none
  | n + 1, x5, x6, x7, h => (if (40 : Int32) ≤ x5 then (some (x5, x6, x7, h)) else (if isSt (hT h y1) = true then (if x7 < (hI h y1 4) then (some (x5, x6, x7, h)) else (Option.bind (f_X11_goesOn x6 x5 h) (fun q17 => (if q17.1 = true then (Option.bind (if ((y3 >>> (x5.toInt64 &&& 63)) &&& (1 : Int64)) = (1 : Int64) then (some (1 : Int32)) else (some (0 : Int32))) (fun q24 => (l_X11_playOut_9 y1 y3 n (x5 + (1 : Int32)) (x6 + q24) (x7 - (hI q17.2 y1 4)) q17.2))) else (some (x5, x6, x7, q17.2)))))) else none))
set_option maxHeartbeats 4000000 in
set_option maxRecDepth 20000 in
theorem p_X11_playOut_9 {y1 : Nat} {y3 : Int64} : ∀ (n : Nat) {x5 : Int32} {x6 : Int32} {x7 : Int32} {h : HS} {q : (Int32 × Int32 × Int32 × HS)}, l_X11_playOut_9 y1 y3 n x5 x6 x7 h = some q → Pr h q.2.2.2 := by
  intro n
  induction n with
  | zero => intro x5 x6 x7 h q H; exact nz H
  | succ n ih =>
    intro x5 x6 x7 h q H
    unfold l_X11_playOut_9 at H
    replace H := oi H; obtain ⟨c14, H⟩ | ⟨c14, H⟩ := H
    · obtain rfl := Option.some.inj H
      exact Pr.rf
    · replace H := og H; obtain ⟨g15, H⟩ := H
      replace H := oi H; obtain ⟨c16, H⟩ | ⟨c16, H⟩ := H
      · obtain rfl := Option.some.inj H
        exact Pr.rf
      · replace H := ob H; obtain ⟨q17, c18, H⟩ := H
        have e19 := p_X11_goesOn c18
        replace H := oi H; obtain ⟨c22, H⟩ | ⟨c22, H⟩ := H
        · replace H := ob H; obtain ⟨q24, c26, H⟩ := H
          exact e19.tr (ih H)
        · obtain rfl := Option.some.inj H
          exact e19
set_option maxHeartbeats 4000000 in
set_option maxRecDepth 20000 in
theorem w_X11_playOut_9 {G : GE} (d : Nat) {y1 : Nat} {y3 : Int64} {r : Option Value} {h' : HS}  : ∀ (n : Nat) {x5 : Int32} {x6 : Int32} {x7 : Int32} {h : HS} {q : (Int32 × Int32 × Int32 × HS)}, LY TX h → l_X11_playOut_9 y1 y3 n x5 x6 x7 h = some q → En G (d + 5) miX11_playOut 72 [.ref 32, .ref y1, dum, dum, dum, .int q.1, .int q.2.1, .int q.2.2.1] [] q.2.2.2 r h' → En G (d + 5) miX11_playOut 9 [.ref 32, .ref y1, dum, .long y3, dum, .int x5, .int x6, .int x7] [] h r h' := by
  intro n
  induction n with
  | zero => intro x5 x6 x7 h q hYTX H kE; exact nz H
  | succ n ih =>
    intro x5 x6 x7 h q hYTX H kE
    unfold l_X11_playOut_9 at H
    refine e_iload dX11_playOut_9 rfl ?_
    refine e_bipush (v := (40 : Int32)) dX11_playOut_11 (by decide) ?_
    refine e_icmp_ge (tgt := 72) dX11_playOut_13 (by decide) (fun c14 => ?_) (fun c14 => ?_)
    · replace H := ot c14 H
      obtain rfl := Option.some.inj H
      exact e_wk (lk1 (lk1 (lk1 (lk0 (lk1 (lk1 (lk1 (lk1 lkn)))))))) kE
    · replace H := of_ c14 H
      refine e_iload dX11_playOut_16 rfl ?_
      refine g_aload_n dX11_playOut_18 rfl rfl ?_
      replace H := og H; obtain ⟨g15, H⟩ := H
      refine gmX11_151_isSt g15 dX11_playOut_19 ?_
      refine e_icmp_lt (tgt := 72) dX11_playOut_22 (by decide) (fun c16 => ?_) (fun c16 => ?_)
      · replace H := ot c16 H
        obtain rfl := Option.some.inj H
        exact e_wk (lk1 (lk1 (lk1 (lk0 (lk1 (lk1 (lk1 (lk1 lkn)))))))) kE
      · replace H := of_ c16 H
        refine g_aload_n dX11_playOut_25 rfl rfl ?_
        refine e_iload dX11_playOut_26 rfl ?_
        refine e_iload dX11_playOut_28 rfl ?_
        replace H := ob H; obtain ⟨q17, c18, H⟩ := H
        refine v1 (hYTX.t 0 rfl) (by decide) rfl rfl lmX11_332 liX11_goesOn lvX11_X11_goesOn msX11_goesOn dX11_playOut_30 (t_X11_goesOn (d + 0) hYTX c18) rfl (Nat.le_of_ble_eq_true rfl) (Nat.le_refl _) ?_
        have e19 := p_X11_goesOn c18
        have hY20 := hYTX.pr okX e19
        have f21 := e19.b g15 rfl
        refine e_ifB_eq (tgt := 72) dX11_playOut_33 (by decide) (fun c22 => ?_) (fun c22 => ?_)
        · replace H := of_ (nb c22) H
          obtain rfl := Option.some.inj H
          exact e_wk (lk1 (lk1 (lk1 (lk0 (lk1 (lk1 (lk1 (lk1 lkn)))))))) kE
        · replace H := ot c22 H
          refine e_iload dX11_playOut_36 rfl ?_
          refine e_lload_n dX11_playOut_38 rfl ?_
          refine e_iload dX11_playOut_39 rfl ?_
          refine e_lshr dX11_playOut_41 ?_
          refine e_lconst (v := (1 : Int64)) dX11_playOut_42 (by decide) ?_
          refine e_land dX11_playOut_43 ?_
          refine e_lconst (v := (1 : Int64)) dX11_playOut_44 (by decide) ?_
          replace H := ob H; obtain ⟨q24, c26, H⟩ := H
          have k25 : En G (d + 5) miX11_playOut 54 [.ref 32, .ref y1, dum, .long y3, dum, .int x5, dum, .int x7] [.int q24, .int x6] q17.2 r h' := by
            refine e_iadd dX11_playOut_54 ?_
            refine e_istore dX11_playOut_55 (Nat.le_of_ble_eq_true rfl) rfl rfl ?_
            refine e_iload dX11_playOut_57 rfl ?_
            refine g_aload_n dX11_playOut_59 rfl rfl ?_
            refine gmX11_151_isSt f21 dX11_playOut_60 ?_
            refine e_isub dX11_playOut_63 ?_
            refine e_istore dX11_playOut_64 (Nat.le_of_ble_eq_true rfl) rfl rfl ?_
            refine e_iinc dX11_playOut_66 rfl (ii_ (by decide : Int32.ofInt (1) = (1 : Int32))) (Nat.le_of_ble_eq_true rfl) rfl rfl ?_
            refine e_goto (tgt := 9) dX11_playOut_69 (by decide) ?_
            exact e_wk (lk1 (lk1 (lk1 (lk1 (lk1 (lk1 (lk1 (lk1 lkn)))))))) (ih hY20 H kE)
          replace H := c26
          refine e_lc_ne (tgt := 53) dX11_playOut_45 dX11_playOut_46 (by decide) (fun c23 => ?_) (fun c23 => ?_)
          · replace H := of_ c23 H
            refine e_iconst (v := (0 : Int32)) dX11_playOut_53 (by decide) ?_
            obtain rfl := Option.some.inj H
            exact e_wk (lk1 (lk1 (lk1 (lk1 (lk1 (lk1 (lk0 (lk1 lkn)))))))) k25
          · replace H := ot c23 H
            refine e_iconst (v := (1 : Int32)) dX11_playOut_49 (by decide) ?_
            refine e_goto (tgt := 54) dX11_playOut_50 (by decide) ?_
            obtain rfl := Option.some.inj H
            exact e_wk (lk1 (lk1 (lk1 (lk1 (lk1 (lk1 (lk0 (lk1 lkn)))))))) k25
def f_X11_playOut (p1 : Nat) (p2 : Int32) (p3 : Int64) (h : HS) : Option HS := (Option.bind (l_X11_playOut_9 p1 p3 1000 (0 : Int32) (0 : Int32) p2 h) (fun q27 => (if isSt (hT (sI (sI (sI q27.2.2.2 51 (0 : Int32).toNatClampNeg q27.1) 51 (1 : Int32).toNatClampNeg q27.2.1) 51 (2 : Int32).toNatClampNeg q27.2.2.1) p1) = true then (bh (sI (sI (sI (sI q27.2.2.2 51 (0 : Int32).toNatClampNeg q27.1) 51 (1 : Int32).toNatClampNeg q27.2.1) 51 (2 : Int32).toNatClampNeg q27.2.2.1) 51 (3 : Int32).toNatClampNeg ((q27.1 * (hI (sI (sI (sI q27.2.2.2 51 (0 : Int32).toNatClampNeg q27.1) 51 (1 : Int32).toNatClampNeg q27.2.1) 51 (2 : Int32).toNatClampNeg q27.2.2.1) p1 4)) - (q27.2.1 * (hI (sI (sI (sI q27.2.2.2 51 (0 : Int32).toNatClampNeg q27.1) 51 (1 : Int32).toNatClampNeg q27.2.1) 51 (2 : Int32).toNatClampNeg q27.2.2.1) p1 5)))) (fun h32 => (some h32))) else none)))
set_option maxHeartbeats 4000000 in
set_option maxRecDepth 20000 in
theorem p_X11_playOut {p1 : Nat} {p2 : Int32} {p3 : Int64} {h : HS} {q : HS} (H : f_X11_playOut p1 p2 p3 h = some q) : Pr h q := by
  unfold f_X11_playOut at H
  replace H := ob H; obtain ⟨q27, c28, H⟩ := H
  have e29 := p_X11_playOut_9 1000 c28
  replace H := og H; obtain ⟨g31, H⟩ := H
  replace H := obh H; obtain ⟨h32, e33, H⟩ := H
  obtain rfl := Option.some.inj H
  exact (kP e33 ((((e29.sI).sI).sI).sI))
set_option maxHeartbeats 4000000 in
set_option maxRecDepth 20000 in
theorem t_X11_playOut {G : GE} (d : Nat) {p1 : Nat} {p2 : Int32} {p3 : Int64} {h : HS} {q : HS} (hY : LY TX h) (H : f_X11_playOut p1 p2 p3 h = some q) : CE G (d + 5) yX11_playOut miX11_playOut [.ref 32, .ref p1, .int p2, .long p3] h (none) (q) := by
  unfold f_X11_playOut at H
  refine ce_of rfl (by decide) (fun q => by first | rfl | cases q) (Nat.le_of_ble_eq_true rfl) rfl ?_
  refine e_iconst (v := (0 : Int32)) dX11_playOut_0 (by decide) ?_
  refine e_istore dX11_playOut_1 (Nat.le_of_ble_eq_true rfl) rfl rfl ?_
  refine e_iconst (v := (0 : Int32)) dX11_playOut_3 (by decide) ?_
  refine e_istore dX11_playOut_4 (Nat.le_of_ble_eq_true rfl) rfl rfl ?_
  refine e_iload_n dX11_playOut_6 rfl ?_
  refine e_istore dX11_playOut_7 (Nat.le_of_ble_eq_true rfl) rfl rfl ?_
  replace H := ob H; obtain ⟨q27, c28, H⟩ := H
  have e29 := p_X11_playOut_9 1000 c28
  have hY30 := hY.pr okX e29
  refine e_wk (lk1 (lk1 (lk0 (lk1 (lk1 (lk1 (lk1 (lk1 lkn)))))))) (w_X11_playOut_9 d 1000 hY c28 ?_)
  refine g_aload_n dX11_playOut_72 rfl rfl ?_
  refine e_getR (hY30.t 0 rfl) flX11_76_12 dX11_playOut_73 rfl (hY30.r 12 rfl) ?_
  refine e_iconst (v := (0 : Int32)) dX11_playOut_76 (by decide) ?_
  refine e_iload dX11_playOut_77 rfl ?_
  refine e_iast (hY30.t 19 rfl) (ixb_y (hY30.n 19 rfl) (by decide)) dX11_playOut_79 ?_
  refine g_aload_n dX11_playOut_80 rfl rfl ?_
  refine e_getR ((hY30.sI).t 0 rfl) flX11_76_12 dX11_playOut_81 rfl ((hY30.sI).r 12 rfl) ?_
  refine e_iconst (v := (1 : Int32)) dX11_playOut_84 (by decide) ?_
  refine e_iload dX11_playOut_85 rfl ?_
  refine e_iast ((hY30.sI).t 19 rfl) (ixb_y ((hY30.sI).n 19 rfl) (by decide)) dX11_playOut_87 ?_
  refine g_aload_n dX11_playOut_88 rfl rfl ?_
  refine e_getR (((hY30.sI).sI).t 0 rfl) flX11_76_12 dX11_playOut_89 rfl (((hY30.sI).sI).r 12 rfl) ?_
  refine e_iconst (v := (2 : Int32)) dX11_playOut_92 (by decide) ?_
  refine e_iload dX11_playOut_93 rfl ?_
  refine e_iast (((hY30.sI).sI).t 19 rfl) (ixb_y (((hY30.sI).sI).n 19 rfl) (by decide)) dX11_playOut_95 ?_
  refine g_aload_n dX11_playOut_96 rfl rfl ?_
  refine e_getR ((((hY30.sI).sI).sI).t 0 rfl) flX11_76_12 dX11_playOut_97 rfl ((((hY30.sI).sI).sI).r 12 rfl) ?_
  refine e_iconst (v := (3 : Int32)) dX11_playOut_100 (by decide) ?_
  refine e_iload dX11_playOut_101 rfl ?_
  refine g_aload_n dX11_playOut_103 rfl rfl ?_
  replace H := og H; obtain ⟨g31, H⟩ := H
  refine gmX11_151_isSt g31 dX11_playOut_104 ?_
  refine e_imul dX11_playOut_107 ?_
  refine e_iload dX11_playOut_108 rfl ?_
  refine g_aload_n dX11_playOut_110 rfl rfl ?_
  refine gmX11_154_isSt g31 dX11_playOut_111 ?_
  refine e_imul dX11_playOut_114 ?_
  refine e_isub dX11_playOut_115 ?_
  refine e_iast ((((hY30.sI).sI).sI).t 19 rfl) (ixb_y ((((hY30.sI).sI).sI).n 19 rfl) (by decide)) dX11_playOut_116 ?_
  replace H := obh H; obtain ⟨h32, e33, H⟩ := H
  refine e_hq e33 ?_
  have hY34 := kY e33 ((((hY30.sI).sI).sI).sI)
  have f35 := kB e33 (kIb g31)
  obtain rfl := Option.some.inj H
  exact z_vret rfl dX11_playOut_117 rfl rfl
-- X11_player
def f_X11_player (p1 : Int32) (p2 : Int32) (p3 : Int32) (p4 : Int32) (p5 : Int32) (h : HS) : Option (Int64 × HS) := (Option.bind (f_X11_isPlayer p1 p2 p3 p4 h) (fun q1 => (if q1 = true then (Option.bind (f_X11_isIn p5 (0 : Int32) (639 : Int32)) (fun q4 => (if q4 = true then (Option.bind (f_X11_stallAt (p1 / (10 : Int32)) h) (fun q7 => (om q7 (Option.bind (f_X11_handAt (p1 - p1 / (10 : Int32) * (10 : Int32)) h) (fun q11 => (om q11 (some ((-4611686018427387904 : Int64), h)) (fun b14 => (some ((-4611686018427387904 : Int64), h)))))) (fun b10 => (Option.bind (f_X11_handAt (p1 - p1 / (10 : Int32) * (10 : Int32)) h) (fun q17 => (om q17 (some ((-4611686018427387904 : Int64), h)) (fun b20 => (if (p5 - p5 / (10 : Int32) * (10 : Int32)) < (4 : Int32) then (Option.bind (f_X11_askPlayer b10 b20 p2 h) (fun q26 => (Option.bind (f_X11_winningThrows b10 b20 p2 p3 q26) (fun q30 => (Option.bind (f_X11_playOut b10 p4 (q30 ||| (p5 / (10 : Int32)).toInt64) q26) (fun q32 => (if ixb (p5 - p5 / (10 : Int32) * (10 : Int32)) 4 = true then (some ((hI q32 51 (p5 - p5 / (10 : Int32) * (10 : Int32)).toNatClampNeg).toInt64, q32)) else none))))))) else (some ((-4611686018427387904 : Int64), h))))))))))) else (some ((-4611686018427387904 : Int64), h))))) else (some ((-4611686018427387904 : Int64), h)))))
set_option maxHeartbeats 4000000 in
set_option maxRecDepth 20000 in
theorem p_X11_player {p1 : Int32} {p2 : Int32} {p3 : Int32} {p4 : Int32} {p5 : Int32} {h : HS} {q : (Int64 × HS)} (H : f_X11_player p1 p2 p3 p4 p5 h = some q) : Pr h q.2 := by
  unfold f_X11_player at H
  replace H := ob H; obtain ⟨q1, c2, H⟩ := H
  replace H := oi H; obtain ⟨c3, H⟩ | ⟨c3, H⟩ := H
  · replace H := ob H; obtain ⟨q4, c5, H⟩ := H
    replace H := oi H; obtain ⟨c6, H⟩ | ⟨c6, H⟩ := H
    · replace H := ob H; obtain ⟨q7, c8, H⟩ := H
      replace H := oom H; obtain ⟨e9, H⟩ | ⟨b10, e9, H⟩ := H
      · replace H := ob H; obtain ⟨q11, c12, H⟩ := H
        replace H := oom H; obtain ⟨e13, H⟩ | ⟨b14, e13, H⟩ := H
        · obtain rfl := Option.some.inj H
          exact Pr.rf
        · obtain rfl := Option.some.inj H
          exact Pr.rf
      · replace H := ob H; obtain ⟨q17, c18, H⟩ := H
        replace H := oom H; obtain ⟨e19, H⟩ | ⟨b20, e19, H⟩ := H
        · obtain rfl := Option.some.inj H
          exact Pr.rf
        · replace H := oi H; obtain ⟨c25, H⟩ | ⟨c25, H⟩ := H
          · replace H := ob H; obtain ⟨q26, c27, H⟩ := H
            have e28 := p_X11_askPlayer c27
            replace H := ob H; obtain ⟨q30, c31, H⟩ := H
            replace H := ob H; obtain ⟨q32, c33, H⟩ := H
            have e34 := p_X11_playOut c33
            replace H := og H; obtain ⟨g36, H⟩ := H
            obtain rfl := Option.some.inj H
            exact (e28.tr e34)
          · obtain rfl := Option.some.inj H
            exact Pr.rf
    · obtain rfl := Option.some.inj H
      exact Pr.rf
  · obtain rfl := Option.some.inj H
    exact Pr.rf
set_option maxHeartbeats 4000000 in
set_option maxRecDepth 20000 in
theorem t_X11_player {G : GE} (d : Nat) {p1 : Int32} {p2 : Int32} {p3 : Int32} {p4 : Int32} {p5 : Int32} {h : HS} {q : (Int64 × HS)} (hY : LY TX h) (H : f_X11_player p1 p2 p3 p4 p5 h = some q) : CE G (d + 7) yX11_player miX11_player [.ref 32, .int p1, .int p2, .int p3, .int p4, .int p5] h (some (.long q.1)) (q.2) := by
  unfold f_X11_player at H
  refine ce_of rfl (by decide) (fun q => by first | rfl | cases q) (Nat.le_of_ble_eq_true rfl) rfl ?_
  refine g_aload_n dX11_player_0 rfl rfl ?_
  refine e_iload_n dX11_player_1 rfl ?_
  refine e_iload_n dX11_player_2 rfl ?_
  refine e_iload_n dX11_player_3 rfl ?_
  refine e_iload dX11_player_4 rfl ?_
  replace H := ob H; obtain ⟨q1, c2, H⟩ := H
  refine v1 (hY.t 0 rfl) (by decide) rfl rfl lmX11_303 liX11_isPlayer lvX11_X11_isPlayer msX11_isPlayer dX11_player_6 (t_X11_isPlayer (d + 2) hY c2) rfl (Nat.le_of_ble_eq_true rfl) (Nat.le_refl _) ?_
  refine e_ifB_eq (tgt := 24) dX11_player_9 (by decide) (fun c3 => ?_) (fun c3 => ?_)
  · replace H := of_ (nb c3) H
    refine e_ldc2 (v := (-4611686018427387904 : Int64)) lkX11_189 dX11_player_24 ?_
    obtain rfl := Option.some.inj H
    exact z_lret rfl dX11_player_27 rfl rfl
  · replace H := ot c3 H
    refine e_iload dX11_player_12 rfl ?_
    refine e_iconst (v := (0 : Int32)) dX11_player_14 (by decide) ?_
    refine e_sipush (v := (639 : Int32)) dX11_player_15 (by decide) ?_
    replace H := ob H; obtain ⟨q4, c5, H⟩ := H
    refine s1 lmX11_106 lsX11_isIn msX11_isIn dX11_player_18 (t_X11_isIn (d + 6) c5) rfl (Nat.le_of_ble_eq_true rfl) (Nat.le_refl _) ?_
    refine e_ifB_ne (tgt := 28) dX11_player_21 (by decide) (fun c6 => ?_) (fun c6 => ?_)
    · replace H := ot c6 H
      refine e_iload dX11_player_28 rfl ?_
      refine e_bipush (v := (10 : Int32)) dX11_player_30 (by decide) ?_
      refine e_irem dX11_player_32 (by decide) ?_
      refine e_istore dX11_player_33 (Nat.le_of_ble_eq_true rfl) rfl rfl ?_
      refine g_aload_n dX11_player_35 rfl rfl ?_
      refine e_iload_n dX11_player_36 rfl ?_
      refine e_bipush (v := (10 : Int32)) dX11_player_37 (by decide) ?_
      refine e_idiv dX11_player_39 (by decide) ?_
      replace H := ob H; obtain ⟨q7, c8, H⟩ := H
      replace H := oom H; obtain ⟨e9, H⟩ | ⟨b10, e9, H⟩ := H
      · refine v1 (hY.t 0 rfl) (by decide) rfl rfl lmX11_122 liX11_stallAt lvX11_X11_stallAt msX11_stallAt dX11_player_40 (ceN e9 (t_X11_stallAt (d + 3) hY c8)) rfl (Nat.le_of_ble_eq_true rfl) (Nat.le_refl _) ?_
        refine g_astore dX11_player_43 (Nat.le_of_ble_eq_true rfl) rfl rfl rfl ?_
        refine g_aload_n dX11_player_45 rfl rfl ?_
        refine e_iload_n dX11_player_46 rfl ?_
        refine e_bipush (v := (10 : Int32)) dX11_player_47 (by decide) ?_
        refine e_irem dX11_player_49 (by decide) ?_
        replace H := ob H; obtain ⟨q11, c12, H⟩ := H
        replace H := oom H; obtain ⟨e13, H⟩ | ⟨b14, e13, H⟩ := H
        · refine v1 (hY.t 0 rfl) (by decide) rfl rfl lmX11_182 liX11_handAt lvX11_X11_handAt msX11_handAt dX11_player_50 (ceN e13 (t_X11_handAt (d + 3) hY c12)) rfl (Nat.le_of_ble_eq_true rfl) (Nat.le_refl _) ?_
          refine g_astore dX11_player_53 (Nat.le_of_ble_eq_true rfl) rfl rfl rfl ?_
          refine g_aload dX11_player_55 rfl rfl ?_
          refine e_ifnullN (tgt := 75) dX11_player_57 (by decide) ?_
          refine e_ldc2 (v := (-4611686018427387904 : Int64)) lkX11_189 dX11_player_75 ?_
          obtain rfl := Option.some.inj H
          exact z_lret rfl dX11_player_78 rfl rfl
        · refine v1 (hY.t 0 rfl) (by decide) rfl rfl lmX11_182 liX11_handAt lvX11_X11_handAt msX11_handAt dX11_player_50 (ceS e13 (t_X11_handAt (d + 3) hY c12)) rfl (Nat.le_of_ble_eq_true rfl) (Nat.le_refl _) ?_
          refine g_astore dX11_player_53 (Nat.le_of_ble_eq_true rfl) rfl rfl rfl ?_
          refine g_aload dX11_player_55 rfl rfl ?_
          refine e_ifnullN (tgt := 75) dX11_player_57 (by decide) ?_
          refine e_ldc2 (v := (-4611686018427387904 : Int64)) lkX11_189 dX11_player_75 ?_
          obtain rfl := Option.some.inj H
          exact z_lret rfl dX11_player_78 rfl rfl
      · refine v1 (hY.t 0 rfl) (by decide) rfl rfl lmX11_122 liX11_stallAt lvX11_X11_stallAt msX11_stallAt dX11_player_40 (ceS e9 (t_X11_stallAt (d + 3) hY c8)) rfl (Nat.le_of_ble_eq_true rfl) (Nat.le_refl _) ?_
        refine g_astore dX11_player_43 (Nat.le_of_ble_eq_true rfl) rfl rfl rfl ?_
        refine g_aload_n dX11_player_45 rfl rfl ?_
        refine e_iload_n dX11_player_46 rfl ?_
        refine e_bipush (v := (10 : Int32)) dX11_player_47 (by decide) ?_
        refine e_irem dX11_player_49 (by decide) ?_
        replace H := ob H; obtain ⟨q17, c18, H⟩ := H
        replace H := oom H; obtain ⟨e19, H⟩ | ⟨b20, e19, H⟩ := H
        · refine v1 (hY.t 0 rfl) (by decide) rfl rfl lmX11_182 liX11_handAt lvX11_X11_handAt msX11_handAt dX11_player_50 (ceN e19 (t_X11_handAt (d + 3) hY c18)) rfl (Nat.le_of_ble_eq_true rfl) (Nat.le_refl _) ?_
          refine g_astore dX11_player_53 (Nat.le_of_ble_eq_true rfl) rfl rfl rfl ?_
          refine g_aload dX11_player_55 rfl rfl ?_
          refine e_ifnull dX11_player_57 ?_
          refine g_aload dX11_player_60 rfl rfl ?_
          refine e_ifnullN (tgt := 75) dX11_player_62 (by decide) ?_
          refine e_ldc2 (v := (-4611686018427387904 : Int64)) lkX11_189 dX11_player_75 ?_
          obtain rfl := Option.some.inj H
          exact z_lret rfl dX11_player_78 rfl rfl
        · refine v1 (hY.t 0 rfl) (by decide) rfl rfl lmX11_182 liX11_handAt lvX11_X11_handAt msX11_handAt dX11_player_50 (ceS e19 (t_X11_handAt (d + 3) hY c18)) rfl (Nat.le_of_ble_eq_true rfl) (Nat.le_refl _) ?_
          refine g_astore dX11_player_53 (Nat.le_of_ble_eq_true rfl) rfl rfl rfl ?_
          refine g_aload dX11_player_55 rfl rfl ?_
          refine e_ifnull dX11_player_57 ?_
          refine g_aload dX11_player_60 rfl rfl ?_
          refine e_ifnull dX11_player_62 ?_
          refine e_iload dX11_player_65 rfl ?_
          refine g_aload_n dX11_player_67 rfl rfl ?_
          refine e_getR (hY.t 0 rfl) flX11_76_12 dX11_player_68 rfl (hY.r 12 rfl) ?_
          refine e_alen (hY.t 19 rfl) (by decide) dX11_player_71 ?_
          refine e_ci (y := (4 : Int32)) (by rw [(hY.n 19 rfl)]; rfl) ?_
          refine e_icmp_lt (tgt := 79) dX11_player_72 (by decide) (fun c25 => ?_) (fun c25 => ?_)
          · replace H := ot c25 H
            refine g_aload_n dX11_player_79 rfl rfl ?_
            refine g_aload dX11_player_80 rfl rfl ?_
            refine g_aload dX11_player_82 rfl rfl ?_
            refine e_iload_n dX11_player_84 rfl ?_
            replace H := ob H; obtain ⟨q26, c27, H⟩ := H
            refine v0 (hY.t 0 rfl) (by decide) rfl rfl lmX11_306 liX11_askPlayer lvX11_X11_askPlayer msX11_askPlayer dX11_player_85 (t_X11_askPlayer (d + 0) hY c27) rfl (Nat.le_of_ble_eq_true rfl) (Nat.le_refl _) ?_
            have e28 := p_X11_askPlayer c27
            have hY29 := hY.pr okX e28
            refine g_aload_n dX11_player_88 rfl rfl ?_
            refine g_aload dX11_player_89 rfl rfl ?_
            refine e_iload dX11_player_91 rfl ?_
            refine g_aload dX11_player_93 rfl rfl ?_
            refine g_aload dX11_player_95 rfl rfl ?_
            refine e_iload_n dX11_player_97 rfl ?_
            refine e_iload_n dX11_player_98 rfl ?_
            replace H := ob H; obtain ⟨q30, c31, H⟩ := H
            refine s1 lmX11_310 lsX11_winningThrows msX11_winningThrows dX11_player_99 (t_X11_winningThrows (d + 1) c31) rfl (Nat.le_of_ble_eq_true rfl) (Nat.le_refl _) ?_
            refine e_iload dX11_player_102 rfl ?_
            refine e_bipush (v := (10 : Int32)) dX11_player_104 (by decide) ?_
            refine e_idiv dX11_player_106 (by decide) ?_
            refine e_i2l dX11_player_107 ?_
            refine e_lor dX11_player_108 ?_
            replace H := ob H; obtain ⟨q32, c33, H⟩ := H
            refine v0 (hY29.t 0 rfl) (by decide) rfl rfl lmX11_314 liX11_playOut lvX11_X11_playOut msX11_playOut dX11_player_109 (t_X11_playOut (d + 1) hY29 c33) rfl (Nat.le_of_ble_eq_true rfl) (Nat.le_refl _) ?_
            have e34 := p_X11_playOut c33
            have hY35 := hY29.pr okX e34
            refine g_aload_n dX11_player_112 rfl rfl ?_
            refine e_getR (hY35.t 0 rfl) flX11_76_12 dX11_player_113 rfl (hY35.r 12 rfl) ?_
            refine e_iload dX11_player_116 rfl ?_
            replace H := og H; obtain ⟨g36, H⟩ := H
            refine e_iald (hY35.t 19 rfl) (ixb_y (hY35.n 19 rfl) g36) dX11_player_118 ?_
            refine e_i2l dX11_player_119 ?_
            obtain rfl := Option.some.inj H
            exact z_lret rfl dX11_player_120 rfl rfl
          · replace H := of_ c25 H
            refine e_ldc2 (v := (-4611686018427387904 : Int64)) lkX11_189 dX11_player_75 ?_
            obtain rfl := Option.some.inj H
            exact z_lret rfl dX11_player_78 rfl rfl
    · replace H := of_ (nb c6) H
      refine e_ldc2 (v := (-4611686018427387904 : Int64)) lkX11_189 dX11_player_24 ?_
      obtain rfl := Option.some.inj H
      exact z_lret rfl dX11_player_27 rfl rfl
-- J6_bitCount_0f7a4
def f_J6_bitCount_0f7a4 (p0 : Int32) : Option Int32 := (some ((((((((p0 - (((p0.toUInt32 >>> ((1 : Int32).toUInt32 &&& Int32.toUInt32 31)).toInt32) &&& ((1431655765 : Int32)))) &&& ((858993459 : Int32))) + ((((p0 - (((p0.toUInt32 >>> ((1 : Int32).toUInt32 &&& Int32.toUInt32 31)).toInt32) &&& ((1431655765 : Int32)))).toUInt32 >>> ((2 : Int32).toUInt32 &&& Int32.toUInt32 31)).toInt32) &&& ((858993459 : Int32)))) + (((((p0 - (((p0.toUInt32 >>> ((1 : Int32).toUInt32 &&& Int32.toUInt32 31)).toInt32) &&& ((1431655765 : Int32)))) &&& ((858993459 : Int32))) + ((((p0 - (((p0.toUInt32 >>> ((1 : Int32).toUInt32 &&& Int32.toUInt32 31)).toInt32) &&& ((1431655765 : Int32)))).toUInt32 >>> ((2 : Int32).toUInt32 &&& Int32.toUInt32 31)).toInt32) &&& ((858993459 : Int32)))).toUInt32 >>> ((4 : Int32).toUInt32 &&& Int32.toUInt32 31)).toInt32)) &&& ((252645135 : Int32))) + (((((((p0 - (((p0.toUInt32 >>> ((1 : Int32).toUInt32 &&& Int32.toUInt32 31)).toInt32) &&& ((1431655765 : Int32)))) &&& ((858993459 : Int32))) + ((((p0 - (((p0.toUInt32 >>> ((1 : Int32).toUInt32 &&& Int32.toUInt32 31)).toInt32) &&& ((1431655765 : Int32)))).toUInt32 >>> ((2 : Int32).toUInt32 &&& Int32.toUInt32 31)).toInt32) &&& ((858993459 : Int32)))) + (((((p0 - (((p0.toUInt32 >>> ((1 : Int32).toUInt32 &&& Int32.toUInt32 31)).toInt32) &&& ((1431655765 : Int32)))) &&& ((858993459 : Int32))) + ((((p0 - (((p0.toUInt32 >>> ((1 : Int32).toUInt32 &&& Int32.toUInt32 31)).toInt32) &&& ((1431655765 : Int32)))).toUInt32 >>> ((2 : Int32).toUInt32 &&& Int32.toUInt32 31)).toInt32) &&& ((858993459 : Int32)))).toUInt32 >>> ((4 : Int32).toUInt32 &&& Int32.toUInt32 31)).toInt32)) &&& ((252645135 : Int32))).toUInt32 >>> ((8 : Int32).toUInt32 &&& Int32.toUInt32 31)).toInt32)) + ((((((((p0 - (((p0.toUInt32 >>> ((1 : Int32).toUInt32 &&& Int32.toUInt32 31)).toInt32) &&& ((1431655765 : Int32)))) &&& ((858993459 : Int32))) + ((((p0 - (((p0.toUInt32 >>> ((1 : Int32).toUInt32 &&& Int32.toUInt32 31)).toInt32) &&& ((1431655765 : Int32)))).toUInt32 >>> ((2 : Int32).toUInt32 &&& Int32.toUInt32 31)).toInt32) &&& ((858993459 : Int32)))) + (((((p0 - (((p0.toUInt32 >>> ((1 : Int32).toUInt32 &&& Int32.toUInt32 31)).toInt32) &&& ((1431655765 : Int32)))) &&& ((858993459 : Int32))) + ((((p0 - (((p0.toUInt32 >>> ((1 : Int32).toUInt32 &&& Int32.toUInt32 31)).toInt32) &&& ((1431655765 : Int32)))).toUInt32 >>> ((2 : Int32).toUInt32 &&& Int32.toUInt32 31)).toInt32) &&& ((858993459 : Int32)))).toUInt32 >>> ((4 : Int32).toUInt32 &&& Int32.toUInt32 31)).toInt32)) &&& ((252645135 : Int32))) + (((((((p0 - (((p0.toUInt32 >>> ((1 : Int32).toUInt32 &&& Int32.toUInt32 31)).toInt32) &&& ((1431655765 : Int32)))) &&& ((858993459 : Int32))) + ((((p0 - (((p0.toUInt32 >>> ((1 : Int32).toUInt32 &&& Int32.toUInt32 31)).toInt32) &&& ((1431655765 : Int32)))).toUInt32 >>> ((2 : Int32).toUInt32 &&& Int32.toUInt32 31)).toInt32) &&& ((858993459 : Int32)))) + (((((p0 - (((p0.toUInt32 >>> ((1 : Int32).toUInt32 &&& Int32.toUInt32 31)).toInt32) &&& ((1431655765 : Int32)))) &&& ((858993459 : Int32))) + ((((p0 - (((p0.toUInt32 >>> ((1 : Int32).toUInt32 &&& Int32.toUInt32 31)).toInt32) &&& ((1431655765 : Int32)))).toUInt32 >>> ((2 : Int32).toUInt32 &&& Int32.toUInt32 31)).toInt32) &&& ((858993459 : Int32)))).toUInt32 >>> ((4 : Int32).toUInt32 &&& Int32.toUInt32 31)).toInt32)) &&& ((252645135 : Int32))).toUInt32 >>> ((8 : Int32).toUInt32 &&& Int32.toUInt32 31)).toInt32)).toUInt32 >>> ((16 : Int32).toUInt32 &&& Int32.toUInt32 31)).toInt32)) &&& (63 : Int32)))
set_option maxHeartbeats 4000000 in
set_option maxRecDepth 20000 in
theorem t_J6_bitCount_0f7a4 {G : GE} (d : Nat) {p0 : Int32} {h : HS} {q : Int32} (H : f_J6_bitCount_0f7a4 p0 = some q) : CE G (d + 0) yJ6_bitCount_0f7a4 miJ6_bitCount_0f7a4 [.int p0] h (some (.int q)) (h) := by
  unfold f_J6_bitCount_0f7a4 at H
  refine ce_of rfl (by decide) (fun q => by first | rfl | cases q) (Nat.le_of_ble_eq_true rfl) rfl ?_
  refine e_iload_n dJ6_bitCount_0f7a4_0 rfl ?_
  refine e_iload_n dJ6_bitCount_0f7a4_1 rfl ?_
  refine e_iconst (v := (1 : Int32)) dJ6_bitCount_0f7a4_2 (by decide) ?_
  refine e_iushr dJ6_bitCount_0f7a4_3 ?_
  refine e_ldcw (v := ((1431655765 : Int32))) lkJ6_265 dJ6_bitCount_0f7a4_4 ?_
  refine e_iand dJ6_bitCount_0f7a4_7 ?_
  refine e_isub dJ6_bitCount_0f7a4_8 ?_
  refine e_istore_n dJ6_bitCount_0f7a4_9 (Nat.le_of_ble_eq_true rfl) rfl rfl ?_
  refine e_iload_n dJ6_bitCount_0f7a4_10 rfl ?_
  refine e_ldcw (v := ((858993459 : Int32))) lkJ6_266 dJ6_bitCount_0f7a4_11 ?_
  refine e_iand dJ6_bitCount_0f7a4_14 ?_
  refine e_iload_n dJ6_bitCount_0f7a4_15 rfl ?_
  refine e_iconst (v := (2 : Int32)) dJ6_bitCount_0f7a4_16 (by decide) ?_
  refine e_iushr dJ6_bitCount_0f7a4_17 ?_
  refine e_ldcw (v := ((858993459 : Int32))) lkJ6_266 dJ6_bitCount_0f7a4_18 ?_
  refine e_iand dJ6_bitCount_0f7a4_21 ?_
  refine e_iadd dJ6_bitCount_0f7a4_22 ?_
  refine e_istore_n dJ6_bitCount_0f7a4_23 (Nat.le_of_ble_eq_true rfl) rfl rfl ?_
  refine e_iload_n dJ6_bitCount_0f7a4_24 rfl ?_
  refine e_iload_n dJ6_bitCount_0f7a4_25 rfl ?_
  refine e_iconst (v := (4 : Int32)) dJ6_bitCount_0f7a4_26 (by decide) ?_
  refine e_iushr dJ6_bitCount_0f7a4_27 ?_
  refine e_iadd dJ6_bitCount_0f7a4_28 ?_
  refine e_ldcw (v := ((252645135 : Int32))) lkJ6_267 dJ6_bitCount_0f7a4_29 ?_
  refine e_iand dJ6_bitCount_0f7a4_32 ?_
  refine e_istore_n dJ6_bitCount_0f7a4_33 (Nat.le_of_ble_eq_true rfl) rfl rfl ?_
  refine e_iload_n dJ6_bitCount_0f7a4_34 rfl ?_
  refine e_iload_n dJ6_bitCount_0f7a4_35 rfl ?_
  refine e_bipush (v := (8 : Int32)) dJ6_bitCount_0f7a4_36 (by decide) ?_
  refine e_iushr dJ6_bitCount_0f7a4_38 ?_
  refine e_iadd dJ6_bitCount_0f7a4_39 ?_
  refine e_istore_n dJ6_bitCount_0f7a4_40 (Nat.le_of_ble_eq_true rfl) rfl rfl ?_
  refine e_iload_n dJ6_bitCount_0f7a4_41 rfl ?_
  refine e_iload_n dJ6_bitCount_0f7a4_42 rfl ?_
  refine e_bipush (v := (16 : Int32)) dJ6_bitCount_0f7a4_43 (by decide) ?_
  refine e_iushr dJ6_bitCount_0f7a4_45 ?_
  refine e_iadd dJ6_bitCount_0f7a4_46 ?_
  refine e_istore_n dJ6_bitCount_0f7a4_47 (Nat.le_of_ble_eq_true rfl) rfl rfl ?_
  refine e_iload_n dJ6_bitCount_0f7a4_48 rfl ?_
  refine e_bipush (v := (63 : Int32)) dJ6_bitCount_0f7a4_49 (by decide) ?_
  refine e_iand dJ6_bitCount_0f7a4_51 ?_
  obtain rfl := Option.some.inj H
  exact z_iret rfl rfl dJ6_bitCount_0f7a4_52 rfl rfl
-- X11_most
def l_X11_most_88 (y4 : Int32) (y5 : Int32) (y6 : Nat) (y8 : Int64)  : Nat → Int32 → Int32 → Int32 → HS → Option (Int32 × HS)
  | 0, _, _, _, _ => none
  | n + 1, x10, x11, x12, h => (if (64 : Int32) ≤ x12 then (some (x11, h)) else (Option.bind (f_J6_bitCount_0f7a4 x12) (fun q41 => (if y5 < q41 then (l_X11_most_88 y4 y5 y6 y8 n x10 x11 (x12 + (1 : Int32)) h) else (Option.bind (f_X11_playOut y6 y4 (y8 ||| x12.toInt64) h) (fun q44 => (if (hI q44 51 (0 : Int32).toNatClampNeg) ≤ x10 then (l_X11_most_88 y4 y5 y6 y8 n x10 x11 (x12 + (1 : Int32)) q44) else (l_X11_most_88 y4 y5 y6 y8 n (hI q44 51 (0 : Int32).toNatClampNeg) x12 (x12 + (1 : Int32)) q44))))))))
set_option maxHeartbeats 4000000 in
set_option maxRecDepth 20000 in
theorem p_X11_most_88 {y4 : Int32} {y5 : Int32} {y6 : Nat} {y8 : Int64} : ∀ (n : Nat) {x10 : Int32} {x11 : Int32} {x12 : Int32} {h : HS} {q : (Int32 × HS)}, l_X11_most_88 y4 y5 y6 y8 n x10 x11 x12 h = some q → Pr h q.2 := by
  intro n
  induction n with
  | zero => intro x10 x11 x12 h q H; exact nz H
  | succ n ih =>
    intro x10 x11 x12 h q H
    unfold l_X11_most_88 at H
    replace H := oi H; obtain ⟨c40, H⟩ | ⟨c40, H⟩ := H
    · obtain rfl := Option.some.inj H
      exact Pr.rf
    · replace H := ob H; obtain ⟨q41, c42, H⟩ := H
      replace H := oi H; obtain ⟨c43, H⟩ | ⟨c43, H⟩ := H
      · exact id (ih H)
      · replace H := ob H; obtain ⟨q44, c45, H⟩ := H
        have e46 := p_X11_playOut c45
        replace H := oi H; obtain ⟨c48, H⟩ | ⟨c48, H⟩ := H
        · exact e46.tr (ih H)
        · exact e46.tr (ih H)
set_option maxHeartbeats 4000000 in
set_option maxRecDepth 20000 in
theorem w_X11_most_88 {G : GE} (d : Nat) {y4 : Int32} {y5 : Int32} {y6 : Nat} {y8 : Int64} {r : Option Value} {h' : HS}  : ∀ (n : Nat) {x10 : Int32} {x11 : Int32} {x12 : Int32} {h : HS} {q : (Int32 × HS)}, LY TX h → l_X11_most_88 y4 y5 y6 y8 n x10 x11 x12 h = some q → En G (d + 7) miX11_most 148 [dum, dum, dum, dum, dum, dum, dum, dum, dum, dum, dum, .int q.1, dum] [] q.2 r h' → En G (d + 7) miX11_most 88 [.ref 32, dum, dum, dum, .int y4, .int y5, .ref y6, dum, .long y8, dum, .int x10, .int x11, .int x12] [] h r h' := by
  intro n
  induction n with
  | zero => intro x10 x11 x12 h q hYTX H kE; exact nz H
  | succ n ih =>
    intro x10 x11 x12 h q hYTX H kE
    unfold l_X11_most_88 at H
    refine e_iload dX11_most_88 rfl ?_
    refine e_bipush (v := (64 : Int32)) dX11_most_90 (by decide) ?_
    refine e_icmp_ge (tgt := 148) dX11_most_92 (by decide) (fun c40 => ?_) (fun c40 => ?_)
    · replace H := ot c40 H
      obtain rfl := Option.some.inj H
      exact e_wk (lk0 (lk1 (lk1 (lk1 (lk0 (lk0 (lk0 (lk1 (lk0 (lk1 (lk0 (lk1 (lk0 lkn))))))))))))) kE
    · replace H := of_ c40 H
      refine e_iload dX11_most_95 rfl ?_
      replace H := ob H; obtain ⟨q41, c42, H⟩ := H
      refine s1 lmX11_318 lsJ6_bitCount_0f7a4 msJ6_bitCount_0f7a4 dX11_most_97 (t_J6_bitCount_0f7a4 (d + 6) c42) rfl (Nat.le_of_ble_eq_true rfl) (Nat.le_refl _) ?_
      refine e_iload dX11_most_100 rfl ?_
      refine e_icmp_gt (tgt := 142) dX11_most_102 (by decide) (fun c43 => ?_) (fun c43 => ?_)
      · replace H := ot c43 H
        refine e_iinc dX11_most_142 rfl (ii_ (by decide : Int32.ofInt (1) = (1 : Int32))) (Nat.le_of_ble_eq_true rfl) rfl rfl ?_
        refine e_goto (tgt := 88) dX11_most_145 (by decide) ?_
        exact e_wk (lk1 (lk1 (lk1 (lk1 (lk1 (lk1 (lk1 (lk1 (lk1 (lk1 (lk1 (lk1 (lk1 lkn))))))))))))) (ih hYTX H kE)
      · replace H := of_ c43 H
        refine g_aload_n dX11_most_105 rfl rfl ?_
        refine g_aload dX11_most_106 rfl rfl ?_
        refine e_iload dX11_most_108 rfl ?_
        refine e_lload dX11_most_110 rfl ?_
        refine e_iload dX11_most_112 rfl ?_
        refine e_i2l dX11_most_114 ?_
        refine e_lor dX11_most_115 ?_
        replace H := ob H; obtain ⟨q44, c45, H⟩ := H
        refine v0 (hYTX.t 0 rfl) (by decide) rfl rfl lmX11_314 liX11_playOut lvX11_X11_playOut msX11_playOut dX11_most_116 (t_X11_playOut (d + 1) hYTX c45) rfl (Nat.le_of_ble_eq_true rfl) (Nat.le_refl _) ?_
        have e46 := p_X11_playOut c45
        have hY47 := hYTX.pr okX e46
        refine g_aload_n dX11_most_119 rfl rfl ?_
        refine e_getR (hY47.t 0 rfl) flX11_76_12 dX11_most_120 rfl (hY47.r 12 rfl) ?_
        refine e_iconst (v := (0 : Int32)) dX11_most_123 (by decide) ?_
        refine e_iald (hY47.t 19 rfl) (ixb_y (hY47.n 19 rfl) (by decide)) dX11_most_124 ?_
        refine e_iload dX11_most_125 rfl ?_
        refine e_icmp_le (tgt := 142) dX11_most_127 (by decide) (fun c48 => ?_) (fun c48 => ?_)
        · replace H := ot c48 H
          refine e_iinc dX11_most_142 rfl (ii_ (by decide : Int32.ofInt (1) = (1 : Int32))) (Nat.le_of_ble_eq_true rfl) rfl rfl ?_
          refine e_goto (tgt := 88) dX11_most_145 (by decide) ?_
          exact e_wk (lk1 (lk1 (lk1 (lk1 (lk1 (lk1 (lk1 (lk1 (lk1 (lk1 (lk1 (lk1 (lk1 lkn))))))))))))) (ih hY47 H kE)
        · replace H := of_ c48 H
          refine g_aload_n dX11_most_130 rfl rfl ?_
          refine e_getR (hY47.t 0 rfl) flX11_76_12 dX11_most_131 rfl (hY47.r 12 rfl) ?_
          refine e_iconst (v := (0 : Int32)) dX11_most_134 (by decide) ?_
          refine e_iald (hY47.t 19 rfl) (ixb_y (hY47.n 19 rfl) (by decide)) dX11_most_135 ?_
          refine e_istore dX11_most_136 (Nat.le_of_ble_eq_true rfl) rfl rfl ?_
          refine e_iload dX11_most_138 rfl ?_
          refine e_istore dX11_most_140 (Nat.le_of_ble_eq_true rfl) rfl rfl ?_
          refine e_iinc dX11_most_142 rfl (ii_ (by decide : Int32.ofInt (1) = (1 : Int32))) (Nat.le_of_ble_eq_true rfl) rfl rfl ?_
          refine e_goto (tgt := 88) dX11_most_145 (by decide) ?_
          exact e_wk (lk1 (lk1 (lk1 (lk1 (lk1 (lk1 (lk1 (lk1 (lk1 (lk1 (lk1 (lk1 (lk1 lkn))))))))))))) (ih hY47 H kE)
def f_X11_most (p1 : Int32) (p2 : Int32) (p3 : Int32) (p4 : Int32) (p5 : Int32) (h : HS) : Option (Int32 × HS) := (Option.bind (f_X11_isPlayer p1 p2 p3 p4 h) (fun q1 => (if q1 = true then (Option.bind (f_X11_isIn p5 (0 : Int32) (6 : Int32)) (fun q4 => (if q4 = true then (Option.bind (f_X11_stallAt (p1 / (10 : Int32)) h) (fun q7 => (om q7 (Option.bind (f_X11_handAt (p1 - p1 / (10 : Int32) * (10 : Int32)) h) (fun q11 => (om q11 (some ((-2 : Int32), h)) (fun b14 => (some ((-2 : Int32), h)))))) (fun b10 => (Option.bind (f_X11_handAt (p1 - p1 / (10 : Int32) * (10 : Int32)) h) (fun q17 => (om q17 (some ((-2 : Int32), h)) (fun b20 => (Option.bind (f_X11_askPlayer b10 b20 p2 h) (fun q25 => (Option.bind (f_X11_winningThrows b10 b20 p2 p3 q25) (fun q29 => (Option.bind (l_X11_most_88 p4 p5 b10 q29 1000 (-1 : Int32) (0 : Int32) (0 : Int32) q25) (fun q49 => (some (q49.1, q49.2)))))))))))))))) else (some ((-2 : Int32), h))))) else (some ((-2 : Int32), h)))))
set_option maxHeartbeats 4000000 in
set_option maxRecDepth 20000 in
theorem p_X11_most {p1 : Int32} {p2 : Int32} {p3 : Int32} {p4 : Int32} {p5 : Int32} {h : HS} {q : (Int32 × HS)} (H : f_X11_most p1 p2 p3 p4 p5 h = some q) : Pr h q.2 := by
  unfold f_X11_most at H
  replace H := ob H; obtain ⟨q1, c2, H⟩ := H
  replace H := oi H; obtain ⟨c3, H⟩ | ⟨c3, H⟩ := H
  · replace H := ob H; obtain ⟨q4, c5, H⟩ := H
    replace H := oi H; obtain ⟨c6, H⟩ | ⟨c6, H⟩ := H
    · replace H := ob H; obtain ⟨q7, c8, H⟩ := H
      replace H := oom H; obtain ⟨e9, H⟩ | ⟨b10, e9, H⟩ := H
      · replace H := ob H; obtain ⟨q11, c12, H⟩ := H
        replace H := oom H; obtain ⟨e13, H⟩ | ⟨b14, e13, H⟩ := H
        · obtain rfl := Option.some.inj H
          exact Pr.rf
        · obtain rfl := Option.some.inj H
          exact Pr.rf
      · replace H := ob H; obtain ⟨q17, c18, H⟩ := H
        replace H := oom H; obtain ⟨e19, H⟩ | ⟨b20, e19, H⟩ := H
        · obtain rfl := Option.some.inj H
          exact Pr.rf
        · replace H := ob H; obtain ⟨q25, c26, H⟩ := H
          have e27 := p_X11_askPlayer c26
          replace H := ob H; obtain ⟨q29, c30, H⟩ := H
          replace H := ob H; obtain ⟨q49, c50, H⟩ := H
          have e51 := p_X11_most_88 1000 c50
          obtain rfl := Option.some.inj H
          exact (e27.tr e51)
    · obtain rfl := Option.some.inj H
      exact Pr.rf
  · obtain rfl := Option.some.inj H
    exact Pr.rf
set_option maxHeartbeats 4000000 in
set_option maxRecDepth 20000 in
theorem t_X11_most {G : GE} (d : Nat) {p1 : Int32} {p2 : Int32} {p3 : Int32} {p4 : Int32} {p5 : Int32} {h : HS} {q : (Int32 × HS)} (hY : LY TX h) (H : f_X11_most p1 p2 p3 p4 p5 h = some q) : CE G (d + 7) yX11_most miX11_most [.ref 32, .int p1, .int p2, .int p3, .int p4, .int p5] h (some (.int q.1)) (q.2) := by
  unfold f_X11_most at H
  refine ce_of rfl (by decide) (fun q => by first | rfl | cases q) (Nat.le_of_ble_eq_true rfl) rfl ?_
  refine g_aload_n dX11_most_0 rfl rfl ?_
  refine e_iload_n dX11_most_1 rfl ?_
  refine e_iload_n dX11_most_2 rfl ?_
  refine e_iload_n dX11_most_3 rfl ?_
  refine e_iload dX11_most_4 rfl ?_
  replace H := ob H; obtain ⟨q1, c2, H⟩ := H
  refine v1 (hY.t 0 rfl) (by decide) rfl rfl lmX11_303 liX11_isPlayer lvX11_X11_isPlayer msX11_isPlayer dX11_most_6 (t_X11_isPlayer (d + 2) hY c2) rfl (Nat.le_of_ble_eq_true rfl) (Nat.le_refl _) ?_
  refine e_ifB_eq (tgt := 23) dX11_most_9 (by decide) (fun c3 => ?_) (fun c3 => ?_)
  · replace H := of_ (nb c3) H
    refine e_bipush (v := (-2 : Int32)) dX11_most_23 (by decide) ?_
    obtain rfl := Option.some.inj H
    exact z_iret rfl rfl dX11_most_25 rfl rfl
  · replace H := ot c3 H
    refine e_iload dX11_most_12 rfl ?_
    refine e_iconst (v := (0 : Int32)) dX11_most_14 (by decide) ?_
    refine e_bipush (v := (6 : Int32)) dX11_most_15 (by decide) ?_
    replace H := ob H; obtain ⟨q4, c5, H⟩ := H
    refine s1 lmX11_106 lsX11_isIn msX11_isIn dX11_most_17 (t_X11_isIn (d + 6) c5) rfl (Nat.le_of_ble_eq_true rfl) (Nat.le_refl _) ?_
    refine e_ifB_ne (tgt := 26) dX11_most_20 (by decide) (fun c6 => ?_) (fun c6 => ?_)
    · replace H := ot c6 H
      refine g_aload_n dX11_most_26 rfl rfl ?_
      refine e_iload_n dX11_most_27 rfl ?_
      refine e_bipush (v := (10 : Int32)) dX11_most_28 (by decide) ?_
      refine e_idiv dX11_most_30 (by decide) ?_
      replace H := ob H; obtain ⟨q7, c8, H⟩ := H
      replace H := oom H; obtain ⟨e9, H⟩ | ⟨b10, e9, H⟩ := H
      · refine v1 (hY.t 0 rfl) (by decide) rfl rfl lmX11_122 liX11_stallAt lvX11_X11_stallAt msX11_stallAt dX11_most_31 (ceN e9 (t_X11_stallAt (d + 3) hY c8)) rfl (Nat.le_of_ble_eq_true rfl) (Nat.le_refl _) ?_
        refine g_astore dX11_most_34 (Nat.le_of_ble_eq_true rfl) rfl rfl rfl ?_
        refine g_aload_n dX11_most_36 rfl rfl ?_
        refine e_iload_n dX11_most_37 rfl ?_
        refine e_bipush (v := (10 : Int32)) dX11_most_38 (by decide) ?_
        refine e_irem dX11_most_40 (by decide) ?_
        replace H := ob H; obtain ⟨q11, c12, H⟩ := H
        replace H := oom H; obtain ⟨e13, H⟩ | ⟨b14, e13, H⟩ := H
        · refine v1 (hY.t 0 rfl) (by decide) rfl rfl lmX11_182 liX11_handAt lvX11_X11_handAt msX11_handAt dX11_most_41 (ceN e13 (t_X11_handAt (d + 3) hY c12)) rfl (Nat.le_of_ble_eq_true rfl) (Nat.le_refl _) ?_
          refine g_astore dX11_most_44 (Nat.le_of_ble_eq_true rfl) rfl rfl rfl ?_
          refine g_aload dX11_most_46 rfl rfl ?_
          refine e_ifnullN (tgt := 56) dX11_most_48 (by decide) ?_
          refine e_bipush (v := (-2 : Int32)) dX11_most_56 (by decide) ?_
          obtain rfl := Option.some.inj H
          exact z_iret rfl rfl dX11_most_58 rfl rfl
        · refine v1 (hY.t 0 rfl) (by decide) rfl rfl lmX11_182 liX11_handAt lvX11_X11_handAt msX11_handAt dX11_most_41 (ceS e13 (t_X11_handAt (d + 3) hY c12)) rfl (Nat.le_of_ble_eq_true rfl) (Nat.le_refl _) ?_
          refine g_astore dX11_most_44 (Nat.le_of_ble_eq_true rfl) rfl rfl rfl ?_
          refine g_aload dX11_most_46 rfl rfl ?_
          refine e_ifnullN (tgt := 56) dX11_most_48 (by decide) ?_
          refine e_bipush (v := (-2 : Int32)) dX11_most_56 (by decide) ?_
          obtain rfl := Option.some.inj H
          exact z_iret rfl rfl dX11_most_58 rfl rfl
      · refine v1 (hY.t 0 rfl) (by decide) rfl rfl lmX11_122 liX11_stallAt lvX11_X11_stallAt msX11_stallAt dX11_most_31 (ceS e9 (t_X11_stallAt (d + 3) hY c8)) rfl (Nat.le_of_ble_eq_true rfl) (Nat.le_refl _) ?_
        refine g_astore dX11_most_34 (Nat.le_of_ble_eq_true rfl) rfl rfl rfl ?_
        refine g_aload_n dX11_most_36 rfl rfl ?_
        refine e_iload_n dX11_most_37 rfl ?_
        refine e_bipush (v := (10 : Int32)) dX11_most_38 (by decide) ?_
        refine e_irem dX11_most_40 (by decide) ?_
        replace H := ob H; obtain ⟨q17, c18, H⟩ := H
        replace H := oom H; obtain ⟨e19, H⟩ | ⟨b20, e19, H⟩ := H
        · refine v1 (hY.t 0 rfl) (by decide) rfl rfl lmX11_182 liX11_handAt lvX11_X11_handAt msX11_handAt dX11_most_41 (ceN e19 (t_X11_handAt (d + 3) hY c18)) rfl (Nat.le_of_ble_eq_true rfl) (Nat.le_refl _) ?_
          refine g_astore dX11_most_44 (Nat.le_of_ble_eq_true rfl) rfl rfl rfl ?_
          refine g_aload dX11_most_46 rfl rfl ?_
          refine e_ifnull dX11_most_48 ?_
          refine g_aload dX11_most_51 rfl rfl ?_
          refine e_ifnonnullN dX11_most_53 ?_
          refine e_bipush (v := (-2 : Int32)) dX11_most_56 (by decide) ?_
          obtain rfl := Option.some.inj H
          exact z_iret rfl rfl dX11_most_58 rfl rfl
        · refine v1 (hY.t 0 rfl) (by decide) rfl rfl lmX11_182 liX11_handAt lvX11_X11_handAt msX11_handAt dX11_most_41 (ceS e19 (t_X11_handAt (d + 3) hY c18)) rfl (Nat.le_of_ble_eq_true rfl) (Nat.le_refl _) ?_
          refine g_astore dX11_most_44 (Nat.le_of_ble_eq_true rfl) rfl rfl rfl ?_
          refine g_aload dX11_most_46 rfl rfl ?_
          refine e_ifnull dX11_most_48 ?_
          refine g_aload dX11_most_51 rfl rfl ?_
          refine e_ifnonnull (tgt := 59) dX11_most_53 (by decide) ?_
          refine g_aload_n dX11_most_59 rfl rfl ?_
          refine g_aload dX11_most_60 rfl rfl ?_
          refine g_aload dX11_most_62 rfl rfl ?_
          refine e_iload_n dX11_most_64 rfl ?_
          replace H := ob H; obtain ⟨q25, c26, H⟩ := H
          refine v0 (hY.t 0 rfl) (by decide) rfl rfl lmX11_306 liX11_askPlayer lvX11_X11_askPlayer msX11_askPlayer dX11_most_65 (t_X11_askPlayer (d + 0) hY c26) rfl (Nat.le_of_ble_eq_true rfl) (Nat.le_refl _) ?_
          have e27 := p_X11_askPlayer c26
          have hY28 := hY.pr okX e27
          refine g_aload dX11_most_68 rfl rfl ?_
          refine g_aload dX11_most_70 rfl rfl ?_
          refine e_iload_n dX11_most_72 rfl ?_
          refine e_iload_n dX11_most_73 rfl ?_
          replace H := ob H; obtain ⟨q29, c30, H⟩ := H
          refine s1 lmX11_310 lsX11_winningThrows msX11_winningThrows dX11_most_74 (t_X11_winningThrows (d + 1) c30) rfl (Nat.le_of_ble_eq_true rfl) (Nat.le_refl _) ?_
          refine e_lstore dX11_most_77 (Nat.le_of_ble_eq_true rfl) rfl rfl ?_
          refine e_iconst (v := (-1 : Int32)) dX11_most_79 (by decide) ?_
          refine e_istore dX11_most_80 (Nat.le_of_ble_eq_true rfl) rfl rfl ?_
          refine e_iconst (v := (0 : Int32)) dX11_most_82 (by decide) ?_
          refine e_istore dX11_most_83 (Nat.le_of_ble_eq_true rfl) rfl rfl ?_
          refine e_iconst (v := (0 : Int32)) dX11_most_85 (by decide) ?_
          refine e_istore dX11_most_86 (Nat.le_of_ble_eq_true rfl) rfl rfl ?_
          replace H := ob H; obtain ⟨q49, c50, H⟩ := H
          have e51 := p_X11_most_88 1000 c50
          have hY52 := hY28.pr okX e51
          refine e_wk (lk1 (lk0 (lk0 (lk0 (lk1 (lk1 (lk1 (lk0 (lk1 (lk1 (lk1 (lk1 (lk1 lkn))))))))))))) (w_X11_most_88 d 1000 hY28 c50 ?_)
          refine e_iload dX11_most_148 rfl ?_
          obtain rfl := Option.some.inj H
          exact z_iret rfl rfl dX11_most_150 rfl rfl
    · replace H := of_ (nb c6) H
      refine e_bipush (v := (-2 : Int32)) dX11_most_23 (by decide) ?_
      obtain rfl := Option.some.inj H
      exact z_iret rfl rfl dX11_most_25 rfl rfl
-- X11_answerOf
def f_X11_answerOf (p0 : Int32) (p1 : Int32) : Option Int32 := (Option.bind (f_X11_isIn p1 (0 : Int32) ((6 : Int32) - (1 : Int32))) (fun q1 => (if q1 = true then (if ixb p1 6 = true then (Option.bind (f_X11_quotient p0.toInt64 (ansL.getD p1.toNatClampNeg 0).toInt64) (fun q5 => (some (q5.toInt32 - q5.toInt32 / (10 : Int32) * (10 : Int32))))) else none) else (some (0 : Int32)))))
set_option maxHeartbeats 4000000 in
set_option maxRecDepth 20000 in
theorem t_X11_answerOf {G : GE} (d : Nat) {p0 : Int32} {p1 : Int32} {h : HS} {q : Int32} (H : f_X11_answerOf p0 p1 = some q) : CE G (d + 1) yX11_answerOf miX11_answerOf [.int p0, .int p1] h (some (.int q)) (h) := by
  unfold f_X11_answerOf at H
  refine ce_of rfl (by decide) (fun q => by first | rfl | cases q) (Nat.le_of_ble_eq_true rfl) rfl ?_
  refine e_iload_n dX11_answerOf_0 rfl ?_
  refine e_iconst (v := (0 : Int32)) dX11_answerOf_1 (by decide) ?_
  refine e_gsA (gT_5 1 rfl rfl) dX11_answerOf_2 ?_
  refine e_cAl dX11_answerOf_5 ?_
  refine e_iconst (v := (1 : Int32)) dX11_answerOf_6 (by decide) ?_
  refine e_isub dX11_answerOf_7 ?_
  replace H := ob H; obtain ⟨q1, c2, H⟩ := H
  refine s1 lmX11_106 lsX11_isIn msX11_isIn dX11_answerOf_8 (t_X11_isIn (d + 0) c2) rfl (Nat.le_of_ble_eq_true rfl) (Nat.le_refl _) ?_
  refine e_ifB_ne (tgt := 16) dX11_answerOf_11 (by decide) (fun c3 => ?_) (fun c3 => ?_)
  · replace H := ot c3 H
    refine e_iload_n dX11_answerOf_16 rfl ?_
    refine e_i2l dX11_answerOf_17 ?_
    refine e_gsA (gT_5 1 rfl rfl) dX11_answerOf_18 ?_
    refine e_iload_n dX11_answerOf_21 rfl ?_
    replace H := og H; obtain ⟨g4, H⟩ := H
    refine e_cAa (ixb_in g4) dX11_answerOf_22 ?_
    refine e_i2l dX11_answerOf_23 ?_
    replace H := ob H; obtain ⟨q5, c6, H⟩ := H
    refine s1 lmX11_267 lsX11_quotient msX11_quotient dX11_answerOf_24 (t_X11_quotient (d + 0) c6) rfl (Nat.le_of_ble_eq_true rfl) (Nat.le_refl _) ?_
    refine e_l2i dX11_answerOf_27 ?_
    refine e_bipush (v := (10 : Int32)) dX11_answerOf_28 (by decide) ?_
    refine e_irem dX11_answerOf_30 (by decide) ?_
    obtain rfl := Option.some.inj H
    exact z_iret rfl rfl dX11_answerOf_31 rfl rfl
  · replace H := of_ (nb c3) H
    refine e_iconst (v := (0 : Int32)) dX11_answerOf_14 (by decide) ?_
    obtain rfl := Option.some.inj H
    exact z_iret rfl rfl dX11_answerOf_15 rfl rfl
-- X11_areAnswers
def l_X11_areAnswers_15 (y0 : Int32)  : Nat → Int32 → Option (Bool ⊕ Unit)
  | 0, _ => none
  | n + 1, x1 => (if (6 : Int32) ≤ x1 then (some (Sum.inr ())) else (Option.bind (f_X11_answerOf y0 x1) (fun q9 => (if q9 ≤ (3 : Int32) then (l_X11_areAnswers_15 y0 n (x1 + (1 : Int32))) else (some (Sum.inl false))))))
set_option maxHeartbeats 4000000 in
set_option maxRecDepth 20000 in
theorem w_X11_areAnswers_15 {G : GE} (d : Nat) {y0 : Int32} {h : HS} {r : Option Value} {h' : HS}  : ∀ (n : Nat) {x1 : Int32} {q : (Bool ⊕ Unit)}, l_X11_areAnswers_15 y0 n x1 = some q → (∀ v, q = Sum.inl v → r = some (.int (b2i v)) ∧ h' = h) → (∀ e, q = Sum.inr e → En G (d + 2) miX11_areAnswers 38 [dum, dum] [] h r h') → En G (d + 2) miX11_areAnswers 15 [.int y0, .int x1] [] h r h' := by
  intro n
  induction n with
  | zero => intro x1 q H kR kE; exact nz H
  | succ n ih =>
    intro x1 q H kR kE
    unfold l_X11_areAnswers_15 at H
    refine e_iload_n dX11_areAnswers_15 rfl ?_
    refine e_bipush (v := (6 : Int32)) dX11_areAnswers_16 (by decide) ?_
    refine e_icmp_ge (tgt := 38) dX11_areAnswers_18 (by decide) (fun c8 => ?_) (fun c8 => ?_)
    · replace H := ot c8 H
      obtain rfl := Option.some.inj H
      exact e_wk (lk0 (lk0 lkn)) (kE _ rfl)
    · replace H := of_ c8 H
      refine e_iload_n dX11_areAnswers_21 rfl ?_
      refine e_iload_n dX11_areAnswers_22 rfl ?_
      replace H := ob H; obtain ⟨q9, c10, H⟩ := H
      refine s1 lmX11_395 lsX11_answerOf msX11_answerOf dX11_areAnswers_23 (t_X11_answerOf (d + 0) c10) rfl (Nat.le_of_ble_eq_true rfl) (Nat.le_refl _) ?_
      refine e_iconst (v := (3 : Int32)) dX11_areAnswers_26 (by decide) ?_
      refine e_icmp_le (tgt := 32) dX11_areAnswers_27 (by decide) (fun c11 => ?_) (fun c11 => ?_)
      · replace H := ot c11 H
        refine e_iinc dX11_areAnswers_32 rfl (ii_ (by decide : Int32.ofInt (1) = (1 : Int32))) (Nat.le_of_ble_eq_true rfl) rfl rfl ?_
        refine e_goto (tgt := 15) dX11_areAnswers_35 (by decide) ?_
        exact e_wk (lk1 (lk1 lkn)) (ih H kR kE)
      · replace H := of_ c11 H
        refine e_iconst (v := (0 : Int32)) dX11_areAnswers_30 (by decide) ?_
        obtain rfl := Option.some.inj H
        obtain ⟨eR, eH⟩ := kR _ rfl
        exact z_iret rfl rfl dX11_areAnswers_31 eR eH
def f_X11_areAnswers (p0 : Int32) : Option Bool := (Option.bind (f_X11_isIn p0 (0 : Int32) ((999999 : Int32))) (fun q1 => (if q1 = true then (Option.bind (l_X11_areAnswers_15 p0 1000 (0 : Int32)) (fun q12 => (Sum.elim (fun v => some v) (fun e14 => (some true)) q12))) else (some false))))
set_option maxHeartbeats 4000000 in
set_option maxRecDepth 20000 in
theorem t_X11_areAnswers {G : GE} (d : Nat) {p0 : Int32} {h : HS} {q : Bool} (H : f_X11_areAnswers p0 = some q) : CE G (d + 2) yX11_areAnswers miX11_areAnswers [.int p0] h (some (.int (b2i q))) (h) := by
  unfold f_X11_areAnswers at H
  refine ce_of rfl (by decide) (fun q => by first | rfl | cases q) (Nat.le_of_ble_eq_true rfl) rfl ?_
  refine e_iload_n dX11_areAnswers_0 rfl ?_
  refine e_iconst (v := (0 : Int32)) dX11_areAnswers_1 (by decide) ?_
  refine e_ldcw (v := ((999999 : Int32))) lkX11_394 dX11_areAnswers_2 ?_
  replace H := ob H; obtain ⟨q1, c2, H⟩ := H
  refine s1 lmX11_106 lsX11_isIn msX11_isIn dX11_areAnswers_5 (t_X11_isIn (d + 1) c2) rfl (Nat.le_of_ble_eq_true rfl) (Nat.le_refl _) ?_
  refine e_ifB_ne (tgt := 13) dX11_areAnswers_8 (by decide) (fun c3 => ?_) (fun c3 => ?_)
  · replace H := ot c3 H
    refine e_iconst (v := (0 : Int32)) dX11_areAnswers_13 (by decide) ?_
    refine e_istore_n dX11_areAnswers_14 (Nat.le_of_ble_eq_true rfl) rfl rfl ?_
    replace H := ob H; obtain ⟨q12, c13, H⟩ := H
    refine e_wk (lk1 (lk1 lkn)) (w_X11_areAnswers_15 d 1000 c13 (fun v15 E0 => ?_) (fun e14 E0 => ?_))
    · subst E0; replace H := oSl H; obtain rfl := Option.some.inj H
      exact ⟨rfl, rfl⟩
    · subst E0; replace H := oSr H
      refine e_iconst (v := (1 : Int32)) dX11_areAnswers_38 (by decide) ?_
      obtain rfl := Option.some.inj H
      exact z_iret rfl rfl dX11_areAnswers_39 rfl rfl
  · replace H := of_ (nb c3) H
    refine e_iconst (v := (0 : Int32)) dX11_areAnswers_11 (by decide) ?_
    obtain rfl := Option.some.inj H
    exact z_iret rfl rfl dX11_areAnswers_12 rfl rfl
-- X11_test
def f_X11_test (p1 : Int32) (p2 : Int32) (h : HS) : Option (Int32 × HS) := (Option.bind (f_X11_isIn p1 (1 : Int32) (20 : Int32)) (fun q1 => (if q1 = true then (Option.bind (f_X11_areAnswers p2) (fun q4 => (if q4 = true then (if (hI h 32 8) < (6 : Int32) then (if ixb (hI h 32 8) 6 = true then (if ixb (hI (sI h 37 (hI h 32 8).toNatClampNeg p1) 32 8) 6 = true then (bh (sI (sI (sI h 37 (hI h 32 8).toNatClampNeg p1) 38 (hI (sI h 37 (hI h 32 8).toNatClampNeg p1) 32 8).toNatClampNeg p2) 32 8 ((hI (sI (sI h 37 (hI h 32 8).toNatClampNeg p1) 38 (hI (sI h 37 (hI h 32 8).toNatClampNeg p1) 32 8).toNatClampNeg p2) 32 8) + (1 : Int32))) (fun h10 => (some (((hI h10 32 8) - (1 : Int32)), h10)))) else none) else none) else (some ((-4 : Int32), h))) else (some ((-2 : Int32), h))))) else (some ((-2 : Int32), h)))))
set_option maxHeartbeats 4000000 in
set_option maxRecDepth 20000 in
theorem p_X11_test {p1 : Int32} {p2 : Int32} {h : HS} {q : (Int32 × HS)} (H : f_X11_test p1 p2 h = some q) : Pr h q.2 := by
  unfold f_X11_test at H
  replace H := ob H; obtain ⟨q1, c2, H⟩ := H
  replace H := oi H; obtain ⟨c3, H⟩ | ⟨c3, H⟩ := H
  · replace H := ob H; obtain ⟨q4, c5, H⟩ := H
    replace H := oi H; obtain ⟨c6, H⟩ | ⟨c6, H⟩ := H
    · replace H := oi H; obtain ⟨c7, H⟩ | ⟨c7, H⟩ := H
      · replace H := og H; obtain ⟨g8, H⟩ := H
        replace H := og H; obtain ⟨g9, H⟩ := H
        replace H := obh H; obtain ⟨h10, e11, H⟩ := H
        obtain rfl := Option.some.inj H
        exact (kP e11 (((Pr.rf.sI).sI).sI))
      · obtain rfl := Option.some.inj H
        exact Pr.rf
    · obtain rfl := Option.some.inj H
      exact Pr.rf
  · obtain rfl := Option.some.inj H
    exact Pr.rf
set_option maxHeartbeats 4000000 in
set_option maxRecDepth 20000 in
theorem t_X11_test {G : GE} (d : Nat) {p1 : Int32} {p2 : Int32} {h : HS} {q : (Int32 × HS)} (hY : LY TX h) (H : f_X11_test p1 p2 h = some q) : CE G (d + 3) yX11_test miX11_test [.ref 32, .int p1, .int p2] h (some (.int q.1)) (q.2) := by
  unfold f_X11_test at H
  refine ce_of rfl (by decide) (fun q => by first | rfl | cases q) (Nat.le_of_ble_eq_true rfl) rfl ?_
  refine e_iload_n dX11_test_0 rfl ?_
  refine e_iconst (v := (1 : Int32)) dX11_test_1 (by decide) ?_
  refine e_bipush (v := (20 : Int32)) dX11_test_2 (by decide) ?_
  replace H := ob H; obtain ⟨q1, c2, H⟩ := H
  refine s1 lmX11_106 lsX11_isIn msX11_isIn dX11_test_4 (t_X11_isIn (d + 2) c2) rfl (Nat.le_of_ble_eq_true rfl) (Nat.le_refl _) ?_
  refine e_ifB_eq (tgt := 17) dX11_test_7 (by decide) (fun c3 => ?_) (fun c3 => ?_)
  · replace H := of_ (nb c3) H
    refine e_bipush (v := (-2 : Int32)) dX11_test_17 (by decide) ?_
    obtain rfl := Option.some.inj H
    exact z_iret rfl rfl dX11_test_19 rfl rfl
  · replace H := ot c3 H
    refine e_iload_n dX11_test_10 rfl ?_
    replace H := ob H; obtain ⟨q4, c5, H⟩ := H
    refine s1 lmX11_349 lsX11_areAnswers msX11_areAnswers dX11_test_11 (t_X11_areAnswers (d + 0) c5) rfl (Nat.le_of_ble_eq_true rfl) (Nat.le_refl _) ?_
    refine e_ifB_ne (tgt := 20) dX11_test_14 (by decide) (fun c6 => ?_) (fun c6 => ?_)
    · replace H := ot c6 H
      refine g_aload_n dX11_test_20 rfl rfl ?_
      refine e_getI (hY.t 0 rfl) flX11_39_12 dX11_test_21 rfl ?_
      refine e_bipush (v := (6 : Int32)) dX11_test_24 (by decide) ?_
      refine e_icmp_lt (tgt := 32) dX11_test_26 (by decide) (fun c7 => ?_) (fun c7 => ?_)
      · replace H := ot c7 H
        refine g_aload_n dX11_test_32 rfl rfl ?_
        refine e_getR (hY.t 0 rfl) flX11_33_12 dX11_test_33 rfl (hY.r 4 rfl) ?_
        refine g_aload_n dX11_test_36 rfl rfl ?_
        refine e_getI (hY.t 0 rfl) flX11_39_12 dX11_test_37 rfl ?_
        refine e_iload_n dX11_test_40 rfl ?_
        replace H := og H; obtain ⟨g8, H⟩ := H
        refine e_iast (hY.t 5 rfl) (ixb_y (hY.n 5 rfl) g8) dX11_test_41 ?_
        refine g_aload_n dX11_test_42 rfl rfl ?_
        refine e_getR ((hY.sI).t 0 rfl) flX11_36_12 dX11_test_43 rfl ((hY.sI).r 5 rfl) ?_
        refine g_aload_n dX11_test_46 rfl rfl ?_
        refine e_getI ((hY.sI).t 0 rfl) flX11_39_12 dX11_test_47 rfl ?_
        refine e_iload_n dX11_test_50 rfl ?_
        replace H := og H; obtain ⟨g9, H⟩ := H
        refine e_iast ((hY.sI).t 6 rfl) (ixb_y ((hY.sI).n 6 rfl) g9) dX11_test_51 ?_
        refine g_aload_n dX11_test_52 rfl rfl ?_
        refine e_dup dX11_test_53 rfl ?_
        refine e_getI (((hY.sI).sI).t 0 rfl) flX11_39_12 dX11_test_54 rfl ?_
        refine e_iconst (v := (1 : Int32)) dX11_test_57 (by decide) ?_
        refine e_iadd dX11_test_58 ?_
        refine e_putI (((hY.sI).sI).t 0 rfl) fpX11_39_12 rfl dX11_test_59 ?_
        replace H := obh H; obtain ⟨h10, e11, H⟩ := H
        refine e_hq e11 ?_
        have hY12 := kY e11 (((hY.sI).sI).sI)
        refine g_aload_n dX11_test_62 rfl rfl ?_
        refine e_getI (hY12.t 0 rfl) flX11_39_12 dX11_test_63 rfl ?_
        refine e_iconst (v := (1 : Int32)) dX11_test_66 (by decide) ?_
        refine e_isub dX11_test_67 ?_
        obtain rfl := Option.some.inj H
        exact z_iret rfl rfl dX11_test_68 rfl rfl
      · replace H := of_ c7 H
        refine e_bipush (v := (-4 : Int32)) dX11_test_29 (by decide) ?_
        obtain rfl := Option.some.inj H
        exact z_iret rfl rfl dX11_test_31 rfl rfl
    · replace H := of_ (nb c6) H
      refine e_bipush (v := (-2 : Int32)) dX11_test_17 (by decide) ?_
      obtain rfl := Option.some.inj H
      exact z_iret rfl rfl dX11_test_19 rfl rfl
-- X11_allStalls
def f_X11_allStalls  (h : HS) : Option Int32 := (if hT h 33 = 1 then (Option.bind (f_Jx4a65c_size_8abf5 33 h) (fun q1 => (some (((1 : Int32) <<< (q1 &&& 31)) - (1 : Int32))))) else none)
set_option maxHeartbeats 4000000 in
set_option maxRecDepth 20000 in
theorem t_X11_allStalls {G : GE} (d : Nat)  {h : HS} {q : Int32} (hY : LY TX h) (H : f_X11_allStalls h = some q) : CE G (d + 1) yX11_allStalls miX11_allStalls [.ref 32] h (some (.int q)) (h) := by
  unfold f_X11_allStalls at H
  refine ce_of rfl (by decide) (fun q => by first | rfl | cases q) (Nat.le_of_ble_eq_true rfl) rfl ?_
  refine e_iconst (v := (1 : Int32)) dX11_allStalls_0 (by decide) ?_
  refine g_aload_n dX11_allStalls_1 rfl rfl ?_
  refine e_getR (hY.t 0 rfl) flX11_12_12 dX11_allStalls_2 rfl (hY.r 0 rfl) ?_
  replace H := og H; obtain ⟨g3, H⟩ := H
  replace H := ob H; obtain ⟨q1, c2, H⟩ := H
  refine v1 (hY.t 1 rfl) (by decide) rfl rfl lmX11_114 liJx4a65c_size_8abf5 lvJx4a65c_Jx4a65c_size_8abf5 msJx4a65c_size_8abf5 dX11_allStalls_5 (t_Jx4a65c_size_8abf5 (d + 0) c2) rfl (Nat.le_of_ble_eq_true rfl) (Nat.le_refl _) ?_
  refine e_ishl dX11_allStalls_8 ?_
  refine e_iconst (v := (1 : Int32)) dX11_allStalls_9 (by decide) ?_
  refine e_isub dX11_allStalls_10 ?_
  obtain rfl := Option.some.inj H
  exact z_iret rfl rfl dX11_allStalls_11 rfl rfl
-- X11_isOf
def f_X11_isOf (p0 : Int32) (p1 : Int32) : Option Bool := (if ((p0 >>> (p1 &&& 31)) &&& (1 : Int32)) = (1 : Int32) then (some true) else (some false))
set_option maxHeartbeats 4000000 in
set_option maxRecDepth 20000 in
theorem t_X11_isOf {G : GE} (d : Nat) {p0 : Int32} {p1 : Int32} {h : HS} {q : Bool} (H : f_X11_isOf p0 p1 = some q) : CE G (d + 0) yX11_isOf miX11_isOf [.int p0, .int p1] h (some (.int (b2i q))) (h) := by
  unfold f_X11_isOf at H
  refine ce_of rfl (by decide) (fun q => by first | rfl | cases q) (Nat.le_of_ble_eq_true rfl) rfl ?_
  refine e_iload_n dX11_isOf_0 rfl ?_
  refine e_iload_n dX11_isOf_1 rfl ?_
  refine e_ishr dX11_isOf_2 ?_
  refine e_iconst (v := (1 : Int32)) dX11_isOf_3 (by decide) ?_
  refine e_iand dX11_isOf_4 ?_
  refine e_iconst (v := (1 : Int32)) dX11_isOf_5 (by decide) ?_
  refine e_icmp_ne (tgt := 13) dX11_isOf_6 (by decide) (fun c1 => ?_) (fun c1 => ?_)
  · replace H := of_ c1 H
    refine e_iconst (v := (0 : Int32)) dX11_isOf_13 (by decide) ?_
    obtain rfl := Option.some.inj H
    exact z_iret rfl rfl dX11_isOf_14 rfl rfl
  · replace H := ot c1 H
    refine e_iconst (v := (1 : Int32)) dX11_isOf_9 (by decide) ?_
    refine e_goto (tgt := 14) dX11_isOf_10 (by decide) ?_
    obtain rfl := Option.some.inj H
    exact z_iret rfl rfl dX11_isOf_14 rfl rfl
-- X11_hoursOfTests
def l_X11_hoursOfTests_4 (y1 : Int32) (h : HS)  : Nat → Int32 → Int32 → Option Int32
  | 0, _, _ => none
  | n + 1, x2, x3 => (if (hI h 32 8) ≤ x3 then (some x2) else (if (6 : Int32) ≤ x3 then (some x2) else (Option.bind (f_X11_isOf y1 x3) (fun q9 => (if q9 = true then (if ixb x3 6 = true then (l_X11_hoursOfTests_4 y1 h n (x2 + (hI h 37 x3.toNatClampNeg)) (x3 + (1 : Int32))) else none) else (l_X11_hoursOfTests_4 y1 h n (x2 + (0 : Int32)) (x3 + (1 : Int32))))))))
set_option maxHeartbeats 4000000 in
set_option maxRecDepth 20000 in
theorem w_X11_hoursOfTests_4 {G : GE} (d : Nat) {y1 : Int32} {h : HS} {r : Option Value} {h' : HS} (hYTX : LY TX h) : ∀ (n : Nat) {x2 : Int32} {x3 : Int32} {q : Int32}, l_X11_hoursOfTests_4 y1 h n x2 x3 = some q → En G (d + 1) miX11_hoursOfTests 48 [dum, dum, .int q, dum] [] h r h' → En G (d + 1) miX11_hoursOfTests 4 [.ref 32, .int y1, .int x2, .int x3] [] h r h' := by
  intro n
  induction n with
  | zero => intro x2 x3 q H kE; exact nz H
  | succ n ih =>
    intro x2 x3 q H kE
    unfold l_X11_hoursOfTests_4 at H
    refine e_iload_n dX11_hoursOfTests_4 rfl ?_
    refine g_aload_n dX11_hoursOfTests_5 rfl rfl ?_
    refine e_getI (hYTX.t 0 rfl) flX11_39_12 dX11_hoursOfTests_6 rfl ?_
    refine e_icmp_ge (tgt := 48) dX11_hoursOfTests_9 (by decide) (fun c7 => ?_) (fun c7 => ?_)
    · replace H := ot c7 H
      obtain rfl := Option.some.inj H
      exact e_wk (lk0 (lk0 (lk1 (lk0 lkn)))) kE
    · replace H := of_ c7 H
      refine e_iload_n dX11_hoursOfTests_12 rfl ?_
      refine g_aload_n dX11_hoursOfTests_13 rfl rfl ?_
      refine e_getR (hYTX.t 0 rfl) flX11_33_12 dX11_hoursOfTests_14 rfl (hYTX.r 4 rfl) ?_
      refine e_alen (hYTX.t 5 rfl) (by decide) dX11_hoursOfTests_17 ?_
      refine e_ci (y := (6 : Int32)) (by rw [(hYTX.n 5 rfl)]; rfl) ?_
      refine e_icmp_ge (tgt := 48) dX11_hoursOfTests_18 (by decide) (fun c8 => ?_) (fun c8 => ?_)
      · replace H := ot c8 H
        obtain rfl := Option.some.inj H
        exact e_wk (lk0 (lk0 (lk1 (lk0 lkn)))) kE
      · replace H := of_ c8 H
        refine e_iload_n dX11_hoursOfTests_21 rfl ?_
        refine e_iload_n dX11_hoursOfTests_22 rfl ?_
        refine e_iload_n dX11_hoursOfTests_23 rfl ?_
        replace H := ob H; obtain ⟨q9, c10, H⟩ := H
        refine s1 lmX11_401 lsX11_isOf msX11_isOf dX11_hoursOfTests_24 (t_X11_isOf (d + 0) c10) rfl (Nat.le_of_ble_eq_true rfl) (Nat.le_refl _) ?_
        refine e_ifB_eq (tgt := 39) dX11_hoursOfTests_27 (by decide) (fun c11 => ?_) (fun c11 => ?_)
        · replace H := of_ (nb c11) H
          refine e_iconst (v := (0 : Int32)) dX11_hoursOfTests_39 (by decide) ?_
          refine e_iadd dX11_hoursOfTests_40 ?_
          refine e_istore_n dX11_hoursOfTests_41 (Nat.le_of_ble_eq_true rfl) rfl rfl ?_
          refine e_iinc dX11_hoursOfTests_42 rfl (ii_ (by decide : Int32.ofInt (1) = (1 : Int32))) (Nat.le_of_ble_eq_true rfl) rfl rfl ?_
          refine e_goto (tgt := 4) dX11_hoursOfTests_45 (by decide) ?_
          exact e_wk (lk1 (lk1 (lk1 (lk1 lkn)))) (ih H kE)
        · replace H := ot c11 H
          refine g_aload_n dX11_hoursOfTests_30 rfl rfl ?_
          refine e_getR (hYTX.t 0 rfl) flX11_33_12 dX11_hoursOfTests_31 rfl (hYTX.r 4 rfl) ?_
          refine e_iload_n dX11_hoursOfTests_34 rfl ?_
          replace H := og H; obtain ⟨g12, H⟩ := H
          refine e_iald (hYTX.t 5 rfl) (ixb_y (hYTX.n 5 rfl) g12) dX11_hoursOfTests_35 ?_
          refine e_goto (tgt := 40) dX11_hoursOfTests_36 (by decide) ?_
          refine e_iadd dX11_hoursOfTests_40 ?_
          refine e_istore_n dX11_hoursOfTests_41 (Nat.le_of_ble_eq_true rfl) rfl rfl ?_
          refine e_iinc dX11_hoursOfTests_42 rfl (ii_ (by decide : Int32.ofInt (1) = (1 : Int32))) (Nat.le_of_ble_eq_true rfl) rfl rfl ?_
          refine e_goto (tgt := 4) dX11_hoursOfTests_45 (by decide) ?_
          exact e_wk (lk1 (lk1 (lk1 (lk1 lkn)))) (ih H kE)
def f_X11_hoursOfTests (p1 : Int32) (h : HS) : Option Int32 := (Option.bind (l_X11_hoursOfTests_4 p1 h 1000 (0 : Int32) (0 : Int32)) (fun q13 => (some q13)))
set_option maxHeartbeats 4000000 in
set_option maxRecDepth 20000 in
theorem t_X11_hoursOfTests {G : GE} (d : Nat) {p1 : Int32} {h : HS} {q : Int32} (hY : LY TX h) (H : f_X11_hoursOfTests p1 h = some q) : CE G (d + 1) yX11_hoursOfTests miX11_hoursOfTests [.ref 32, .int p1] h (some (.int q)) (h) := by
  unfold f_X11_hoursOfTests at H
  refine ce_of rfl (by decide) (fun q => by first | rfl | cases q) (Nat.le_of_ble_eq_true rfl) rfl ?_
  refine e_iconst (v := (0 : Int32)) dX11_hoursOfTests_0 (by decide) ?_
  refine e_istore_n dX11_hoursOfTests_1 (Nat.le_of_ble_eq_true rfl) rfl rfl ?_
  refine e_iconst (v := (0 : Int32)) dX11_hoursOfTests_2 (by decide) ?_
  refine e_istore_n dX11_hoursOfTests_3 (Nat.le_of_ble_eq_true rfl) rfl rfl ?_
  replace H := ob H; obtain ⟨q13, c14, H⟩ := H
  refine e_wk (lk1 (lk1 (lk1 (lk1 lkn)))) (w_X11_hoursOfTests_4 d hY 1000 c14 ?_)
  refine e_iload_n dX11_hoursOfTests_48 rfl ?_
  obtain rfl := Option.some.inj H
  exact z_iret rfl rfl dX11_hoursOfTests_49 rfl rfl
-- X11_arePartedKinds
def l_X11_arePartedKinds_3 (y1 : Int32) (y2 : Int32) (y3 : Int32) (h : HS)  : Nat → Int32 → Option (Bool ⊕ Unit)
  | 0, _ => none
  | n + 1, x4 => (if (hI h 32 8) ≤ x4 then (some (Sum.inr ())) else (if (6 : Int32) ≤ x4 then (some (Sum.inr ())) else (if ixb x4 6 = true then (Option.bind (f_X11_isOf y3 x4) (fun q15 => (if q15 = true then (Option.bind (f_X11_answerOf (hI h 38 x4.toNatClampNeg) y1) (fun q18 => (Option.bind (f_X11_answerOf (hI h 38 x4.toNatClampNeg) y2) (fun q20 => (if q18 = q20 then (l_X11_arePartedKinds_3 y1 y2 y3 h n (x4 + (1 : Int32))) else (some (Sum.inl true))))))) else (l_X11_arePartedKinds_3 y1 y2 y3 h n (x4 + (1 : Int32)))))) else none)))
set_option maxHeartbeats 4000000 in
set_option maxRecDepth 20000 in
theorem w_X11_arePartedKinds_3 {G : GE} (d : Nat) {y1 : Int32} {y2 : Int32} {y3 : Int32} {h : HS} {r : Option Value} {h' : HS} (hYTX : LY TX h) : ∀ (n : Nat) {x4 : Int32} {q : (Bool ⊕ Unit)}, l_X11_arePartedKinds_3 y1 y2 y3 h n x4 = some q → (∀ v, q = Sum.inl v → r = some (.int (b2i v)) ∧ h' = h) → (∀ e, q = Sum.inr e → En G (d + 2) miX11_arePartedKinds 63 [dum, dum, dum, dum, dum, dum] [] h r h') → En G (d + 2) miX11_arePartedKinds 3 [.ref 32, .int y1, .int y2, .int y3, .int x4, dum] [] h r h' := by
  intro n
  induction n with
  | zero => intro x4 q H kR kE; exact nz H
  | succ n ih =>
    intro x4 q H kR kE
    unfold l_X11_arePartedKinds_3 at H
    refine e_iload dX11_arePartedKinds_3 rfl ?_
    refine g_aload_n dX11_arePartedKinds_5 rfl rfl ?_
    refine e_getI (hYTX.t 0 rfl) flX11_39_12 dX11_arePartedKinds_6 rfl ?_
    refine e_icmp_ge (tgt := 63) dX11_arePartedKinds_9 (by decide) (fun c12 => ?_) (fun c12 => ?_)
    · replace H := ot c12 H
      obtain rfl := Option.some.inj H
      exact e_wk (lk0 (lk0 (lk0 (lk0 (lk0 (lk1 lkn)))))) (kE _ rfl)
    · replace H := of_ c12 H
      refine e_iload dX11_arePartedKinds_12 rfl ?_
      refine g_aload_n dX11_arePartedKinds_14 rfl rfl ?_
      refine e_getR (hYTX.t 0 rfl) flX11_36_12 dX11_arePartedKinds_15 rfl (hYTX.r 5 rfl) ?_
      refine e_alen (hYTX.t 6 rfl) (by decide) dX11_arePartedKinds_18 ?_
      refine e_ci (y := (6 : Int32)) (by rw [(hYTX.n 6 rfl)]; rfl) ?_
      refine e_icmp_ge (tgt := 63) dX11_arePartedKinds_19 (by decide) (fun c13 => ?_) (fun c13 => ?_)
      · replace H := ot c13 H
        obtain rfl := Option.some.inj H
        exact e_wk (lk0 (lk0 (lk0 (lk0 (lk0 (lk1 lkn)))))) (kE _ rfl)
      · replace H := of_ c13 H
        refine g_aload_n dX11_arePartedKinds_22 rfl rfl ?_
        refine e_getR (hYTX.t 0 rfl) flX11_36_12 dX11_arePartedKinds_23 rfl (hYTX.r 5 rfl) ?_
        refine e_iload dX11_arePartedKinds_26 rfl ?_
        replace H := og H; obtain ⟨g14, H⟩ := H
        refine e_iald (hYTX.t 6 rfl) (ixb_y (hYTX.n 6 rfl) g14) dX11_arePartedKinds_28 ?_
        refine e_istore dX11_arePartedKinds_29 (Nat.le_of_ble_eq_true rfl) rfl rfl ?_
        refine e_iload_n dX11_arePartedKinds_31 rfl ?_
        refine e_iload dX11_arePartedKinds_32 rfl ?_
        replace H := ob H; obtain ⟨q15, c16, H⟩ := H
        refine s1 lmX11_401 lsX11_isOf msX11_isOf dX11_arePartedKinds_34 (t_X11_isOf (d + 1) c16) rfl (Nat.le_of_ble_eq_true rfl) (Nat.le_refl _) ?_
        refine e_ifB_eq (tgt := 57) dX11_arePartedKinds_37 (by decide) (fun c17 => ?_) (fun c17 => ?_)
        · replace H := of_ (nb c17) H
          refine e_iinc dX11_arePartedKinds_57 rfl (ii_ (by decide : Int32.ofInt (1) = (1 : Int32))) (Nat.le_of_ble_eq_true rfl) rfl rfl ?_
          refine e_goto (tgt := 3) dX11_arePartedKinds_60 (by decide) ?_
          exact e_wk (lk1 (lk1 (lk1 (lk1 (lk1 (lk0 lkn)))))) (ih H kR kE)
        · replace H := ot c17 H
          refine e_iload dX11_arePartedKinds_40 rfl ?_
          refine e_iload_n dX11_arePartedKinds_42 rfl ?_
          replace H := ob H; obtain ⟨q18, c19, H⟩ := H
          refine s1 lmX11_395 lsX11_answerOf msX11_answerOf dX11_arePartedKinds_43 (t_X11_answerOf (d + 0) c19) rfl (Nat.le_of_ble_eq_true rfl) (Nat.le_refl _) ?_
          refine e_iload dX11_arePartedKinds_46 rfl ?_
          refine e_iload_n dX11_arePartedKinds_48 rfl ?_
          replace H := ob H; obtain ⟨q20, c21, H⟩ := H
          refine s1 lmX11_395 lsX11_answerOf msX11_answerOf dX11_arePartedKinds_49 (t_X11_answerOf (d + 0) c21) rfl (Nat.le_of_ble_eq_true rfl) (Nat.le_refl _) ?_
          refine e_icmp_eq (tgt := 57) dX11_arePartedKinds_52 (by decide) (fun c22 => ?_) (fun c22 => ?_)
          · replace H := ot c22 H
            refine e_iinc dX11_arePartedKinds_57 rfl (ii_ (by decide : Int32.ofInt (1) = (1 : Int32))) (Nat.le_of_ble_eq_true rfl) rfl rfl ?_
            refine e_goto (tgt := 3) dX11_arePartedKinds_60 (by decide) ?_
            exact e_wk (lk1 (lk1 (lk1 (lk1 (lk1 (lk0 lkn)))))) (ih H kR kE)
          · replace H := of_ c22 H
            refine e_iconst (v := (1 : Int32)) dX11_arePartedKinds_55 (by decide) ?_
            obtain rfl := Option.some.inj H
            obtain ⟨eR, eH⟩ := kR _ rfl
            exact z_iret rfl rfl dX11_arePartedKinds_56 eR eH
def f_X11_arePartedKinds (p1 : Int32) (p2 : Int32) (p3 : Int32) (h : HS) : Option Bool := (Option.bind (l_X11_arePartedKinds_3 p1 p2 p3 h 1000 (0 : Int32)) (fun q23 => (Sum.elim (fun v => some v) (fun e25 => (some false)) q23)))
set_option maxHeartbeats 4000000 in
set_option maxRecDepth 20000 in
theorem t_X11_arePartedKinds {G : GE} (d : Nat) {p1 : Int32} {p2 : Int32} {p3 : Int32} {h : HS} {q : Bool} (hY : LY TX h) (H : f_X11_arePartedKinds p1 p2 p3 h = some q) : CE G (d + 2) yX11_arePartedKinds miX11_arePartedKinds [.ref 32, .int p1, .int p2, .int p3] h (some (.int (b2i q))) (h) := by
  unfold f_X11_arePartedKinds at H
  refine ce_of rfl (by decide) (fun q => by first | rfl | cases q) (Nat.le_of_ble_eq_true rfl) rfl ?_
  refine e_iconst (v := (0 : Int32)) dX11_arePartedKinds_0 (by decide) ?_
  refine e_istore dX11_arePartedKinds_1 (Nat.le_of_ble_eq_true rfl) rfl rfl ?_
  replace H := ob H; obtain ⟨q23, c24, H⟩ := H
  refine e_wk (lk1 (lk1 (lk1 (lk1 (lk1 (lk1 lkn)))))) (w_X11_arePartedKinds_3 d hY 1000 c24 (fun v26 E0 => ?_) (fun e25 E0 => ?_))
  · subst E0; replace H := oSl H; obtain rfl := Option.some.inj H
    exact ⟨rfl, rfl⟩
  · subst E0; replace H := oSr H
    refine e_iconst (v := (0 : Int32)) dX11_arePartedKinds_63 (by decide) ?_
    obtain rfl := Option.some.inj H
    exact z_iret rfl rfl dX11_arePartedKinds_64 rfl rfl
-- X11_areParted
def l_X11_areParted_18 (y1 : Int32) (y2 : Int32) (y3 : Int32) (h : HS)  : Nat → Int32 → Option (Bool ⊕ Unit)
  | 0, _ => none
  | n + 1, x4 => (if hT h 33 = 1 then (Option.bind (f_Jx4a65c_size_8abf5 33 h) (fun q103 => (if q103 ≤ x4 then (some (Sum.inr ())) else (Option.bind (f_Jx4a65c_get_915e3 33 y3 h) (fun q107 => (om q107 none (fun b110 => (if isSt (hT h b110) = true then (Option.bind (f_Jx4a65c_get_915e3 33 x4 h) (fun q112 => (om q112 none (fun b115 => (if isSt (hT h b115) = true then (Option.bind (f_X11_isOf y1 y3) (fun q117 => (if q117 = true then (Option.bind (f_X11_isOf y1 x4) (fun q121 => (if q121 = true then (Option.bind (if (hI h b110 0) = (hI h b115 0) then (some (0 : Int32)) else (some (1 : Int32))) (fun q126 => (if q126 = 0 then (l_X11_areParted_18 y1 y2 y3 h n (x4 + (1 : Int32))) else (Option.bind (f_X11_arePartedKinds (hI h b110 0) (hI h b115 0) y2 h) (fun q130 => (if q130 = true then (l_X11_areParted_18 y1 y2 y3 h n (x4 + (1 : Int32))) else (some (Sum.inl false)))))))) else (l_X11_areParted_18 y1 y2 y3 h n (x4 + (1 : Int32)))))) else (l_X11_areParted_18 y1 y2 y3 h n (x4 + (1 : Int32)))))) else none))))) else none)))))))) else none)
set_option maxHeartbeats 4000000 in
set_option maxRecDepth 20000 in
theorem w_X11_areParted_18 {G : GE} (d : Nat) {y1 : Int32} {y2 : Int32} {y3 : Int32} {h : HS} {r : Option Value} {h' : HS} (hYTX : LY TX h) : ∀ (n : Nat) {x4 : Int32} {q : (Bool ⊕ Unit)}, l_X11_areParted_18 y1 y2 y3 h n x4 = some q → (∀ v, q = Sum.inl v → r = some (.int (b2i v)) ∧ h' = h) → (∀ e, q = Sum.inr e → En G (d + 3) miX11_areParted 119 [.ref 32, .int y1, .int y2, .int y3, dum, dum, dum, dum] [] h r h') → En G (d + 3) miX11_areParted 18 [.ref 32, .int y1, .int y2, .int y3, .int x4, dum, dum, dum] [] h r h' := by
  intro n
  induction n with
  | zero => intro x4 q H kR kE; exact nz H
  | succ n ih =>
    intro x4 q H kR kE
    unfold l_X11_areParted_18 at H
    refine e_iload dX11_areParted_18 rfl ?_
    refine g_aload_n dX11_areParted_20 rfl rfl ?_
    refine e_getR (hYTX.t 0 rfl) flX11_12_12 dX11_areParted_21 rfl (hYTX.r 0 rfl) ?_
    replace H := og H; obtain ⟨g105, H⟩ := H
    replace H := ob H; obtain ⟨q103, c104, H⟩ := H
    refine v1 (hYTX.t 1 rfl) (by decide) rfl rfl lmX11_114 liJx4a65c_size_8abf5 lvJx4a65c_Jx4a65c_size_8abf5 msJx4a65c_size_8abf5 dX11_areParted_24 (t_Jx4a65c_size_8abf5 (d + 2) c104) rfl (Nat.le_of_ble_eq_true rfl) (Nat.le_refl _) ?_
    refine e_icmp_ge (tgt := 119) dX11_areParted_27 (by decide) (fun c106 => ?_) (fun c106 => ?_)
    · replace H := ot c106 H
      obtain rfl := Option.some.inj H
      exact e_wk (lk1 (lk1 (lk1 (lk1 (lk0 (lk1 (lk1 (lk1 lkn)))))))) (kE _ rfl)
    · replace H := of_ c106 H
      refine g_aload_n dX11_areParted_30 rfl rfl ?_
      refine e_getR (hYTX.t 0 rfl) flX11_12_12 dX11_areParted_31 rfl (hYTX.r 0 rfl) ?_
      refine e_iload_n dX11_areParted_34 rfl ?_
      replace H := ob H; obtain ⟨q107, c108, H⟩ := H
      replace H := oom H; obtain ⟨e109, H⟩ | ⟨b110, e109, H⟩ := H
      · refine v1 (hYTX.t 1 rfl) (by decide) rfl rfl lmX11_276 liJx4a65c_get_915e3 lvJx4a65c_Jx4a65c_get_915e3 msJx4a65c_get_915e3 dX11_areParted_35 (ceN e109 (t_Jx4a65c_get_915e3 (d + 0) c108)) rfl (Nat.le_of_ble_eq_true rfl) (Nat.le_refl _) ?_
        exact nz H
      · refine v1 (hYTX.t 1 rfl) (by decide) rfl rfl lmX11_276 liJx4a65c_get_915e3 lvJx4a65c_Jx4a65c_get_915e3 msJx4a65c_get_915e3 dX11_areParted_35 (ceS e109 (t_Jx4a65c_get_915e3 (d + 0) c108)) rfl (Nat.le_of_ble_eq_true rfl) (Nat.le_refl _) ?_
        replace H := og H; obtain ⟨g111, H⟩ := H
        refine e_castSt g111 lcX11_131 dX11_areParted_38 ?_
        refine gmX11_140_isSt g111 dX11_areParted_41 ?_
        refine e_istore dX11_areParted_44 (Nat.le_of_ble_eq_true rfl) rfl rfl ?_
        refine g_aload_n dX11_areParted_46 rfl rfl ?_
        refine e_getR (hYTX.t 0 rfl) flX11_12_12 dX11_areParted_47 rfl (hYTX.r 0 rfl) ?_
        refine e_iload dX11_areParted_50 rfl ?_
        replace H := ob H; obtain ⟨q112, c113, H⟩ := H
        replace H := oom H; obtain ⟨e114, H⟩ | ⟨b115, e114, H⟩ := H
        · refine v1 (hYTX.t 1 rfl) (by decide) rfl rfl lmX11_276 liJx4a65c_get_915e3 lvJx4a65c_Jx4a65c_get_915e3 msJx4a65c_get_915e3 dX11_areParted_52 (ceN e114 (t_Jx4a65c_get_915e3 (d + 0) c113)) rfl (Nat.le_of_ble_eq_true rfl) (Nat.le_refl _) ?_
          exact nz H
        · refine v1 (hYTX.t 1 rfl) (by decide) rfl rfl lmX11_276 liJx4a65c_get_915e3 lvJx4a65c_Jx4a65c_get_915e3 msJx4a65c_get_915e3 dX11_areParted_52 (ceS e114 (t_Jx4a65c_get_915e3 (d + 0) c113)) rfl (Nat.le_of_ble_eq_true rfl) (Nat.le_refl _) ?_
          replace H := og H; obtain ⟨g116, H⟩ := H
          refine e_castSt g116 lcX11_131 dX11_areParted_55 ?_
          refine gmX11_140_isSt g116 dX11_areParted_58 ?_
          refine e_istore dX11_areParted_61 (Nat.le_of_ble_eq_true rfl) rfl rfl ?_
          refine e_iload_n dX11_areParted_63 rfl ?_
          refine e_iload_n dX11_areParted_64 rfl ?_
          replace H := ob H; obtain ⟨q117, c118, H⟩ := H
          refine s1 lmX11_401 lsX11_isOf msX11_isOf dX11_areParted_65 (t_X11_isOf (d + 2) c118) rfl (Nat.le_of_ble_eq_true rfl) (Nat.le_refl _) ?_
          refine e_ifB_eq (tgt := 91) dX11_areParted_68 (by decide) (fun c119 => ?_) (fun c119 => ?_)
          · replace H := of_ (nb c119) H
            refine e_iconst (v := (0 : Int32)) dX11_areParted_91 (by decide) ?_
            refine e_istore dX11_areParted_92 (Nat.le_of_ble_eq_true rfl) rfl rfl ?_
            refine e_iload dX11_areParted_94 rfl ?_
            refine e_if_eq (tgt := 113) dX11_areParted_96 (by decide) (fun c120 => ?_) (fun c120 => absurd c120 (by decide))
            refine e_iinc dX11_areParted_113 rfl (ii_ (by decide : Int32.ofInt (1) = (1 : Int32))) (Nat.le_of_ble_eq_true rfl) rfl rfl ?_
            refine e_goto (tgt := 18) dX11_areParted_116 (by decide) ?_
            exact e_wk (lk1 (lk1 (lk1 (lk1 (lk1 (lk0 (lk0 (lk0 lkn)))))))) (ih H kR kE)
          · replace H := ot c119 H
            refine e_iload_n dX11_areParted_71 rfl ?_
            refine e_iload dX11_areParted_72 rfl ?_
            replace H := ob H; obtain ⟨q121, c122, H⟩ := H
            refine s1 lmX11_401 lsX11_isOf msX11_isOf dX11_areParted_74 (t_X11_isOf (d + 2) c122) rfl (Nat.le_of_ble_eq_true rfl) (Nat.le_refl _) ?_
            refine e_ifB_eq (tgt := 91) dX11_areParted_77 (by decide) (fun c123 => ?_) (fun c123 => ?_)
            · replace H := of_ (nb c123) H
              refine e_iconst (v := (0 : Int32)) dX11_areParted_91 (by decide) ?_
              refine e_istore dX11_areParted_92 (Nat.le_of_ble_eq_true rfl) rfl rfl ?_
              refine e_iload dX11_areParted_94 rfl ?_
              refine e_if_eq (tgt := 113) dX11_areParted_96 (by decide) (fun c124 => ?_) (fun c124 => absurd c124 (by decide))
              refine e_iinc dX11_areParted_113 rfl (ii_ (by decide : Int32.ofInt (1) = (1 : Int32))) (Nat.le_of_ble_eq_true rfl) rfl rfl ?_
              refine e_goto (tgt := 18) dX11_areParted_116 (by decide) ?_
              exact e_wk (lk1 (lk1 (lk1 (lk1 (lk1 (lk0 (lk0 (lk0 lkn)))))))) (ih H kR kE)
            · replace H := ot c123 H
              refine e_iload dX11_areParted_80 rfl ?_
              refine e_iload dX11_areParted_82 rfl ?_
              replace H := ob H; obtain ⟨q126, c128, H⟩ := H
              have k127 : En G (d + 3) miX11_areParted 92 [.ref 32, .int y1, .int y2, .int y3, .int x4, .int (hI h b110 0), .int (hI h b115 0), dum] [.int q126] h r h' := by
                refine e_istore dX11_areParted_92 (Nat.le_of_ble_eq_true rfl) rfl rfl ?_
                refine e_iload dX11_areParted_94 rfl ?_
                refine e_if_eq (tgt := 113) dX11_areParted_96 (by decide) (fun c129 => ?_) (fun c129 => ?_)
                · replace H := ot c129 H
                  refine e_iinc dX11_areParted_113 rfl (ii_ (by decide : Int32.ofInt (1) = (1 : Int32))) (Nat.le_of_ble_eq_true rfl) rfl rfl ?_
                  refine e_goto (tgt := 18) dX11_areParted_116 (by decide) ?_
                  exact e_wk (lk1 (lk1 (lk1 (lk1 (lk1 (lk0 (lk0 (lk0 lkn)))))))) (ih H kR kE)
                · replace H := of_ c129 H
                  refine g_aload_n dX11_areParted_99 rfl rfl ?_
                  refine e_iload dX11_areParted_100 rfl ?_
                  refine e_iload dX11_areParted_102 rfl ?_
                  refine e_iload_n dX11_areParted_104 rfl ?_
                  replace H := ob H; obtain ⟨q130, c131, H⟩ := H
                  refine v1 (hYTX.t 0 rfl) (by decide) rfl rfl lmX11_404 liX11_arePartedKinds lvX11_X11_arePartedKinds msX11_arePartedKinds dX11_areParted_105 (t_X11_arePartedKinds (d + 0) hYTX c131) rfl (Nat.le_of_ble_eq_true rfl) (Nat.le_refl _) ?_
                  refine e_ifB_ne (tgt := 113) dX11_areParted_108 (by decide) (fun c132 => ?_) (fun c132 => ?_)
                  · replace H := ot c132 H
                    refine e_iinc dX11_areParted_113 rfl (ii_ (by decide : Int32.ofInt (1) = (1 : Int32))) (Nat.le_of_ble_eq_true rfl) rfl rfl ?_
                    refine e_goto (tgt := 18) dX11_areParted_116 (by decide) ?_
                    exact e_wk (lk1 (lk1 (lk1 (lk1 (lk1 (lk0 (lk0 (lk0 lkn)))))))) (ih H kR kE)
                  · replace H := of_ (nb c132) H
                    refine e_iconst (v := (0 : Int32)) dX11_areParted_111 (by decide) ?_
                    obtain rfl := Option.some.inj H
                    obtain ⟨eR, eH⟩ := kR _ rfl
                    exact z_iret rfl rfl dX11_areParted_112 eR eH
              replace H := c128
              refine e_icmp_eq (tgt := 91) dX11_areParted_84 (by decide) (fun c125 => ?_) (fun c125 => ?_)
              · replace H := ot c125 H
                refine e_iconst (v := (0 : Int32)) dX11_areParted_91 (by decide) ?_
                obtain rfl := Option.some.inj H
                exact e_wk (lk1 (lk1 (lk1 (lk1 (lk1 (lk1 (lk1 (lk1 lkn)))))))) k127
              · replace H := of_ c125 H
                refine e_iconst (v := (1 : Int32)) dX11_areParted_87 (by decide) ?_
                refine e_goto (tgt := 92) dX11_areParted_88 (by decide) ?_
                obtain rfl := Option.some.inj H
                exact e_wk (lk1 (lk1 (lk1 (lk1 (lk1 (lk1 (lk1 (lk1 lkn)))))))) k127
def l_X11_areParted_2 (y1 : Int32) (y2 : Int32) (h : HS)  : Nat → Int32 → Option (Bool ⊕ Unit)
  | 0, _ => none
  | n + 1, x3 => (if hT h 33 = 1 then (Option.bind (f_Jx4a65c_size_8abf5 33 h) (fun q69 => (if q69 ≤ x3 then (some (Sum.inr ())) else (Option.bind (l_X11_areParted_18 y1 y2 x3 h 1000 (x3 + (1 : Int32))) (fun q133 => (Sum.elim (fun v => some (Sum.inl v)) (fun e135 => (l_X11_areParted_2 y1 y2 h n (x3 + (1 : Int32)))) q133)))))) else none)
set_option maxHeartbeats 4000000 in
set_option maxRecDepth 20000 in
theorem w_X11_areParted_2 {G : GE} (d : Nat) {y1 : Int32} {y2 : Int32} {h : HS} {r : Option Value} {h' : HS} (hYTX : LY TX h) : ∀ (n : Nat) {x3 : Int32} {q : (Bool ⊕ Unit)}, l_X11_areParted_2 y1 y2 h n x3 = some q → (∀ v, q = Sum.inl v → r = some (.int (b2i v)) ∧ h' = h) → (∀ e, q = Sum.inr e → En G (d + 3) miX11_areParted 125 [dum, dum, dum, dum, dum, dum, dum, dum] [] h r h') → En G (d + 3) miX11_areParted 2 [.ref 32, .int y1, .int y2, .int x3, dum, dum, dum, dum] [] h r h' := by
  intro n
  induction n with
  | zero => intro x3 q H kR kE; exact nz H
  | succ n ih =>
    intro x3 q H kR kE
    unfold l_X11_areParted_2 at H
    refine e_iload_n dX11_areParted_2 rfl ?_
    refine g_aload_n dX11_areParted_3 rfl rfl ?_
    refine e_getR (hYTX.t 0 rfl) flX11_12_12 dX11_areParted_4 rfl (hYTX.r 0 rfl) ?_
    replace H := og H; obtain ⟨g71, H⟩ := H
    replace H := ob H; obtain ⟨q69, c70, H⟩ := H
    refine v1 (hYTX.t 1 rfl) (by decide) rfl rfl lmX11_114 liJx4a65c_size_8abf5 lvJx4a65c_Jx4a65c_size_8abf5 msJx4a65c_size_8abf5 dX11_areParted_7 (t_Jx4a65c_size_8abf5 (d + 2) c70) rfl (Nat.le_of_ble_eq_true rfl) (Nat.le_refl _) ?_
    refine e_icmp_ge (tgt := 125) dX11_areParted_10 (by decide) (fun c72 => ?_) (fun c72 => ?_)
    · replace H := ot c72 H
      obtain rfl := Option.some.inj H
      exact e_wk (lk0 (lk0 (lk0 (lk0 (lk1 (lk1 (lk1 (lk1 lkn)))))))) (kE _ rfl)
    · replace H := of_ c72 H
      refine e_iload_n dX11_areParted_13 rfl ?_
      refine e_iconst (v := (1 : Int32)) dX11_areParted_14 (by decide) ?_
      refine e_iadd dX11_areParted_15 ?_
      refine e_istore dX11_areParted_16 (Nat.le_of_ble_eq_true rfl) rfl rfl ?_
      replace H := ob H; obtain ⟨q133, c134, H⟩ := H
      refine e_wk (lk1 (lk1 (lk1 (lk1 (lk1 (lk1 (lk1 (lk1 lkn)))))))) (w_X11_areParted_18 d hYTX 1000 c134 (fun v136 E0 => ?_) (fun e135 E0 => ?_))
      · subst E0; replace H := oSl H; obtain rfl := Option.some.inj H
        exact kR _ rfl
      · subst E0; replace H := oSr H
        refine e_iinc dX11_areParted_119 rfl (ii_ (by decide : Int32.ofInt (1) = (1 : Int32))) (Nat.le_of_ble_eq_true rfl) rfl rfl ?_
        refine e_goto (tgt := 2) dX11_areParted_122 (by decide) ?_
        exact e_wk (lk1 (lk1 (lk1 (lk1 (lk1 (lk1 (lk1 (lk1 lkn)))))))) (ih H kR kE)
def f_X11_areParted (p1 : Int32) (p2 : Int32) (h : HS) : Option Bool := (Option.bind (l_X11_areParted_2 p1 p2 h 1000 (0 : Int32)) (fun q137 => (Sum.elim (fun v => some v) (fun e139 => (some true)) q137)))
set_option maxHeartbeats 4000000 in
set_option maxRecDepth 20000 in
theorem t_X11_areParted {G : GE} (d : Nat) {p1 : Int32} {p2 : Int32} {h : HS} {q : Bool} (hY : LY TX h) (H : f_X11_areParted p1 p2 h = some q) : CE G (d + 3) yX11_areParted miX11_areParted [.ref 32, .int p1, .int p2] h (some (.int (b2i q))) (h) := by
  unfold f_X11_areParted at H
  refine ce_of rfl (by decide) (fun q => by first | rfl | cases q) (Nat.le_of_ble_eq_true rfl) rfl ?_
  refine e_iconst (v := (0 : Int32)) dX11_areParted_0 (by decide) ?_
  refine e_istore_n dX11_areParted_1 (Nat.le_of_ble_eq_true rfl) rfl rfl ?_
  replace H := ob H; obtain ⟨q137, c138, H⟩ := H
  refine e_wk (lk1 (lk1 (lk1 (lk1 (lk1 (lk1 (lk1 (lk1 lkn)))))))) (w_X11_areParted_2 d hY 1000 c138 (fun v140 E0 => ?_) (fun e139 E0 => ?_))
  · subst E0; replace H := oSl H; obtain rfl := Option.some.inj H
    exact ⟨rfl, rfl⟩
  · subst E0; replace H := oSr H
    refine e_iconst (v := (1 : Int32)) dX11_areParted_125 (by decide) ?_
    obtain rfl := Option.some.inj H
    exact z_iret rfl rfl dX11_areParted_126 rfl rfl
-- X11_find
def l_X11_find_30 (y1 : Int32) (y2 : Int32) (h : HS)  : Nat → Int32 → Int32 → Int32 → Option (Int32 × Int32)
  | 0, _, _, _ => none
  | n + 1, x3, x4, x5 => (if ((1 : Int32) <<< ((hI h 32 8) &&& 31)) ≤ x5 then (some (x3, x4)) else (Option.bind (f_X11_hoursOfTests x5 h) (fun q21 => (if x3 = (-1 : Int32) then (Option.bind (f_X11_areParted y1 x5 h) (fun q24 => (if q24 = true then (l_X11_find_30 y1 y2 h n x5 q21 (x5 + (1 : Int32))) else (l_X11_find_30 y1 y2 h n x3 x4 (x5 + (1 : Int32)))))) else (if x4 ≤ q21 then (l_X11_find_30 y1 y2 h n x3 x4 (x5 + (1 : Int32))) else (Option.bind (f_X11_areParted y1 x5 h) (fun q28 => (if q28 = true then (l_X11_find_30 y1 y2 h n x5 q21 (x5 + (1 : Int32))) else (l_X11_find_30 y1 y2 h n x3 x4 (x5 + (1 : Int32)))))))))))
set_option maxHeartbeats 4000000 in
set_option maxRecDepth 20000 in
theorem w_X11_find_30 {G : GE} (d : Nat) {y1 : Int32} {y2 : Int32} {h : HS} {r : Option Value} {h' : HS} (hYTX : LY TX h) : ∀ (n : Nat) {x3 : Int32} {x4 : Int32} {x5 : Int32} {q : (Int32 × Int32)}, l_X11_find_30 y1 y2 h n x3 x4 x5 = some q → En G (d + 4) miX11_find 84 [dum, dum, .int y2, .int q.1, .int q.2, dum, dum] [] h r h' → En G (d + 4) miX11_find 30 [.ref 32, .int y1, .int y2, .int x3, .int x4, .int x5, dum] [] h r h' := by
  intro n
  induction n with
  | zero => intro x3 x4 x5 q H kE; exact nz H
  | succ n ih =>
    intro x3 x4 x5 q H kE
    unfold l_X11_find_30 at H
    refine e_iload dX11_find_30 rfl ?_
    refine e_iconst (v := (1 : Int32)) dX11_find_32 (by decide) ?_
    refine g_aload_n dX11_find_33 rfl rfl ?_
    refine e_getI (hYTX.t 0 rfl) flX11_39_12 dX11_find_34 rfl ?_
    refine e_ishl dX11_find_37 ?_
    refine e_icmp_ge (tgt := 84) dX11_find_38 (by decide) (fun c20 => ?_) (fun c20 => ?_)
    · replace H := ot c20 H
      obtain rfl := Option.some.inj H
      exact e_wk (lk0 (lk0 (lk1 (lk1 (lk1 (lk0 (lk1 lkn))))))) kE
    · replace H := of_ c20 H
      refine g_aload_n dX11_find_41 rfl rfl ?_
      refine e_iload dX11_find_42 rfl ?_
      replace H := ob H; obtain ⟨q21, c22, H⟩ := H
      refine v1 (hYTX.t 0 rfl) (by decide) rfl rfl lmX11_355 liX11_hoursOfTests lvX11_X11_hoursOfTests msX11_hoursOfTests dX11_find_44 (t_X11_hoursOfTests (d + 2) hYTX c22) rfl (Nat.le_of_ble_eq_true rfl) (Nat.le_refl _) ?_
      refine e_istore dX11_find_47 (Nat.le_of_ble_eq_true rfl) rfl rfl ?_
      refine e_iload_n dX11_find_49 rfl ?_
      refine e_iconst (v := (-1 : Int32)) dX11_find_50 (by decide) ?_
      refine e_icmp_eq (tgt := 61) dX11_find_51 (by decide) (fun c23 => ?_) (fun c23 => ?_)
      · replace H := ot c23 H
        refine g_aload_n dX11_find_61 rfl rfl ?_
        refine e_iload_n dX11_find_62 rfl ?_
        refine e_iload dX11_find_63 rfl ?_
        replace H := ob H; obtain ⟨q24, c25, H⟩ := H
        refine v1 (hYTX.t 0 rfl) (by decide) rfl rfl lmX11_358 liX11_areParted lvX11_X11_areParted msX11_areParted dX11_find_65 (t_X11_areParted (d + 0) hYTX c25) rfl (Nat.le_of_ble_eq_true rfl) (Nat.le_refl _) ?_
        refine e_ifB_eq (tgt := 78) dX11_find_68 (by decide) (fun c26 => ?_) (fun c26 => ?_)
        · replace H := of_ (nb c26) H
          refine e_iinc dX11_find_78 rfl (ii_ (by decide : Int32.ofInt (1) = (1 : Int32))) (Nat.le_of_ble_eq_true rfl) rfl rfl ?_
          refine e_goto (tgt := 30) dX11_find_81 (by decide) ?_
          exact e_wk (lk1 (lk1 (lk1 (lk1 (lk1 (lk1 (lk0 lkn))))))) (ih H kE)
        · replace H := ot c26 H
          refine e_iload dX11_find_71 rfl ?_
          refine e_istore_n dX11_find_73 (Nat.le_of_ble_eq_true rfl) rfl rfl ?_
          refine e_iload dX11_find_74 rfl ?_
          refine e_istore dX11_find_76 (Nat.le_of_ble_eq_true rfl) rfl rfl ?_
          refine e_iinc dX11_find_78 rfl (ii_ (by decide : Int32.ofInt (1) = (1 : Int32))) (Nat.le_of_ble_eq_true rfl) rfl rfl ?_
          refine e_goto (tgt := 30) dX11_find_81 (by decide) ?_
          exact e_wk (lk1 (lk1 (lk1 (lk1 (lk1 (lk1 (lk0 lkn))))))) (ih H kE)
      · replace H := of_ c23 H
        refine e_iload dX11_find_54 rfl ?_
        refine e_iload dX11_find_56 rfl ?_
        refine e_icmp_ge (tgt := 78) dX11_find_58 (by decide) (fun c27 => ?_) (fun c27 => ?_)
        · replace H := ot c27 H
          refine e_iinc dX11_find_78 rfl (ii_ (by decide : Int32.ofInt (1) = (1 : Int32))) (Nat.le_of_ble_eq_true rfl) rfl rfl ?_
          refine e_goto (tgt := 30) dX11_find_81 (by decide) ?_
          exact e_wk (lk1 (lk1 (lk1 (lk1 (lk1 (lk1 (lk0 lkn))))))) (ih H kE)
        · replace H := of_ c27 H
          refine g_aload_n dX11_find_61 rfl rfl ?_
          refine e_iload_n dX11_find_62 rfl ?_
          refine e_iload dX11_find_63 rfl ?_
          replace H := ob H; obtain ⟨q28, c29, H⟩ := H
          refine v1 (hYTX.t 0 rfl) (by decide) rfl rfl lmX11_358 liX11_areParted lvX11_X11_areParted msX11_areParted dX11_find_65 (t_X11_areParted (d + 0) hYTX c29) rfl (Nat.le_of_ble_eq_true rfl) (Nat.le_refl _) ?_
          refine e_ifB_eq (tgt := 78) dX11_find_68 (by decide) (fun c30 => ?_) (fun c30 => ?_)
          · replace H := of_ (nb c30) H
            refine e_iinc dX11_find_78 rfl (ii_ (by decide : Int32.ofInt (1) = (1 : Int32))) (Nat.le_of_ble_eq_true rfl) rfl rfl ?_
            refine e_goto (tgt := 30) dX11_find_81 (by decide) ?_
            exact e_wk (lk1 (lk1 (lk1 (lk1 (lk1 (lk1 (lk0 lkn))))))) (ih H kE)
          · replace H := ot c30 H
            refine e_iload dX11_find_71 rfl ?_
            refine e_istore_n dX11_find_73 (Nat.le_of_ble_eq_true rfl) rfl rfl ?_
            refine e_iload dX11_find_74 rfl ?_
            refine e_istore dX11_find_76 (Nat.le_of_ble_eq_true rfl) rfl rfl ?_
            refine e_iinc dX11_find_78 rfl (ii_ (by decide : Int32.ofInt (1) = (1 : Int32))) (Nat.le_of_ble_eq_true rfl) rfl rfl ?_
            refine e_goto (tgt := 30) dX11_find_81 (by decide) ?_
            exact e_wk (lk1 (lk1 (lk1 (lk1 (lk1 (lk1 (lk0 lkn))))))) (ih H kE)
def f_X11_find (p1 : Int32) (p2 : Int32) (h : HS) : Option Int32 := (Option.bind (f_X11_allStalls h) (fun q1 => (Option.bind (f_X11_isIn p1 (0 : Int32) q1) (fun q3 => (if q3 = true then (Option.bind (f_X11_isBit p2) (fun q6 => (if q6 = true then (Option.bind (l_X11_find_30 p1 p2 h 1000 (-1 : Int32) (-1 : Int32) (0 : Int32)) (fun q31 => (if p2 = 0 then (some q31.1) else (some q31.2)))) else (some (-2 : Int32))))) else (some (-2 : Int32)))))))
set_option maxHeartbeats 4000000 in
set_option maxRecDepth 20000 in
theorem t_X11_find {G : GE} (d : Nat) {p1 : Int32} {p2 : Int32} {h : HS} {q : Int32} (hY : LY TX h) (H : f_X11_find p1 p2 h = some q) : CE G (d + 4) yX11_find miX11_find [.ref 32, .int p1, .int p2] h (some (.int q)) (h) := by
  unfold f_X11_find at H
  refine ce_of rfl (by decide) (fun q => by first | rfl | cases q) (Nat.le_of_ble_eq_true rfl) rfl ?_
  refine e_iload_n dX11_find_0 rfl ?_
  refine e_iconst (v := (0 : Int32)) dX11_find_1 (by decide) ?_
  refine g_aload_n dX11_find_2 rfl rfl ?_
  replace H := ob H; obtain ⟨q1, c2, H⟩ := H
  refine v1 (hY.t 0 rfl) (by decide) rfl rfl lmX11_352 liX11_allStalls lvX11_X11_allStalls msX11_allStalls dX11_find_3 (t_X11_allStalls (d + 2) hY c2) rfl (Nat.le_of_ble_eq_true rfl) (Nat.le_refl _) ?_
  replace H := ob H; obtain ⟨q3, c4, H⟩ := H
  refine s1 lmX11_106 lsX11_isIn msX11_isIn dX11_find_6 (t_X11_isIn (d + 3) c4) rfl (Nat.le_of_ble_eq_true rfl) (Nat.le_refl _) ?_
  refine e_ifB_eq (tgt := 19) dX11_find_9 (by decide) (fun c5 => ?_) (fun c5 => ?_)
  · replace H := of_ (nb c5) H
    refine e_bipush (v := (-2 : Int32)) dX11_find_19 (by decide) ?_
    obtain rfl := Option.some.inj H
    exact z_iret rfl rfl dX11_find_21 rfl rfl
  · replace H := ot c5 H
    refine e_iload_n dX11_find_12 rfl ?_
    replace H := ob H; obtain ⟨q6, c7, H⟩ := H
    refine s1 lmX11_186 lsX11_isBit msX11_isBit dX11_find_13 (t_X11_isBit (d + 3) c7) rfl (Nat.le_of_ble_eq_true rfl) (Nat.le_refl _) ?_
    refine e_ifB_ne (tgt := 22) dX11_find_16 (by decide) (fun c8 => ?_) (fun c8 => ?_)
    · replace H := ot c8 H
      refine e_iconst (v := (-1 : Int32)) dX11_find_22 (by decide) ?_
      refine e_istore_n dX11_find_23 (Nat.le_of_ble_eq_true rfl) rfl rfl ?_
      refine e_iconst (v := (-1 : Int32)) dX11_find_24 (by decide) ?_
      refine e_istore dX11_find_25 (Nat.le_of_ble_eq_true rfl) rfl rfl ?_
      refine e_iconst (v := (0 : Int32)) dX11_find_27 (by decide) ?_
      refine e_istore dX11_find_28 (Nat.le_of_ble_eq_true rfl) rfl rfl ?_
      replace H := ob H; obtain ⟨q31, c32, H⟩ := H
      refine e_wk (lk1 (lk1 (lk1 (lk1 (lk1 (lk1 (lk1 lkn))))))) (w_X11_find_30 d hY 1000 c32 ?_)
      refine e_iload_n dX11_find_84 rfl ?_
      refine e_if_ne (tgt := 92) dX11_find_85 (by decide) (fun c33 => ?_) (fun c33 => ?_)
      · replace H := of_ c33 H
        refine e_iload dX11_find_92 rfl ?_
        obtain rfl := Option.some.inj H
        exact z_iret rfl rfl dX11_find_94 rfl rfl
      · replace H := ot c33 H
        refine e_iload_n dX11_find_88 rfl ?_
        refine e_goto (tgt := 94) dX11_find_89 (by decide) ?_
        obtain rfl := Option.some.inj H
        exact z_iret rfl rfl dX11_find_94 rfl rfl
    · replace H := of_ (nb c8) H
      refine e_bipush (v := (-2 : Int32)) dX11_find_19 (by decide) ?_
      obtain rfl := Option.some.inj H
      exact z_iret rfl rfl dX11_find_21 rfl rfl
