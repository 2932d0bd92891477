-- X11_allStalls
def f_X11_allStalls  (h : HS) : Option Int32 := (if hT h 33 = 1 then (Option.bind (f_Jx4a65c_size_8abf5 33 h) (fun q1 => (some (((1 : Int32) <<< (q1 &&& 31)) - (1 : Int32))))) else none)
set_option maxHeartbeats 4000000 in
set_option maxRecDepth 20000 in
theorem t_X11_allStalls {G : GE} (d : Nat)  {h : HS} {q : Int32} (hY : LY TX h) (H : f_X11_allStalls h = some q) : CE G (d + 1) yX11_allStalls miX11_allStalls [.ref 32] h (some (.int q)) (h) := by
  unfold f_X11_allStalls at H
  refine ce_of rfl (by decide) (fun q => by first | rfl | cases q) (Nat.le_of_ble_eq_true rfl) rfl ?_
  refine e_iconst (v := (1 : Int32)) dX11_allStalls_0 (by decide) ?_
  refine g_aload_n dX11_allStalls_1 rfl rfl ?_
  refine e_getR (hY.t 0 rfl) flX11_12_12 dX11_allStalls_2 rfl (hY.r 0 rfl) ?_
  replace H := og H; obtain ⟨g3, H⟩ := H
  replace H := ob H; obtain ⟨q1, c2, H⟩ := H
  refine v1 (hY.t 1 rfl) (by decide) rfl rfl lmX11_114 liJx4a65c_size_8abf5 lvJx4a65c_Jx4a65c_size_8abf5 msJx4a65c_size_8abf5 dX11_allStalls_5 (t_Jx4a65c_size_8abf5 (d + 0) c2) rfl (Nat.le_of_ble_eq_true rfl) (Nat.le_refl _) ?_
  refine e_ishl dX11_allStalls_8 ?_
  refine e_iconst (v := (1 : Int32)) dX11_allStalls_9 (by decide) ?_
  refine e_isub dX11_allStalls_10 ?_
  obtain rfl := Option.some.inj H
  exact z_iret rfl rfl dX11_allStalls_11 rfl rfl
-- X11_isOf
def f_X11_isOf (p0 : Int32) (p1 : Int32) : Option Bool := (if ((p0 >>> (p1 &&& 31)) &&& (1 : Int32)) = (1 : Int32) then (some true) else (some false))
set_option maxHeartbeats 4000000 in
set_option maxRecDepth 20000 in
theorem t_X11_isOf {G : GE} (d : Nat) {p0 : Int32} {p1 : Int32} {h : HS} {q : Bool} (H : f_X11_isOf p0 p1 = some q) : CE G (d + 0) yX11_isOf miX11_isOf [.int p0, .int p1] h (some (.int (b2i q))) (h) := by
  unfold f_X11_isOf at H
  refine ce_of rfl (by decide) (fun q => by first | rfl | cases q) (Nat.le_of_ble_eq_true rfl) rfl ?_
  refine e_iload_n dX11_isOf_0 rfl ?_
  refine e_iload_n dX11_isOf_1 rfl ?_
  refine e_ishr dX11_isOf_2 ?_
  refine e_iconst (v := (1 : Int32)) dX11_isOf_3 (by decide) ?_
  refine e_iand dX11_isOf_4 ?_
  refine e_iconst (v := (1 : Int32)) dX11_isOf_5 (by decide) ?_
  refine e_icmp_ne (tgt := 13) dX11_isOf_6 (by decide) (fun c1 => ?_) (fun c1 => ?_)
  · replace H := of_ c1 H
    refine e_iconst (v := (0 : Int32)) dX11_isOf_13 (by decide) ?_
    obtain rfl := Option.some.inj H
    exact z_iret rfl rfl dX11_isOf_14 rfl rfl
  · replace H := ot c1 H
    refine e_iconst (v := (1 : Int32)) dX11_isOf_9 (by decide) ?_
    refine e_goto (tgt := 14) dX11_isOf_10 (by decide) ?_
    obtain rfl := Option.some.inj H
    exact z_iret rfl rfl dX11_isOf_14 rfl rfl
-- X11_hoursOfTests
def l_X11_hoursOfTests_4 (y1 : Int32) (h : HS)  : Nat → Int32 → Int32 → Option Int32
  | 0, _, _ => none
  | n + 1, x2, x3 => (if (hI h 32 8) ≤ x3 then (some x2) else (if (6 : Int32) ≤ x3 then (some x2) else (Option.bind (f_X11_isOf y1 x3) (fun q9 => (if q9 = true then (if ixb x3 6 = true then (l_X11_hoursOfTests_4 y1 h n (x2 + (hI h 37 x3.toNatClampNeg)) (x3 + (1 : Int32))) else none) else (l_X11_hoursOfTests_4 y1 h n (x2 + (0 : Int32)) (x3 + (1 : Int32))))))))
set_option maxHeartbeats 4000000 in
set_option maxRecDepth 20000 in
theorem w_X11_hoursOfTests_4 {G : GE} (d : Nat) {y1 : Int32} {h : HS} {r : Option Value} {h' : HS} (hYTX : LY TX h) : ∀ (n : Nat) {x2 : Int32} {x3 : Int32} {q : Int32}, l_X11_hoursOfTests_4 y1 h n x2 x3 = some q → En G (d + 1) miX11_hoursOfTests 48 [dum, dum, .int q, dum] [] h r h' → En G (d + 1) miX11_hoursOfTests 4 [.ref 32, .int y1, .int x2, .int x3] [] h r h' := by
  intro n
  induction n with
  | zero => intro x2 x3 q H kE; exact nz H
  | succ n ih =>
    intro x2 x3 q H kE
    unfold l_X11_hoursOfTests_4 at H
    refine e_iload_n dX11_hoursOfTests_4 rfl ?_
    refine g_aload_n dX11_hoursOfTests_5 rfl rfl ?_
    refine e_getI (hYTX.t 0 rfl) flX11_39_12 dX11_hoursOfTests_6 rfl ?_
    refine e_icmp_ge (tgt := 48) dX11_hoursOfTests_9 (by decide) (fun c7 => ?_) (fun c7 => ?_)
    · replace H := ot c7 H
      obtain rfl := Option.some.inj H
      exact e_wk (lk0 (lk0 (lk1 (lk0 lkn)))) kE
    · replace H := of_ c7 H
      refine e_iload_n dX11_hoursOfTests_12 rfl ?_
      refine g_aload_n dX11_hoursOfTests_13 rfl rfl ?_
      refine e_getR (hYTX.t 0 rfl) flX11_33_12 dX11_hoursOfTests_14 rfl (hYTX.r 4 rfl) ?_
      refine e_alen (hYTX.t 5 rfl) (by decide) dX11_hoursOfTests_17 ?_
      refine e_ci (y := (6 : Int32)) (by rw [(hYTX.n 5 rfl)]; rfl) ?_
      refine e_icmp_ge (tgt := 48) dX11_hoursOfTests_18 (by decide) (fun c8 => ?_) (fun c8 => ?_)
      · replace H := ot c8 H
        obtain rfl := Option.some.inj H
        exact e_wk (lk0 (lk0 (lk1 (lk0 lkn)))) kE
      · replace H := of_ c8 H
        refine e_iload_n dX11_hoursOfTests_21 rfl ?_
        refine e_iload_n dX11_hoursOfTests_22 rfl ?_
        refine e_iload_n dX11_hoursOfTests_23 rfl ?_
        replace H := ob H; obtain ⟨q9, c10, H⟩ := H
        refine s1 lmX11_401 lsX11_isOf msX11_isOf dX11_hoursOfTests_24 (t_X11_isOf (d + 0) c10) rfl (Nat.le_of_ble_eq_true rfl) (Nat.le_refl _) ?_
        refine e_ifB_eq (tgt := 39) dX11_hoursOfTests_27 (by decide) (fun c11 => ?_) (fun c11 => ?_)
        · replace H := of_ (nb c11) H
          refine e_iconst (v := (0 : Int32)) dX11_hoursOfTests_39 (by decide) ?_
          refine e_iadd dX11_hoursOfTests_40 ?_
          refine e_istore_n dX11_hoursOfTests_41 (Nat.le_of_ble_eq_true rfl) rfl rfl ?_
          refine e_iinc dX11_hoursOfTests_42 rfl (ii_ (by decide : Int32.ofInt (1) = (1 : Int32))) (Nat.le_of_ble_eq_true rfl) rfl rfl ?_
          refine e_goto (tgt := 4) dX11_hoursOfTests_45 (by decide) ?_
          exact e_wk (lk1 (lk1 (lk1 (lk1 lkn)))) (ih H kE)
        · replace H := ot c11 H
          refine g_aload_n dX11_hoursOfTests_30 rfl rfl ?_
          refine e_getR (hYTX.t 0 rfl) flX11_33_12 dX11_hoursOfTests_31 rfl (hYTX.r 4 rfl) ?_
          refine e_iload_n dX11_hoursOfTests_34 rfl ?_
          replace H := og H; obtain ⟨g12, H⟩ := H
          refine e_iald (hYTX.t 5 rfl) (ixb_y (hYTX.n 5 rfl) g12) dX11_hoursOfTests_35 ?_
          refine e_goto (tgt := 40) dX11_hoursOfTests_36 (by decide) ?_
          refine e_iadd dX11_hoursOfTests_40 ?_
          refine e_istore_n dX11_hoursOfTests_41 (Nat.le_of_ble_eq_true rfl) rfl rfl ?_
          refine e_iinc dX11_hoursOfTests_42 rfl (ii_ (by decide : Int32.ofInt (1) = (1 : Int32))) (Nat.le_of_ble_eq_true rfl) rfl rfl ?_
          refine e_goto (tgt := 4) dX11_hoursOfTests_45 (by decide) ?_
          exact e_wk (lk1 (lk1 (lk1 (lk1 lkn)))) (ih H kE)
def f_X11_hoursOfTests (p1 : Int32) (h : HS) : Option Int32 := (Option.bind (l_X11_hoursOfTests_4 p1 h 1000 (0 : Int32) (0 : Int32)) (fun q13 => (some q13)))
set_option maxHeartbeats 4000000 in
set_option maxRecDepth 20000 in
theorem t_X11_hoursOfTests {G : GE} (d : Nat) {p1 : Int32} {h : HS} {q : Int32} (hY : LY TX h) (H : f_X11_hoursOfTests p1 h = some q) : CE G (d + 1) yX11_hoursOfTests miX11_hoursOfTests [.ref 32, .int p1] h (some (.int q)) (h) := by
  unfold f_X11_hoursOfTests at H
  refine ce_of rfl (by decide) (fun q => by first | rfl | cases q) (Nat.le_of_ble_eq_true rfl) rfl ?_
  refine e_iconst (v := (0 : Int32)) dX11_hoursOfTests_0 (by decide) ?_
  refine e_istore_n dX11_hoursOfTests_1 (Nat.le_of_ble_eq_true rfl) rfl rfl ?_
  refine e_iconst (v := (0 : Int32)) dX11_hoursOfTests_2 (by decide) ?_
  refine e_istore_n dX11_hoursOfTests_3 (Nat.le_of_ble_eq_true rfl) rfl rfl ?_
  replace H := ob H; obtain ⟨q13, c14, H⟩ := H
  refine e_wk (lk1 (lk1 (lk1 (lk1 lkn)))) (w_X11_hoursOfTests_4 d hY 1000 c14 ?_)
  refine e_iload_n dX11_hoursOfTests_48 rfl ?_
  obtain rfl := Option.some.inj H
  exact z_iret rfl rfl dX11_hoursOfTests_49 rfl rfl
-- X11_arePartedKinds
def l_X11_arePartedKinds_3 (y1 : Int32) (y2 : Int32) (y3 : Int32) (h : HS)  : Nat → Int32 → Option (Bool ⊕ Unit)
  | 0, _ => none
  | n + 1, x4 => (if (hI h 32 8) ≤ x4 then (some (Sum.inr ())) else (if (6 : Int32) ≤ x4 then (some (Sum.inr ())) else (if ixb x4 6 = true then (Option.bind (f_X11_isOf y3 x4) (fun q15 => (if q15 = true then (Option.bind (f_X11_answerOf (hI h 38 x4.toNatClampNeg) y1) (fun q18 => (Option.bind (f_X11_answerOf (hI h 38 x4.toNatClampNeg) y2) (fun q20 => (if q18 = q20 then (l_X11_arePartedKinds_3 y1 y2 y3 h n (x4 + (1 : Int32))) else (some (Sum.inl true))))))) else (l_X11_arePartedKinds_3 y1 y2 y3 h n (x4 + (1 : Int32)))))) else none)))
set_option maxHeartbeats 4000000 in
set_option maxRecDepth 20000 in
theorem w_X11_arePartedKinds_3 {G : GE} (d : Nat) {y1 : Int32} {y2 : Int32} {y3 : Int32} {h : HS} {r : Option Value} {h' : HS} (hYTX : LY TX h) : ∀ (n : Nat) {x4 : Int32} {q : (Bool ⊕ Unit)}, l_X11_arePartedKinds_3 y1 y2 y3 h n x4 = some q → (∀ v, q = Sum.inl v → r = some (.int (b2i v)) ∧ h' = h) → (∀ e, q = Sum.inr e → En G (d + 2) miX11_arePartedKinds 63 [dum, dum, dum, dum, dum, dum] [] h r h') → En G (d + 2) miX11_arePartedKinds 3 [.ref 32, .int y1, .int y2, .int y3, .int x4, dum] [] h r h' := by
  intro n
  induction n with
  | zero => intro x4 q H kR kE; exact nz H
  | succ n ih =>
    intro x4 q H kR kE
    unfold l_X11_arePartedKinds_3 at H
    refine e_iload dX11_arePartedKinds_3 rfl ?_
    refine g_aload_n dX11_arePartedKinds_5 rfl rfl ?_
    refine e_getI (hYTX.t 0 rfl) flX11_39_12 dX11_arePartedKinds_6 rfl ?_
    refine e_icmp_ge (tgt := 63) dX11_arePartedKinds_9 (by decide) (fun c12 => ?_) (fun c12 => ?_)
    · replace H := ot c12 H
      obtain rfl := Option.some.inj H
      exact e_wk (lk0 (lk0 (lk0 (lk0 (lk0 (lk1 lkn)))))) (kE _ rfl)
    · replace H := of_ c12 H
      refine e_iload dX11_arePartedKinds_12 rfl ?_
      refine g_aload_n dX11_arePartedKinds_14 rfl rfl ?_
      refine e_getR (hYTX.t 0 rfl) flX11_36_12 dX11_arePartedKinds_15 rfl (hYTX.r 5 rfl) ?_
      refine e_alen (hYTX.t 6 rfl) (by decide) dX11_arePartedKinds_18 ?_
      refine e_ci (y := (6 : Int32)) (by rw [(hYTX.n 6 rfl)]; rfl) ?_
      refine e_icmp_ge (tgt := 63) dX11_arePartedKinds_19 (by decide) (fun c13 => ?_) (fun c13 => ?_)
      · replace H := ot c13 H
        obtain rfl := Option.some.inj H
        exact e_wk (lk0 (lk0 (lk0 (lk0 (lk0 (lk1 lkn)))))) (kE _ rfl)
      · replace H := of_ c13 H
        refine g_aload_n dX11_arePartedKinds_22 rfl rfl ?_
        refine e_getR (hYTX.t 0 rfl) flX11_36_12 dX11_arePartedKinds_23 rfl (hYTX.r 5 rfl) ?_
        refine e_iload dX11_arePartedKinds_26 rfl ?_
        replace H := og H; obtain ⟨g14, H⟩ := H
        refine e_iald (hYTX.t 6 rfl) (ixb_y (hYTX.n 6 rfl) g14) dX11_arePartedKinds_28 ?_
        refine e_istore dX11_arePartedKinds_29 (Nat.le_of_ble_eq_true rfl) rfl rfl ?_
        refine e_iload_n dX11_arePartedKinds_31 rfl ?_
        refine e_iload dX11_arePartedKinds_32 rfl ?_
        replace H := ob H; obtain ⟨q15, c16, H⟩ := H
        refine s1 lmX11_401 lsX11_isOf msX11_isOf dX11_arePartedKinds_34 (t_X11_isOf (d + 1) c16) rfl (Nat.le_of_ble_eq_true rfl) (Nat.le_refl _) ?_
        refine e_ifB_eq (tgt := 57) dX11_arePartedKinds_37 (by decide) (fun c17 => ?_) (fun c17 => ?_)
        · replace H := of_ (nb c17) H
          refine e_iinc dX11_arePartedKinds_57 rfl (ii_ (by decide : Int32.ofInt (1) = (1 : Int32))) (Nat.le_of_ble_eq_true rfl) rfl rfl ?_
          refine e_goto (tgt := 3) dX11_arePartedKinds_60 (by decide) ?_
          exact e_wk (lk1 (lk1 (lk1 (lk1 (lk1 (lk0 lkn)))))) (ih H kR kE)
        · replace H := ot c17 H
          refine e_iload dX11_arePartedKinds_40 rfl ?_
          refine e_iload_n dX11_arePartedKinds_42 rfl ?_
          replace H := ob H; obtain ⟨q18, c19, H⟩ := H
          refine s1 lmX11_395 lsX11_answerOf msX11_answerOf dX11_arePartedKinds_43 (t_X11_answerOf (d + 0) c19) rfl (Nat.le_of_ble_eq_true rfl) (Nat.le_refl _) ?_
          refine e_iload dX11_arePartedKinds_46 rfl ?_
          refine e_iload_n dX11_arePartedKinds_48 rfl ?_
          replace H := ob H; obtain ⟨q20, c21, H⟩ := H
          refine s1 lmX11_395 lsX11_answerOf msX11_answerOf dX11_arePartedKinds_49 (t_X11_answerOf (d + 0) c21) rfl (Nat.le_of_ble_eq_true rfl) (Nat.le_refl _) ?_
          refine e_icmp_eq (tgt := 57) dX11_arePartedKinds_52 (by decide) (fun c22 => ?_) (fun c22 => ?_)
          · replace H := ot c22 H
            refine e_iinc dX11_arePartedKinds_57 rfl (ii_ (by decide : Int32.ofInt (1) = (1 : Int32))) (Nat.le_of_ble_eq_true rfl) rfl rfl ?_
            refine e_goto (tgt := 3) dX11_arePartedKinds_60 (by decide) ?_
            exact e_wk (lk1 (lk1 (lk1 (lk1 (lk1 (lk0 lkn)))))) (ih H kR kE)
          · replace H := of_ c22 H
            refine e_iconst (v := (1 : Int32)) dX11_arePartedKinds_55 (by decide) ?_
            obtain rfl := Option.some.inj H
            obtain ⟨eR, eH⟩ := kR _ rfl
            exact z_iret rfl rfl dX11_arePartedKinds_56 eR eH
def f_X11_arePartedKinds (p1 : Int32) (p2 : Int32) (p3 : Int32) (h : HS) : Option Bool := (Option.bind (l_X11_arePartedKinds_3 p1 p2 p3 h 1000 (0 : Int32)) (fun q23 => (Sum.elim (fun v => some v) (fun e25 => (some false)) q23)))
set_option maxHeartbeats 4000000 in
set_option maxRecDepth 20000 in
theorem t_X11_arePartedKinds {G : GE} (d : Nat) {p1 : Int32} {p2 : Int32} {p3 : Int32} {h : HS} {q : Bool} (hY : LY TX h) (H : f_X11_arePartedKinds p1 p2 p3 h = some q) : CE G (d + 2) yX11_arePartedKinds miX11_arePartedKinds [.ref 32, .int p1, .int p2, .int p3] h (some (.int (b2i q))) (h) := by
  unfold f_X11_arePartedKinds at H
  refine ce_of rfl (by decide) (fun q => by first | rfl | cases q) (Nat.le_of_ble_eq_true rfl) rfl ?_
  refine e_iconst (v := (0 : Int32)) dX11_arePartedKinds_0 (by decide) ?_
  refine e_istore dX11_arePartedKinds_1 (Nat.le_of_ble_eq_true rfl) rfl rfl ?_
  replace H := ob H; obtain ⟨q23, c24, H⟩ := H
  refine e_wk (lk1 (lk1 (lk1 (lk1 (lk1 (lk1 lkn)))))) (w_X11_arePartedKinds_3 d hY 1000 c24 (fun v26 E0 => ?_) (fun e25 E0 => ?_))
  · subst E0; replace H := oSl H; obtain rfl := Option.some.inj H
    exact ⟨rfl, rfl⟩
  · subst E0; replace H := oSr H
    refine e_iconst (v := (0 : Int32)) dX11_arePartedKinds_63 (by decide) ?_
    obtain rfl := Option.some.inj H
    exact z_iret rfl rfl dX11_arePartedKinds_64 rfl rfl
-- X11_areParted
def l_X11_areParted_18 (y1 : Int32) (y2 : Int32) (y3 : Int32) (h : HS)  : Nat → Int32 → Option (Bool ⊕ Unit)
  | 0, _ => none
  | n + 1, x4 => (if hT h 33 = 1 then (Option.bind (f_Jx4a65c_size_8abf5 33 h) (fun q103 => (if q103 ≤ x4 then (some (Sum.inr ())) else (Option.bind (f_Jx4a65c_get_915e3 33 y3 h) (fun q107 => (om q107 none (fun b110 => (if isSt (hT h b110) = true then (Option.bind (f_Jx4a65c_get_915e3 33 x4 h) (fun q112 => (om q112 none (fun b115 => (if isSt (hT h b115) = true then (Option.bind (f_X11_isOf y1 y3) (fun q117 => (if q117 = true then (Option.bind (f_X11_isOf y1 x4) (fun q121 => (if q121 = true then (Option.bind (if (hI h b110 0) = (hI h b115 0) then (some (0 : Int32)) else (some (1 : Int32))) (fun q126 => (if q126 = 0 then (l_X11_areParted_18 y1 y2 y3 h n (x4 + (1 : Int32))) else (Option.bind (f_X11_arePartedKinds (hI h b110 0) (hI h b115 0) y2 h) (fun q130 => (if q130 = true then (l_X11_areParted_18 y1 y2 y3 h n (x4 + (1 : Int32))) else (some (Sum.inl false)))))))) else (l_X11_areParted_18 y1 y2 y3 h n (x4 + (1 : Int32)))))) else (l_X11_areParted_18 y1 y2 y3 h n (x4 + (1 : Int32)))))) else none))))) else none)))))))) else none)
set_option maxHeartbeats 4000000 in
set_option maxRecDepth 20000 in
theorem w_X11_areParted_18 {G : GE} (d : Nat) {y1 : Int32} {y2 : Int32} {y3 : Int32} {h : HS} {r : Option Value} {h' : HS} (hYTX : LY TX h) : ∀ (n : Nat) {x4 : Int32} {q : (Bool ⊕ Unit)}, l_X11_areParted_18 y1 y2 y3 h n x4 = some q → (∀ v, q = Sum.inl v → r = some (.int (b2i v)) ∧ h' = h) → (∀ e, q = Sum.inr e → En G (d + 3) miX11_areParted 119 [.ref 32, .int y1, .int y2, .int y3, dum, dum, dum, dum] [] h r h') → En G (d + 3) miX11_areParted 18 [.ref 32, .int y1, .int y2, .int y3, .int x4, dum, dum, dum] [] h r h' := by
  intro n
  induction n with
  | zero => intro x4 q H kR kE; exact nz H
  | succ n ih =>
    intro x4 q H kR kE
    unfold l_X11_areParted_18 at H
    refine e_iload dX11_areParted_18 rfl ?_
    refine g_aload_n dX11_areParted_20 rfl rfl ?_
    refine e_getR (hYTX.t 0 rfl) flX11_12_12 dX11_areParted_21 rfl (hYTX.r 0 rfl) ?_
    replace H := og H; obtain ⟨g105, H⟩ := H
    replace H := ob H; obtain ⟨q103, c104, H⟩ := H
    refine v1 (hYTX.t 1 rfl) (by decide) rfl rfl lmX11_114 liJx4a65c_size_8abf5 lvJx4a65c_Jx4a65c_size_8abf5 msJx4a65c_size_8abf5 dX11_areParted_24 (t_Jx4a65c_size_8abf5 (d + 2) c104) rfl (Nat.le_of_ble_eq_true rfl) (Nat.le_refl _) ?_
    refine e_icmp_ge (tgt := 119) dX11_areParted_27 (by decide) (fun c106 => ?_) (fun c106 => ?_)
    · replace H := ot c106 H
      obtain rfl := Option.some.inj H
      exact e_wk (lk1 (lk1 (lk1 (lk1 (lk0 (lk1 (lk1 (lk1 lkn)))))))) (kE _ rfl)
    · replace H := of_ c106 H
      refine g_aload_n dX11_areParted_30 rfl rfl ?_
      refine e_getR (hYTX.t 0 rfl) flX11_12_12 dX11_areParted_31 rfl (hYTX.r 0 rfl) ?_
      refine e_iload_n dX11_areParted_34 rfl ?_
      replace H := ob H; obtain ⟨q107, c108, H⟩ := H
      replace H := oom H; obtain ⟨e109, H⟩ | ⟨b110, e109, H⟩ := H
      · refine v1 (hYTX.t 1 rfl) (by decide) rfl rfl lmX11_276 liJx4a65c_get_915e3 lvJx4a65c_Jx4a65c_get_915e3 msJx4a65c_get_915e3 dX11_areParted_35 (ceN e109 (t_Jx4a65c_get_915e3 (d + 0) c108)) rfl (Nat.le_of_ble_eq_true rfl) (Nat.le_refl _) ?_
        exact nz H
      · refine v1 (hYTX.t 1 rfl) (by decide) rfl rfl lmX11_276 liJx4a65c_get_915e3 lvJx4a65c_Jx4a65c_get_915e3 msJx4a65c_get_915e3 dX11_areParted_35 (ceS e109 (t_Jx4a65c_get_915e3 (d + 0) c108)) rfl (Nat.le_of_ble_eq_true rfl) (Nat.le_refl _) ?_
        replace H := og H; obtain ⟨g111, H⟩ := H
        refine e_castSt g111 lcX11_131 dX11_areParted_38 ?_
        refine gmX11_140_isSt g111 dX11_areParted_41 ?_
        refine e_istore dX11_areParted_44 (Nat.le_of_ble_eq_true rfl) rfl rfl ?_
        refine g_aload_n dX11_areParted_46 rfl rfl ?_
        refine e_getR (hYTX.t 0 rfl) flX11_12_12 dX11_areParted_47 rfl (hYTX.r 0 rfl) ?_
        refine e_iload dX11_areParted_50 rfl ?_
        replace H := ob H; obtain ⟨q112, c113, H⟩ := H
        replace H := oom H; obtain ⟨e114, H⟩ | ⟨b115, e114, H⟩ := H
        · refine v1 (hYTX.t 1 rfl) (by decide) rfl rfl lmX11_276 liJx4a65c_get_915e3 lvJx4a65c_Jx4a65c_get_915e3 msJx4a65c_get_915e3 dX11_areParted_52 (ceN e114 (t_Jx4a65c_get_915e3 (d + 0) c113)) rfl (Nat.le_of_ble_eq_true rfl) (Nat.le_refl _) ?_
          exact nz H
        · refine v1 (hYTX.t 1 rfl) (by decide) rfl rfl lmX11_276 liJx4a65c_get_915e3 lvJx4a65c_Jx4a65c_get_915e3 msJx4a65c_get_915e3 dX11_areParted_52 (ceS e114 (t_Jx4a65c_get_915e3 (d + 0) c113)) rfl (Nat.le_of_ble_eq_true rfl) (Nat.le_refl _) ?_
          replace H := og H; obtain ⟨g116, H⟩ := H
          refine e_castSt g116 lcX11_131 dX11_areParted_55 ?_
          refine gmX11_140_isSt g116 dX11_areParted_58 ?_
          refine e_istore dX11_areParted_61 (Nat.le_of_ble_eq_true rfl) rfl rfl ?_
          refine e_iload_n dX11_areParted_63 rfl ?_
          refine e_iload_n dX11_areParted_64 rfl ?_
          replace H := ob H; obtain ⟨q117, c118, H⟩ := H
          refine s1 lmX11_401 lsX11_isOf msX11_isOf dX11_areParted_65 (t_X11_isOf (d + 2) c118) rfl (Nat.le_of_ble_eq_true rfl) (Nat.le_refl _) ?_
          refine e_ifB_eq (tgt := 91) dX11_areParted_68 (by decide) (fun c119 => ?_) (fun c119 => ?_)
          · replace H := of_ (nb c119) H
            refine e_iconst (v := (0 : Int32)) dX11_areParted_91 (by decide) ?_
            refine e_istore dX11_areParted_92 (Nat.le_of_ble_eq_true rfl) rfl rfl ?_
            refine e_iload dX11_areParted_94 rfl ?_
            refine e_if_eq (tgt := 113) dX11_areParted_96 (by decide) (fun c120 => ?_) (fun c120 => absurd c120 (by decide))
            refine e_iinc dX11_areParted_113 rfl (ii_ (by decide : Int32.ofInt (1) = (1 : Int32))) (Nat.le_of_ble_eq_true rfl) rfl rfl ?_
            refine e_goto (tgt := 18) dX11_areParted_116 (by decide) ?_
            exact e_wk (lk1 (lk1 (lk1 (lk1 (lk1 (lk0 (lk0 (lk0 lkn)))))))) (ih H kR kE)
          · replace H := ot c119 H
            refine e_iload_n dX11_areParted_71 rfl ?_
            refine e_iload dX11_areParted_72 rfl ?_
            replace H := ob H; obtain ⟨q121, c122, H⟩ := H
            refine s1 lmX11_401 lsX11_isOf msX11_isOf dX11_areParted_74 (t_X11_isOf (d + 2) c122) rfl (Nat.le_of_ble_eq_true rfl) (Nat.le_refl _) ?_
            refine e_ifB_eq (tgt := 91) dX11_areParted_77 (by decide) (fun c123 => ?_) (fun c123 => ?_)
            · replace H := of_ (nb c123) H
              refine e_iconst (v := (0 : Int32)) dX11_areParted_91 (by decide) ?_
              refine e_istore dX11_areParted_92 (Nat.le_of_ble_eq_true rfl) rfl rfl ?_
              refine e_iload dX11_areParted_94 rfl ?_
              refine e_if_eq (tgt := 113) dX11_areParted_96 (by decide) (fun c124 => ?_) (fun c124 => absurd c124 (by decide))
              refine e_iinc dX11_areParted_113 rfl (ii_ (by decide : Int32.ofInt (1) = (1 : Int32))) (Nat.le_of_ble_eq_true rfl) rfl rfl ?_
              refine e_goto (tgt := 18) dX11_areParted_116 (by decide) ?_
              exact e_wk (lk1 (lk1 (lk1 (lk1 (lk1 (lk0 (lk0 (lk0 lkn)))))))) (ih H kR kE)
            · replace H := ot c123 H
              refine e_iload dX11_areParted_80 rfl ?_
              refine e_iload dX11_areParted_82 rfl ?_
              replace H := ob H; obtain ⟨q126, c128, H⟩ := H
              have k127 : En G (d + 3) miX11_areParted 92 [.ref 32, .int y1, .int y2, .int y3, .int x4, .int (hI h b110 0), .int (hI h b115 0), dum] [.int q126] h r h' := by
                refine e_istore dX11_areParted_92 (Nat.le_of_ble_eq_true rfl) rfl rfl ?_
                refine e_iload dX11_areParted_94 rfl ?_
                refine e_if_eq (tgt := 113) dX11_areParted_96 (by decide) (fun c129 => ?_) (fun c129 => ?_)
                · replace H := ot c129 H
                  refine e_iinc dX11_areParted_113 rfl (ii_ (by decide : Int32.ofInt (1) = (1 : Int32))) (Nat.le_of_ble_eq_true rfl) rfl rfl ?_
                  refine e_goto (tgt := 18) dX11_areParted_116 (by decide) ?_
                  exact e_wk (lk1 (lk1 (lk1 (lk1 (lk1 (lk0 (lk0 (lk0 lkn)))))))) (ih H kR kE)
                · replace H := of_ c129 H
                  refine g_aload_n dX11_areParted_99 rfl rfl ?_
                  refine e_iload dX11_areParted_100 rfl ?_
                  refine e_iload dX11_areParted_102 rfl ?_
                  refine e_iload_n dX11_areParted_104 rfl ?_
                  replace H := ob H; obtain ⟨q130, c131, H⟩ := H
                  refine v1 (hYTX.t 0 rfl) (by decide) rfl rfl lmX11_404 liX11_arePartedKinds lvX11_X11_arePartedKinds msX11_arePartedKinds dX11_areParted_105 (t_X11_arePartedKinds (d + 0) hYTX c131) rfl (Nat.le_of_ble_eq_true rfl) (Nat.le_refl _) ?_
                  refine e_ifB_ne (tgt := 113) dX11_areParted_108 (by decide) (fun c132 => ?_) (fun c132 => ?_)
                  · replace H := ot c132 H
                    refine e_iinc dX11_areParted_113 rfl (ii_ (by decide : Int32.ofInt (1) = (1 : Int32))) (Nat.le_of_ble_eq_true rfl) rfl rfl ?_
                    refine e_goto (tgt := 18) dX11_areParted_116 (by decide) ?_
                    exact e_wk (lk1 (lk1 (lk1 (lk1 (lk1 (lk0 (lk0 (lk0 lkn)))))))) (ih H kR kE)
                  · replace H := of_ (nb c132) H
                    refine e_iconst (v := (0 : Int32)) dX11_areParted_111 (by decide) ?_
                    obtain rfl := Option.some.inj H
                    obtain ⟨eR, eH⟩ := kR _ rfl
                    exact z_iret rfl rfl dX11_areParted_112 eR eH
              replace H := c128
              refine e_icmp_eq (tgt := 91) dX11_areParted_84 (by decide) (fun c125 => ?_) (fun c125 => ?_)
              · replace H := ot c125 H
                refine e_iconst (v := (0 : Int32)) dX11_areParted_91 (by decide) ?_
                obtain rfl := Option.some.inj H
                exact e_wk (lk1 (lk1 (lk1 (lk1 (lk1 (lk1 (lk1 (lk1 lkn)))))))) k127
              · replace H := of_ c125 H
                refine e_iconst (v := (1 : Int32)) dX11_areParted_87 (by decide) ?_
                refine e_goto (tgt := 92) dX11_areParted_88 (by decide) ?_
                obtain rfl := Option.some.inj H
                exact e_wk (lk1 (lk1 (lk1 (lk1 (lk1 (lk1 (lk1 (lk1 lkn)))))))) k127
def l_X11_areParted_2 (y1 : Int32) (y2 : Int32) (h : HS)  : Nat → Int32 → Option (Bool ⊕ Unit)
  | 0, _ => none
  | n + 1, x3 => (if hT h 33 = 1 then (Option.bind (f_Jx4a65c_size_8abf5 33 h) (fun q69 => (if q69 ≤ x3 then (some (Sum.inr ())) else (Option.bind (l_X11_areParted_18 y1 y2 x3 h 1000 (x3 + (1 : Int32))) (fun q133 => (Sum.elim (fun v => some (Sum.inl v)) (fun e135 => (l_X11_areParted_2 y1 y2 h n (x3 + (1 : Int32)))) q133)))))) else none)
set_option maxHeartbeats 4000000 in
set_option maxRecDepth 20000 in
theorem w_X11_areParted_2 {G : GE} (d : Nat) {y1 : Int32} {y2 : Int32} {h : HS} {r : Option Value} {h' : HS} (hYTX : LY TX h) : ∀ (n : Nat) {x3 : Int32} {q : (Bool ⊕ Unit)}, l_X11_areParted_2 y1 y2 h n x3 = some q → (∀ v, q = Sum.inl v → r = some (.int (b2i v)) ∧ h' = h) → (∀ e, q = Sum.inr e → En G (d + 3) miX11_areParted 125 [dum, dum, dum, dum, dum, dum, dum, dum] [] h r h') → En G (d + 3) miX11_areParted 2 [.ref 32, .int y1, .int y2, .int x3, dum, dum, dum, dum] [] h r h' := by
  intro n
  induction n with
  | zero => intro x3 q H kR kE; exact nz H
  | succ n ih =>
    intro x3 q H kR kE
    unfold l_X11_areParted_2 at H
    refine e_iload_n dX11_areParted_2 rfl ?_
    refine g_aload_n dX11_areParted_3 rfl rfl ?_
    refine e_getR (hYTX.t 0 rfl) flX11_12_12 dX11_areParted_4 rfl (hYTX.r 0 rfl) ?_
    replace H := og H; obtain ⟨g71, H⟩ := H
    replace H := ob H; obtain ⟨q69, c70, H⟩ := H
    refine v1 (hYTX.t 1 rfl) (by decide) rfl rfl lmX11_114 liJx4a65c_size_8abf5 lvJx4a65c_Jx4a65c_size_8abf5 msJx4a65c_size_8abf5 dX11_areParted_7 (t_Jx4a65c_size_8abf5 (d + 2) c70) rfl (Nat.le_of_ble_eq_true rfl) (Nat.le_refl _) ?_
    refine e_icmp_ge (tgt := 125) dX11_areParted_10 (by decide) (fun c72 => ?_) (fun c72 => ?_)
    · replace H := ot c72 H
      obtain rfl := Option.some.inj H
      exact e_wk (lk0 (lk0 (lk0 (lk0 (lk1 (lk1 (lk1 (lk1 lkn)))))))) (kE _ rfl)
    · replace H := of_ c72 H
      refine e_iload_n dX11_areParted_13 rfl ?_
      refine e_iconst (v := (1 : Int32)) dX11_areParted_14 (by decide) ?_
      refine e_iadd dX11_areParted_15 ?_
      refine e_istore dX11_areParted_16 (Nat.le_of_ble_eq_true rfl) rfl rfl ?_
      replace H := ob H; obtain ⟨q133, c134, H⟩ := H
      refine e_wk (lk1 (lk1 (lk1 (lk1 (lk1 (lk1 (lk1 (lk1 lkn)))))))) (w_X11_areParted_18 d hYTX 1000 c134 (fun v136 E0 => ?_) (fun e135 E0 => ?_))
      · subst E0; replace H := oSl H; obtain rfl := Option.some.inj H
        exact kR _ rfl
      · subst E0; replace H := oSr H
        refine e_iinc dX11_areParted_119 rfl (ii_ (by decide : Int32.ofInt (1) = (1 : Int32))) (Nat.le_of_ble_eq_true rfl) rfl rfl ?_
        refine e_goto (tgt := 2) dX11_areParted_122 (by decide) ?_
        exact e_wk (lk1 (lk1 (lk1 (lk1 (lk1 (lk1 (lk1 (lk1 lkn)))))))) (ih H kR kE)
def f_X11_areParted (p1 : Int32) (p2 : Int32) (h : HS) : Option Bool := (Option.bind (l_X11_areParted_2 p1 p2 h 1000 (0 : Int32)) (fun q137 => (Sum.elim (fun v => some v) (fun e139 => (some true)) q137)))
set_option maxHeartbeats 4000000 in
set_option maxRecDepth 20000 in
theorem t_X11_areParted {G : GE} (d : Nat) {p1 : Int32} {p2 : Int32} {h : HS} {q : Bool} (hY : LY TX h) (H : f_X11_areParted p1 p2 h = some q) : CE G (d + 3) yX11_areParted miX11_areParted [.ref 32, .int p1, .int p2] h (some (.int (b2i q))) (h) := by
  unfold f_X11_areParted at H
  refine ce_of rfl (by decide) (fun q => by first | rfl | cases q) (Nat.le_of_ble_eq_true rfl) rfl ?_
  refine e_iconst (v := (0 : Int32)) dX11_areParted_0 (by decide) ?_
  refine e_istore_n dX11_areParted_1 (Nat.le_of_ble_eq_true rfl) rfl rfl ?_
  replace H := ob H; obtain ⟨q137, c138, H⟩ := H
  refine e_wk (lk1 (lk1 (lk1 (lk1 (lk1 (lk1 (lk1 (lk1 lkn)))))))) (w_X11_areParted_2 d hY 1000 c138 (fun v140 E0 => ?_) (fun e139 E0 => ?_))
  · subst E0; replace H := oSl H; obtain rfl := Option.some.inj H
    exact ⟨rfl, rfl⟩
  · subst E0; replace H := oSr H
    refine e_iconst (v := (1 : Int32)) dX11_areParted_125 (by decide) ?_
    obtain rfl := Option.some.inj H
    exact z_iret rfl rfl dX11_areParted_126 rfl rfl
-- X11_find
def l_X11_find_30 (y1 : Int32) (y2 : Int32) (h : HS)  : Nat → Int32 → Int32 → Int32 → Option (Int32 × Int32)
  | 0, _, _, _ => none
  | n + 1, x3, x4, x5 => (if ((1 : Int32) <<< ((hI h 32 8) &&& 31)) ≤ x5 then (some (x3, x4)) else (Option.bind (f_X11_hoursOfTests x5 h) (fun q21 => (if x3 = (-1 : Int32) then (Option.bind (f_X11_areParted y1 x5 h) (fun q24 => (if q24 = true then (l_X11_find_30 y1 y2 h n x5 q21 (x5 + (1 : Int32))) else (l_X11_find_30 y1 y2 h n x3 x4 (x5 + (1 : Int32)))))) else (if x4 ≤ q21 then (l_X11_find_30 y1 y2 h n x3 x4 (x5 + (1 : Int32))) else (Option.bind (f_X11_areParted y1 x5 h) (fun q28 => (if q28 = true then (l_X11_find_30 y1 y2 h n x5 q21 (x5 + (1 : Int32))) else (l_X11_find_30 y1 y2 h n x3 x4 (x5 + (1 : Int32)))))))))))
set_option maxHeartbeats 4000000 in
set_option maxRecDepth 20000 in
theorem w_X11_find_30 {G : GE} (d : Nat) {y1 : Int32} {y2 : Int32} {h : HS} {r : Option Value} {h' : HS} (hYTX : LY TX h) : ∀ (n : Nat) {x3 : Int32} {x4 : Int32} {x5 : Int32} {q : (Int32 × Int32)}, l_X11_find_30 y1 y2 h n x3 x4 x5 = some q → En G (d + 4) miX11_find 84 [dum, dum, .int y2, .int q.1, .int q.2, dum, dum] [] h r h' → En G (d + 4) miX11_find 30 [.ref 32, .int y1, .int y2, .int x3, .int x4, .int x5, dum] [] h r h' := by
  intro n
  induction n with
  | zero => intro x3 x4 x5 q H kE; exact nz H
  | succ n ih =>
    intro x3 x4 x5 q H kE
    unfold l_X11_find_30 at H
    refine e_iload dX11_find_30 rfl ?_
    refine e_iconst (v := (1 : Int32)) dX11_find_32 (by decide) ?_
    refine g_aload_n dX11_find_33 rfl rfl ?_
    refine e_getI (hYTX.t 0 rfl) flX11_39_12 dX11_find_34 rfl ?_
    refine e_ishl dX11_find_37 ?_
    refine e_icmp_ge (tgt := 84) dX11_find_38 (by decide) (fun c20 => ?_) (fun c20 => ?_)
    · replace H := ot c20 H
      obtain rfl := Option.some.inj H
      exact e_wk (lk0 (lk0 (lk1 (lk1 (lk1 (lk0 (lk1 lkn))))))) kE
    · replace H := of_ c20 H
      refine g_aload_n dX11_find_41 rfl rfl ?_
      refine e_iload dX11_find_42 rfl ?_
      replace H := ob H; obtain ⟨q21, c22, H⟩ := H
      refine v1 (hYTX.t 0 rfl) (by decide) rfl rfl lmX11_355 liX11_hoursOfTests lvX11_X11_hoursOfTests msX11_hoursOfTests dX11_find_44 (t_X11_hoursOfTests (d + 2) hYTX c22) rfl (Nat.le_of_ble_eq_true rfl) (Nat.le_refl _) ?_
      refine e_istore dX11_find_47 (Nat.le_of_ble_eq_true rfl) rfl rfl ?_
      refine e_iload_n dX11_find_49 rfl ?_
      refine e_iconst (v := (-1 : Int32)) dX11_find_50 (by decide) ?_
      refine e_icmp_eq (tgt := 61) dX11_find_51 (by decide) (fun c23 => ?_) (fun c23 => ?_)
      · replace H := ot c23 H
        refine g_aload_n dX11_find_61 rfl rfl ?_
        refine e_iload_n dX11_find_62 rfl ?_
        refine e_iload dX11_find_63 rfl ?_
        replace H := ob H; obtain ⟨q24, c25, H⟩ := H
        refine v1 (hYTX.t 0 rfl) (by decide) rfl rfl lmX11_358 liX11_areParted lvX11_X11_areParted msX11_areParted dX11_find_65 (t_X11_areParted (d + 0) hYTX c25) rfl (Nat.le_of_ble_eq_true rfl) (Nat.le_refl _) ?_
        refine e_ifB_eq (tgt := 78) dX11_find_68 (by decide) (fun c26 => ?_) (fun c26 => ?_)
        · replace H := of_ (nb c26) H
          refine e_iinc dX11_find_78 rfl (ii_ (by decide : Int32.ofInt (1) = (1 : Int32))) (Nat.le_of_ble_eq_true rfl) rfl rfl ?_
          refine e_goto (tgt := 30) dX11_find_81 (by decide) ?_
          exact e_wk (lk1 (lk1 (lk1 (lk1 (lk1 (lk1 (lk0 lkn))))))) (ih H kE)
        · replace H := ot c26 H
          refine e_iload dX11_find_71 rfl ?_
          refine e_istore_n dX11_find_73 (Nat.le_of_ble_eq_true rfl) rfl rfl ?_
          refine e_iload dX11_find_74 rfl ?_
          refine e_istore dX11_find_76 (Nat.le_of_ble_eq_true rfl) rfl rfl ?_
          refine e_iinc dX11_find_78 rfl (ii_ (by decide : Int32.ofInt (1) = (1 : Int32))) (Nat.le_of_ble_eq_true rfl) rfl rfl ?_
          refine e_goto (tgt := 30) dX11_find_81 (by decide) ?_
          exact e_wk (lk1 (lk1 (lk1 (lk1 (lk1 (lk1 (lk0 lkn))))))) (ih H kE)
      · replace H := of_ c23 H
        refine e_iload dX11_find_54 rfl ?_
        refine e_iload dX11_find_56 rfl ?_
        refine e_icmp_ge (tgt := 78) dX11_find_58 (by decide) (fun c27 => ?_) (fun c27 => ?_)
        · replace H := ot c27 H
          refine e_iinc dX11_find_78 rfl (ii_ (by decide : Int32.ofInt (1) = (1 : Int32))) (Nat.le_of_ble_eq_true rfl) rfl rfl ?_
          refine e_goto (tgt := 30) dX11_find_81 (by decide) ?_
          exact e_wk (lk1 (lk1 (lk1 (lk1 (lk1 (lk1 (lk0 lkn))))))) (ih H kE)
        · replace H := of_ c27 H
          refine g_aload_n dX11_find_61 rfl rfl ?_
          refine e_iload_n dX11_find_62 rfl ?_
          refine e_iload dX11_find_63 rfl ?_
          replace H := ob H; obtain ⟨q28, c29, H⟩ := H
          refine v1 (hYTX.t 0 rfl) (by decide) rfl rfl lmX11_358 liX11_areParted lvX11_X11_areParted msX11_areParted dX11_find_65 (t_X11_areParted (d + 0) hYTX c29) rfl (Nat.le_of_ble_eq_true rfl) (Nat.le_refl _) ?_
          refine e_ifB_eq (tgt := 78) dX11_find_68 (by decide) (fun c30 => ?_) (fun c30 => ?_)
          · replace H := of_ (nb c30) H
            refine e_iinc dX11_find_78 rfl (ii_ (by decide : Int32.ofInt (1) = (1 : Int32))) (Nat.le_of_ble_eq_true rfl) rfl rfl ?_
            refine e_goto (tgt := 30) dX11_find_81 (by decide) ?_
            exact e_wk (lk1 (lk1 (lk1 (lk1 (lk1 (lk1 (lk0 lkn))))))) (ih H kE)
          · replace H := ot c30 H
            refine e_iload dX11_find_71 rfl ?_
            refine e_istore_n dX11_find_73 (Nat.le_of_ble_eq_true rfl) rfl rfl ?_
            refine e_iload dX11_find_74 rfl ?_
            refine e_istore dX11_find_76 (Nat.le_of_ble_eq_true rfl) rfl rfl ?_
            refine e_iinc dX11_find_78 rfl (ii_ (by decide : Int32.ofInt (1) = (1 : Int32))) (Nat.le_of_ble_eq_true rfl) rfl rfl ?_
            refine e_goto (tgt := 30) dX11_find_81 (by decide) ?_
            exact e_wk (lk1 (lk1 (lk1 (lk1 (lk1 (lk1 (lk0 lkn))))))) (ih H kE)
def f_X11_find (p1 : Int32) (p2 : Int32) (h : HS) : Option Int32 := (Option.bind (f_X11_allStalls h) (fun q1 => (Option.bind (f_X11_isIn p1 (0 : Int32) q1) (fun q3 => (if q3 = true then (Option.bind (f_X11_isBit p2) (fun q6 => (if q6 = true then (Option.bind (l_X11_find_30 p1 p2 h 1000 (-1 : Int32) (-1 : Int32) (0 : Int32)) (fun q31 => (if p2 = 0 then (some q31.1) else (some q31.2)))) else (some (-2 : Int32))))) else (some (-2 : Int32)))))))
set_option maxHeartbeats 4000000 in
set_option maxRecDepth 20000 in
theorem t_X11_find {G : GE} (d : Nat) {p1 : Int32} {p2 : Int32} {h : HS} {q : Int32} (hY : LY TX h) (H : f_X11_find p1 p2 h = some q) : CE G (d + 4) yX11_find miX11_find [.ref 32, .int p1, .int p2] h (some (.int q)) (h) := by
  unfold f_X11_find at H
  refine ce_of rfl (by decide) (fun q => by first | rfl | cases q) (Nat.le_of_ble_eq_true rfl) rfl ?_
  refine e_iload_n dX11_find_0 rfl ?_
  refine e_iconst (v := (0 : Int32)) dX11_find_1 (by decide) ?_
  refine g_aload_n dX11_find_2 rfl rfl ?_
  replace H := ob H; obtain ⟨q1, c2, H⟩ := H
  refine v1 (hY.t 0 rfl) (by decide) rfl rfl lmX11_352 liX11_allStalls lvX11_X11_allStalls msX11_allStalls dX11_find_3 (t_X11_allStalls (d + 2) hY c2) rfl (Nat.le_of_ble_eq_true rfl) (Nat.le_refl _) ?_
  replace H := ob H; obtain ⟨q3, c4, H⟩ := H
  refine s1 lmX11_106 lsX11_isIn msX11_isIn dX11_find_6 (t_X11_isIn (d + 3) c4) rfl (Nat.le_of_ble_eq_true rfl) (Nat.le_refl _) ?_
  refine e_ifB_eq (tgt := 19) dX11_find_9 (by decide) (fun c5 => ?_) (fun c5 => ?_)
  · replace H := of_ (nb c5) H
    refine e_bipush (v := (-2 : Int32)) dX11_find_19 (by decide) ?_
    obtain rfl := Option.some.inj H
    exact z_iret rfl rfl dX11_find_21 rfl rfl
  · replace H := ot c5 H
    refine e_iload_n dX11_find_12 rfl ?_
    replace H := ob H; obtain ⟨q6, c7, H⟩ := H
    refine s1 lmX11_186 lsX11_isBit msX11_isBit dX11_find_13 (t_X11_isBit (d + 3) c7) rfl (Nat.le_of_ble_eq_true rfl) (Nat.le_refl _) ?_
    refine e_ifB_ne (tgt := 22) dX11_find_16 (by decide) (fun c8 => ?_) (fun c8 => ?_)
    · replace H := ot c8 H
      refine e_iconst (v := (-1 : Int32)) dX11_find_22 (by decide) ?_
      refine e_istore_n dX11_find_23 (Nat.le_of_ble_eq_true rfl) rfl rfl ?_
      refine e_iconst (v := (-1 : Int32)) dX11_find_24 (by decide) ?_
      refine e_istore dX11_find_25 (Nat.le_of_ble_eq_true rfl) rfl rfl ?_
      refine e_iconst (v := (0 : Int32)) dX11_find_27 (by decide) ?_
      refine e_istore dX11_find_28 (Nat.le_of_ble_eq_true rfl) rfl rfl ?_
      replace H := ob H; obtain ⟨q31, c32, H⟩ := H
      refine e_wk (lk1 (lk1 (lk1 (lk1 (lk1 (lk1 (lk1 lkn))))))) (w_X11_find_30 d hY 1000 c32 ?_)
      refine e_iload_n dX11_find_84 rfl ?_
      refine e_if_ne (tgt := 92) dX11_find_85 (by decide) (fun c33 => ?_) (fun c33 => ?_)
      · replace H := of_ c33 H
        refine e_iload dX11_find_92 rfl ?_
        obtain rfl := Option.some.inj H
        exact z_iret rfl rfl dX11_find_94 rfl rfl
      · replace H := ot c33 H
        refine e_iload_n dX11_find_88 rfl ?_
        refine e_goto (tgt := 94) dX11_find_89 (by decide) ?_
        obtain rfl := Option.some.inj H
        exact z_iret rfl rfl dX11_find_94 rfl rfl
    · replace H := of_ (nb c8) H
      refine e_bipush (v := (-2 : Int32)) dX11_find_19 (by decide) ?_
      obtain rfl := Option.some.inj H
      exact z_iret rfl rfl dX11_find_21 rfl rfl
-- X11_hoursOfLooks
def l_X11_hoursOfLooks_4 (y1 : Int32) (h : HS)  : Nat → Int32 → Int32 → Option Int32
  | 0, _, _ => none
  | n + 1, x2, x3 => (if hT h 33 = 1 then (Option.bind (f_Jx4a65c_size_8abf5 33 h) (fun q10 => (if q10 ≤ x3 then (some x2) else (if (8 : Int32) ≤ x3 then (some x2) else (Option.bind (f_X11_isOf y1 x3) (fun q15 => (if q15 = true then (if ixb x3 8 = true then (l_X11_hoursOfLooks_4 y1 h n (x2 + (hI h 54 x3.toNatClampNeg)) (x3 + (1 : Int32))) else none) else (l_X11_hoursOfLooks_4 y1 h n (x2 + (0 : Int32)) (x3 + (1 : Int32)))))))))) else none)
set_option maxHeartbeats 4000000 in
set_option maxRecDepth 20000 in
theorem w_X11_hoursOfLooks_4 {G : GE} (d : Nat) {y1 : Int32} {h : HS} {r : Option Value} {h' : HS} (hYTX : LY TX h) : ∀ (n : Nat) {x2 : Int32} {x3 : Int32} {q : Int32}, l_X11_hoursOfLooks_4 y1 h n x2 x3 = some q → En G (d + 1) miX11_hoursOfLooks 51 [dum, dum, .int q, dum] [] h r h' → En G (d + 1) miX11_hoursOfLooks 4 [.ref 32, .int y1, .int x2, .int x3] [] h r h' := by
  intro n
  induction n with
  | zero => intro x2 x3 q H kE; exact nz H
  | succ n ih =>
    intro x2 x3 q H kE
    unfold l_X11_hoursOfLooks_4 at H
    refine e_iload_n dX11_hoursOfLooks_4 rfl ?_
    refine g_aload_n dX11_hoursOfLooks_5 rfl rfl ?_
    refine e_getR (hYTX.t 0 rfl) flX11_12_12 dX11_hoursOfLooks_6 rfl (hYTX.r 0 rfl) ?_
    replace H := og H; obtain ⟨g12, H⟩ := H
    replace H := ob H; obtain ⟨q10, c11, H⟩ := H
    refine v1 (hYTX.t 1 rfl) (by decide) rfl rfl lmX11_114 liJx4a65c_size_8abf5 lvJx4a65c_Jx4a65c_size_8abf5 msJx4a65c_size_8abf5 dX11_hoursOfLooks_9 (t_Jx4a65c_size_8abf5 (d + 0) c11) rfl (Nat.le_of_ble_eq_true rfl) (Nat.le_refl _) ?_
    refine e_icmp_ge (tgt := 51) dX11_hoursOfLooks_12 (by decide) (fun c13 => ?_) (fun c13 => ?_)
    · replace H := ot c13 H
      obtain rfl := Option.some.inj H
      exact e_wk (lk0 (lk0 (lk1 (lk0 lkn)))) kE
    · replace H := of_ c13 H
      refine e_iload_n dX11_hoursOfLooks_15 rfl ?_
      refine g_aload_n dX11_hoursOfLooks_16 rfl rfl ?_
      refine e_getR (hYTX.t 0 rfl) flX11_86_12 dX11_hoursOfLooks_17 rfl (hYTX.r 15 rfl) ?_
      refine e_alen (hYTX.t 22 rfl) (by decide) dX11_hoursOfLooks_20 ?_
      refine e_ci (y := (8 : Int32)) (by rw [(hYTX.n 22 rfl)]; rfl) ?_
      refine e_icmp_ge (tgt := 51) dX11_hoursOfLooks_21 (by decide) (fun c14 => ?_) (fun c14 => ?_)
      · replace H := ot c14 H
        obtain rfl := Option.some.inj H
        exact e_wk (lk0 (lk0 (lk1 (lk0 lkn)))) kE
      · replace H := of_ c14 H
        refine e_iload_n dX11_hoursOfLooks_24 rfl ?_
        refine e_iload_n dX11_hoursOfLooks_25 rfl ?_
        refine e_iload_n dX11_hoursOfLooks_26 rfl ?_
        replace H := ob H; obtain ⟨q15, c16, H⟩ := H
        refine s1 lmX11_401 lsX11_isOf msX11_isOf dX11_hoursOfLooks_27 (t_X11_isOf (d + 0) c16) rfl (Nat.le_of_ble_eq_true rfl) (Nat.le_refl _) ?_
        refine e_ifB_eq (tgt := 42) dX11_hoursOfLooks_30 (by decide) (fun c17 => ?_) (fun c17 => ?_)
        · replace H := of_ (nb c17) H
          refine e_iconst (v := (0 : Int32)) dX11_hoursOfLooks_42 (by decide) ?_
          refine e_iadd dX11_hoursOfLooks_43 ?_
          refine e_istore_n dX11_hoursOfLooks_44 (Nat.le_of_ble_eq_true rfl) rfl rfl ?_
          refine e_iinc dX11_hoursOfLooks_45 rfl (ii_ (by decide : Int32.ofInt (1) = (1 : Int32))) (Nat.le_of_ble_eq_true rfl) rfl rfl ?_
          refine e_goto (tgt := 4) dX11_hoursOfLooks_48 (by decide) ?_
          exact e_wk (lk1 (lk1 (lk1 (lk1 lkn)))) (ih H kE)
        · replace H := ot c17 H
          refine g_aload_n dX11_hoursOfLooks_33 rfl rfl ?_
          refine e_getR (hYTX.t 0 rfl) flX11_86_12 dX11_hoursOfLooks_34 rfl (hYTX.r 15 rfl) ?_
          refine e_iload_n dX11_hoursOfLooks_37 rfl ?_
          replace H := og H; obtain ⟨g18, H⟩ := H
          refine e_iald (hYTX.t 22 rfl) (ixb_y (hYTX.n 22 rfl) g18) dX11_hoursOfLooks_38 ?_
          refine e_goto (tgt := 43) dX11_hoursOfLooks_39 (by decide) ?_
          refine e_iadd dX11_hoursOfLooks_43 ?_
          refine e_istore_n dX11_hoursOfLooks_44 (Nat.le_of_ble_eq_true rfl) rfl rfl ?_
          refine e_iinc dX11_hoursOfLooks_45 rfl (ii_ (by decide : Int32.ofInt (1) = (1 : Int32))) (Nat.le_of_ble_eq_true rfl) rfl rfl ?_
          refine e_goto (tgt := 4) dX11_hoursOfLooks_48 (by decide) ?_
          exact e_wk (lk1 (lk1 (lk1 (lk1 lkn)))) (ih H kE)
def f_X11_hoursOfLooks (p1 : Int32) (h : HS) : Option Int32 := (Option.bind (l_X11_hoursOfLooks_4 p1 h 1000 (0 : Int32) (0 : Int32)) (fun q19 => (some q19)))
set_option maxHeartbeats 4000000 in
set_option maxRecDepth 20000 in
theorem t_X11_hoursOfLooks {G : GE} (d : Nat) {p1 : Int32} {h : HS} {q : Int32} (hY : LY TX h) (H : f_X11_hoursOfLooks p1 h = some q) : CE G (d + 1) yX11_hoursOfLooks miX11_hoursOfLooks [.ref 32, .int p1] h (some (.int q)) (h) := by
  unfold f_X11_hoursOfLooks at H
  refine ce_of rfl (by decide) (fun q => by first | rfl | cases q) (Nat.le_of_ble_eq_true rfl) rfl ?_
  refine e_iconst (v := (0 : Int32)) dX11_hoursOfLooks_0 (by decide) ?_
  refine e_istore_n dX11_hoursOfLooks_1 (Nat.le_of_ble_eq_true rfl) rfl rfl ?_
  refine e_iconst (v := (0 : Int32)) dX11_hoursOfLooks_2 (by decide) ?_
  refine e_istore_n dX11_hoursOfLooks_3 (Nat.le_of_ble_eq_true rfl) rfl rfl ?_
  replace H := ob H; obtain ⟨q19, c20, H⟩ := H
  refine e_wk (lk1 (lk1 (lk1 (lk1 lkn)))) (w_X11_hoursOfLooks_4 d hY 1000 c20 ?_)
  refine e_iload_n dX11_hoursOfLooks_51 rfl ?_
  obtain rfl := Option.some.inj H
  exact z_iret rfl rfl dX11_hoursOfLooks_52 rfl rfl
-- X11_gaffsOf
def l_X11_gaffsOf_4 (y1 : Int32) (h : HS)  : Nat → Int32 → Int32 → Option Int32
  | 0, _, _ => none
  | n + 1, x2, x3 => (if hT h 33 = 1 then (Option.bind (f_Jx4a65c_size_8abf5 33 h) (fun q15 => (if q15 ≤ x3 then (some x2) else (Option.bind (f_X11_isOf y1 x3) (fun q19 => (if q19 = true then (Option.bind (f_Jx4a65c_get_915e3 33 x3 h) (fun q22 => (om q22 none (fun b25 => (if isSt (hT h b25) = true then (Option.bind (f_V_gaffs b25 h) (fun q27 => (l_X11_gaffsOf_4 y1 h n (x2 + q27) (x3 + (1 : Int32))))) else none))))) else (l_X11_gaffsOf_4 y1 h n (x2 + (0 : Int32)) (x3 + (1 : Int32))))))))) else none)
set_option maxHeartbeats 4000000 in
set_option maxRecDepth 20000 in
theorem w_X11_gaffsOf_4 {G : GE} (d : Nat) {y1 : Int32} {h : HS} {r : Option Value} {h' : HS} (hYTX : LY TX h) : ∀ (n : Nat) {x2 : Int32} {x3 : Int32} {q : Int32}, l_X11_gaffsOf_4 y1 h n x2 x3 = some q → En G (d + 3) miX11_gaffsOf 50 [dum, dum, .int q, dum] [] h r h' → En G (d + 3) miX11_gaffsOf 4 [.ref 32, .int y1, .int x2, .int x3] [] h r h' := by
  intro n
  induction n with
  | zero => intro x2 x3 q H kE; exact nz H
  | succ n ih =>
    intro x2 x3 q H kE
    unfold l_X11_gaffsOf_4 at H
    refine e_iload_n dX11_gaffsOf_4 rfl ?_
    refine g_aload_n dX11_gaffsOf_5 rfl rfl ?_
    refine e_getR (hYTX.t 0 rfl) flX11_12_12 dX11_gaffsOf_6 rfl (hYTX.r 0 rfl) ?_
    replace H := og H; obtain ⟨g17, H⟩ := H
    replace H := ob H; obtain ⟨q15, c16, H⟩ := H
    refine v1 (hYTX.t 1 rfl) (by decide) rfl rfl lmX11_114 liJx4a65c_size_8abf5 lvJx4a65c_Jx4a65c_size_8abf5 msJx4a65c_size_8abf5 dX11_gaffsOf_9 (t_Jx4a65c_size_8abf5 (d + 2) c16) rfl (Nat.le_of_ble_eq_true rfl) (Nat.le_refl _) ?_
    refine e_icmp_ge (tgt := 50) dX11_gaffsOf_12 (by decide) (fun c18 => ?_) (fun c18 => ?_)
    · replace H := ot c18 H
      obtain rfl := Option.some.inj H
      exact e_wk (lk0 (lk0 (lk1 (lk0 lkn)))) kE
    · replace H := of_ c18 H
      refine e_iload_n dX11_gaffsOf_15 rfl ?_
      refine e_iload_n dX11_gaffsOf_16 rfl ?_
      refine e_iload_n dX11_gaffsOf_17 rfl ?_
      replace H := ob H; obtain ⟨q19, c20, H⟩ := H
      refine s1 lmX11_401 lsX11_isOf msX11_isOf dX11_gaffsOf_18 (t_X11_isOf (d + 2) c20) rfl (Nat.le_of_ble_eq_true rfl) (Nat.le_refl _) ?_
      refine e_ifB_eq (tgt := 41) dX11_gaffsOf_21 (by decide) (fun c21 => ?_) (fun c21 => ?_)
      · replace H := of_ (nb c21) H
        refine e_iconst (v := (0 : Int32)) dX11_gaffsOf_41 (by decide) ?_
        refine e_iadd dX11_gaffsOf_42 ?_
        refine e_istore_n dX11_gaffsOf_43 (Nat.le_of_ble_eq_true rfl) rfl rfl ?_
        refine e_iinc dX11_gaffsOf_44 rfl (ii_ (by decide : Int32.ofInt (1) = (1 : Int32))) (Nat.le_of_ble_eq_true rfl) rfl rfl ?_
        refine e_goto (tgt := 4) dX11_gaffsOf_47 (by decide) ?_
        exact e_wk (lk1 (lk1 (lk1 (lk1 lkn)))) (ih H kE)
      · replace H := ot c21 H
        refine g_aload_n dX11_gaffsOf_24 rfl rfl ?_
        refine e_getR (hYTX.t 0 rfl) flX11_12_12 dX11_gaffsOf_25 rfl (hYTX.r 0 rfl) ?_
        refine e_iload_n dX11_gaffsOf_28 rfl ?_
        replace H := ob H; obtain ⟨q22, c23, H⟩ := H
        replace H := oom H; obtain ⟨e24, H⟩ | ⟨b25, e24, H⟩ := H
        · refine v1 (hYTX.t 1 rfl) (by decide) rfl rfl lmX11_276 liJx4a65c_get_915e3 lvJx4a65c_Jx4a65c_get_915e3 msJx4a65c_get_915e3 dX11_gaffsOf_29 (ceN e24 (t_Jx4a65c_get_915e3 (d + 0) c23)) rfl (Nat.le_of_ble_eq_true rfl) (Nat.le_refl _) ?_
          exact nz H
        · refine v1 (hYTX.t 1 rfl) (by decide) rfl rfl lmX11_276 liJx4a65c_get_915e3 lvJx4a65c_Jx4a65c_get_915e3 msJx4a65c_get_915e3 dX11_gaffsOf_29 (ceS e24 (t_Jx4a65c_get_915e3 (d + 0) c23)) rfl (Nat.le_of_ble_eq_true rfl) (Nat.le_refl _) ?_
          replace H := og H; obtain ⟨g26, H⟩ := H
          refine e_castSt g26 lcX11_131 dX11_gaffsOf_32 ?_
          replace H := ob H; obtain ⟨q27, c28, H⟩ := H
          refine vrgaffs_X11 c28 (d + 1) dX11_gaffsOf_35 (Nat.le_of_ble_eq_true rfl) (Nat.le_refl _) ?_
          refine e_goto (tgt := 42) dX11_gaffsOf_38 (by decide) ?_
          refine e_iadd dX11_gaffsOf_42 ?_
          refine e_istore_n dX11_gaffsOf_43 (Nat.le_of_ble_eq_true rfl) rfl rfl ?_
          refine e_iinc dX11_gaffsOf_44 rfl (ii_ (by decide : Int32.ofInt (1) = (1 : Int32))) (Nat.le_of_ble_eq_true rfl) rfl rfl ?_
          refine e_goto (tgt := 4) dX11_gaffsOf_47 (by decide) ?_
          exact e_wk (lk1 (lk1 (lk1 (lk1 lkn)))) (ih H kE)
def f_X11_gaffsOf (p1 : Int32) (h : HS) : Option Int32 := (Option.bind (l_X11_gaffsOf_4 p1 h 1000 (0 : Int32) (0 : Int32)) (fun q29 => (some q29)))
set_option maxHeartbeats 4000000 in
set_option maxRecDepth 20000 in
theorem t_X11_gaffsOf {G : GE} (d : Nat) {p1 : Int32} {h : HS} {q : Int32} (hY : LY TX h) (H : f_X11_gaffsOf p1 h = some q) : CE G (d + 3) yX11_gaffsOf miX11_gaffsOf [.ref 32, .int p1] h (some (.int q)) (h) := by
  unfold f_X11_gaffsOf at H
  refine ce_of rfl (by decide) (fun q => by first | rfl | cases q) (Nat.le_of_ble_eq_true rfl) rfl ?_
  refine e_iconst (v := (0 : Int32)) dX11_gaffsOf_0 (by decide) ?_
  refine e_istore_n dX11_gaffsOf_1 (Nat.le_of_ble_eq_true rfl) rfl rfl ?_
  refine e_iconst (v := (0 : Int32)) dX11_gaffsOf_2 (by decide) ?_
  refine e_istore_n dX11_gaffsOf_3 (Nat.le_of_ble_eq_true rfl) rfl rfl ?_
  replace H := ob H; obtain ⟨q29, c30, H⟩ := H
  refine e_wk (lk1 (lk1 (lk1 (lk1 lkn)))) (w_X11_gaffsOf_4 d hY 1000 c30 ?_)
  refine e_iload_n dX11_gaffsOf_50 rfl ?_
  obtain rfl := Option.some.inj H
  exact z_iret rfl rfl dX11_gaffsOf_51 rfl rfl
-- X11_year
def l_X11_year_25 (y1 : Int32) (y2 : Int32)  : Nat → Int32 → HS → Option HS
  | 0, _, _ => none
  | n + 1, x3, h => (if hT h 33 = 1 then (Option.bind (f_Jx4a65c_size_8abf5 33 h) (fun q22 => (if q22 ≤ x3 then (some h) else (if (8 : Int32) ≤ x3 then (some h) else (Option.bind (f_Jx4a65c_get_915e3 33 x3 h) (fun q27 => (om q27 none (fun b30 => (if isSt (hT h b30) = true then (Option.bind (f_X11_lookHours b30 h) (fun q32 => (if ixb x3 8 = true then (l_X11_year_25 y1 y2 n (x3 + (1 : Int32)) (sI q32.2 54 x3.toNatClampNeg q32.1)) else none))) else none))))))))) else none)
set_option maxHeartbeats 4000000 in
set_option maxRecDepth 20000 in
theorem p_X11_year_25 {y1 : Int32} {y2 : Int32} : ∀ (n : Nat) {x3 : Int32} {h : HS} {q : HS}, l_X11_year_25 y1 y2 n x3 h = some q → Pr h q := by
  intro n
  induction n with
  | zero => intro x3 h q H; exact nz H
  | succ n ih =>
    intro x3 h q H
    unfold l_X11_year_25 at H
    replace H := og H; obtain ⟨g24, H⟩ := H
    replace H := ob H; obtain ⟨q22, c23, H⟩ := H
    replace H := oi H; obtain ⟨c25, H⟩ | ⟨c25, H⟩ := H
    · obtain rfl := Option.some.inj H
      exact Pr.rf
    · replace H := oi H; obtain ⟨c26, H⟩ | ⟨c26, H⟩ := H
      · obtain rfl := Option.some.inj H
        exact Pr.rf
      · replace H := ob H; obtain ⟨q27, c28, H⟩ := H
        replace H := oom H; obtain ⟨e29, H⟩ | ⟨b30, e29, H⟩ := H
        · exact nz H
        · replace H := og H; obtain ⟨g31, H⟩ := H
          replace H := ob H; obtain ⟨q32, c33, H⟩ := H
          have e34 := p_X11_lookHours c33
          replace H := og H; obtain ⟨g36, H⟩ := H
          exact e34.tr (ih H)
set_option maxHeartbeats 4000000 in
set_option maxRecDepth 20000 in
theorem w_X11_year_25 {G : GE} (d : Nat) {y1 : Int32} {y2 : Int32} {r : Option Value} {h' : HS}  : ∀ (n : Nat) {x3 : Int32} {h : HS} {q : HS}, LY TX h → l_X11_year_25 y1 y2 n x3 h = some q → En G (d + 5) miX11_year 72 [.ref 32, .int y1, .int y2, dum, dum, dum, dum, dum, dum, dum, dum] [] q r h' → En G (d + 5) miX11_year 25 [.ref 32, .int y1, .int y2, .int x3, dum, dum, dum, dum, dum, dum, dum] [] h r h' := by
  intro n
  induction n with
  | zero => intro x3 h q hYTX H kE; exact nz H
  | succ n ih =>
    intro x3 h q hYTX H kE
    unfold l_X11_year_25 at H
    refine e_iload_n dX11_year_25 rfl ?_
    refine g_aload_n dX11_year_26 rfl rfl ?_
    refine e_getR (hYTX.t 0 rfl) flX11_12_12 dX11_year_27 rfl (hYTX.r 0 rfl) ?_
    replace H := og H; obtain ⟨g24, H⟩ := H
    replace H := ob H; obtain ⟨q22, c23, H⟩ := H
    refine v1 (hYTX.t 1 rfl) (by decide) rfl rfl lmX11_114 liJx4a65c_size_8abf5 lvJx4a65c_Jx4a65c_size_8abf5 msJx4a65c_size_8abf5 dX11_year_30 (t_Jx4a65c_size_8abf5 (d + 4) c23) rfl (Nat.le_of_ble_eq_true rfl) (Nat.le_refl _) ?_
    refine e_icmp_ge (tgt := 72) dX11_year_33 (by decide) (fun c25 => ?_) (fun c25 => ?_)
    · replace H := ot c25 H
      obtain rfl := Option.some.inj H
      exact e_wk (lk1 (lk1 (lk1 (lk0 (lk1 (lk1 (lk1 (lk1 (lk1 (lk1 (lk1 lkn))))))))))) kE
    · replace H := of_ c25 H
      refine e_iload_n dX11_year_36 rfl ?_
      refine g_aload_n dX11_year_37 rfl rfl ?_
      refine e_getR (hYTX.t 0 rfl) flX11_86_12 dX11_year_38 rfl (hYTX.r 15 rfl) ?_
      refine e_alen (hYTX.t 22 rfl) (by decide) dX11_year_41 ?_
      refine e_ci (y := (8 : Int32)) (by rw [(hYTX.n 22 rfl)]; rfl) ?_
      refine e_icmp_ge (tgt := 72) dX11_year_42 (by decide) (fun c26 => ?_) (fun c26 => ?_)
      · replace H := ot c26 H
        obtain rfl := Option.some.inj H
        exact e_wk (lk1 (lk1 (lk1 (lk0 (lk1 (lk1 (lk1 (lk1 (lk1 (lk1 (lk1 lkn))))))))))) kE
      · replace H := of_ c26 H
        refine g_aload_n dX11_year_45 rfl rfl ?_
        refine e_getR (hYTX.t 0 rfl) flX11_86_12 dX11_year_46 rfl (hYTX.r 15 rfl) ?_
        refine e_iload_n dX11_year_49 rfl ?_
        refine g_aload_n dX11_year_50 rfl rfl ?_
        refine g_aload_n dX11_year_51 rfl rfl ?_
        refine e_getR (hYTX.t 0 rfl) flX11_12_12 dX11_year_52 rfl (hYTX.r 0 rfl) ?_
        refine e_iload_n dX11_year_55 rfl ?_
        replace H := ob H; obtain ⟨q27, c28, H⟩ := H
        replace H := oom H; obtain ⟨e29, H⟩ | ⟨b30, e29, H⟩ := H
        · refine v1 (hYTX.t 1 rfl) (by decide) rfl rfl lmX11_276 liJx4a65c_get_915e3 lvJx4a65c_Jx4a65c_get_915e3 msJx4a65c_get_915e3 dX11_year_56 (ceN e29 (t_Jx4a65c_get_915e3 (d + 2) c28)) rfl (Nat.le_of_ble_eq_true rfl) (Nat.le_refl _) ?_
          exact nz H
        · refine v1 (hYTX.t 1 rfl) (by decide) rfl rfl lmX11_276 liJx4a65c_get_915e3 lvJx4a65c_Jx4a65c_get_915e3 msJx4a65c_get_915e3 dX11_year_56 (ceS e29 (t_Jx4a65c_get_915e3 (d + 2) c28)) rfl (Nat.le_of_ble_eq_true rfl) (Nat.le_refl _) ?_
          replace H := og H; obtain ⟨g31, H⟩ := H
          refine e_castSt g31 lcX11_131 dX11_year_59 ?_
          replace H := ob H; obtain ⟨q32, c33, H⟩ := H
          refine v1 (hYTX.t 0 rfl) (by decide) rfl rfl lmX11_166 liX11_lookHours lvX11_X11_lookHours msX11_lookHours dX11_year_62 (t_X11_lookHours (d + 0) hYTX c33) rfl (Nat.le_of_ble_eq_true rfl) (Nat.le_refl _) ?_
          have e34 := p_X11_lookHours c33
          have hY35 := hYTX.pr okX e34
          replace H := og H; obtain ⟨g36, H⟩ := H
          refine e_iast (hY35.t 22 rfl) (ixb_y (hY35.n 22 rfl) g36) dX11_year_65 ?_
          refine e_iinc dX11_year_66 rfl (ii_ (by decide : Int32.ofInt (1) = (1 : Int32))) (Nat.le_of_ble_eq_true rfl) rfl rfl ?_
          refine e_goto (tgt := 25) dX11_year_69 (by decide) ?_
          exact e_wk (lk1 (lk1 (lk1 (lk1 (lk1 (lk1 (lk1 (lk1 (lk1 (lk1 (lk1 lkn))))))))))) (ih hY35 H kE)
def l_X11_year_89 (y1 : Int32) (y2 : Int32) (y3 : Int32) (h : HS)  : Nat → Int32 → Int32 → Int32 → Int32 → Option (Int32 × Int32 × Int32)
  | 0, _, _, _, _ => none
  | n + 1, x4, x5, x6, x7 => (if y3 < x7 then (some (x4, x5, x6)) else (Option.bind (f_X11_hoursOfLooks x7 h) (fun q61 => (Option.bind (f_X11_gaffsOf x7 h) (fun q63 => (if x5 < q63 then (if y1 < q61 then (l_X11_year_89 y1 y2 y3 h n x4 x5 x6 (x7 + (1 : Int32))) else (l_X11_year_89 y1 y2 y3 h n x7 q63 q61 (x7 + (1 : Int32)))) else (if q63 = x5 then (Option.bind (if x6 ≤ q61 then (some (0 : Int32)) else (some (1 : Int32))) (fun q72 => (if y1 < q61 then (l_X11_year_89 y1 y2 y3 h n x4 x5 x6 (x7 + (1 : Int32))) else (if q72 = 0 then (l_X11_year_89 y1 y2 y3 h n x4 x5 x6 (x7 + (1 : Int32))) else (l_X11_year_89 y1 y2 y3 h n x7 q63 q61 (x7 + (1 : Int32))))))) else (if y1 < q61 then (l_X11_year_89 y1 y2 y3 h n x4 x5 x6 (x7 + (1 : Int32))) else (l_X11_year_89 y1 y2 y3 h n x4 x5 x6 (x7 + (1 : Int32)))))))))))
set_option maxHeartbeats 4000000 in
set_option maxRecDepth 20000 in
theorem w_X11_year_89 {G : GE} (d : Nat) {y1 : Int32} {y2 : Int32} {y3 : Int32} {h : HS} {r : Option Value} {h' : HS} (hYTX : LY TX h) : ∀ (n : Nat) {x4 : Int32} {x5 : Int32} {x6 : Int32} {x7 : Int32} {q : (Int32 × Int32 × Int32)}, l_X11_year_89 y1 y2 y3 h n x4 x5 x6 x7 = some q → En G (d + 5) miX11_year 168 [dum, dum, .int y2, dum, .int q.1, .int q.2.1, .int q.2.2, dum, dum, dum, dum] [] h r h' → En G (d + 5) miX11_year 89 [.ref 32, .int y1, .int y2, .int y3, .int x4, .int x5, .int x6, .int x7, dum, dum, dum] [] h r h' := by
  intro n
  induction n with
  | zero => intro x4 x5 x6 x7 q H kE; exact nz H
  | succ n ih =>
    intro x4 x5 x6 x7 q H kE
    unfold l_X11_year_89 at H
    refine e_iload dX11_year_89 rfl ?_
    refine e_iload_n dX11_year_91 rfl ?_
    refine e_icmp_gt (tgt := 168) dX11_year_92 (by decide) (fun c60 => ?_) (fun c60 => ?_)
    · replace H := ot c60 H
      obtain rfl := Option.some.inj H
      exact e_wk (lk0 (lk0 (lk1 (lk0 (lk1 (lk1 (lk1 (lk0 (lk1 (lk1 (lk1 lkn))))))))))) kE
    · replace H := of_ c60 H
      refine g_aload_n dX11_year_95 rfl rfl ?_
      refine e_iload dX11_year_96 rfl ?_
      replace H := ob H; obtain ⟨q61, c62, H⟩ := H
      refine v1 (hYTX.t 0 rfl) (by decide) rfl rfl lmX11_361 liX11_hoursOfLooks lvX11_X11_hoursOfLooks msX11_hoursOfLooks dX11_year_98 (t_X11_hoursOfLooks (d + 3) hYTX c62) rfl (Nat.le_of_ble_eq_true rfl) (Nat.le_refl _) ?_
      refine e_istore dX11_year_101 (Nat.le_of_ble_eq_true rfl) rfl rfl ?_
      refine g_aload_n dX11_year_103 rfl rfl ?_
      refine e_iload dX11_year_104 rfl ?_
      replace H := ob H; obtain ⟨q63, c64, H⟩ := H
      refine v1 (hYTX.t 0 rfl) (by decide) rfl rfl lmX11_364 liX11_gaffsOf lvX11_X11_gaffsOf msX11_gaffsOf dX11_year_106 (t_X11_gaffsOf (d + 1) hYTX c64) rfl (Nat.le_of_ble_eq_true rfl) (Nat.le_refl _) ?_
      refine e_istore dX11_year_109 (Nat.le_of_ble_eq_true rfl) rfl rfl ?_
      refine e_iload dX11_year_111 rfl ?_
      refine e_iload dX11_year_113 rfl ?_
      refine e_icmp_gt (tgt := 132) dX11_year_115 (by decide) (fun c65 => ?_) (fun c65 => ?_)
      · replace H := ot c65 H
        refine e_iconst (v := (1 : Int32)) dX11_year_132 (by decide) ?_
        refine e_goto (tgt := 137) dX11_year_133 (by decide) ?_
        refine e_istore dX11_year_137 (Nat.le_of_ble_eq_true rfl) rfl rfl ?_
        refine e_iload dX11_year_139 rfl ?_
        refine e_iload_n dX11_year_141 rfl ?_
        refine e_icmp_gt (tgt := 162) dX11_year_142 (by decide) (fun c66 => ?_) (fun c66 => ?_)
        · replace H := ot c66 H
          refine e_iinc dX11_year_162 rfl (ii_ (by decide : Int32.ofInt (1) = (1 : Int32))) (Nat.le_of_ble_eq_true rfl) rfl rfl ?_
          refine e_goto (tgt := 89) dX11_year_165 (by decide) ?_
          exact e_wk (lk1 (lk1 (lk1 (lk1 (lk1 (lk1 (lk1 (lk1 (lk0 (lk0 (lk0 lkn))))))))))) (ih H kE)
        · replace H := of_ c66 H
          refine e_iload dX11_year_145 rfl ?_
          refine e_if_eq (tgt := 162) dX11_year_147 (by decide) (fun c67 => absurd c67 (by decide)) (fun c67 => ?_)
          refine e_iload dX11_year_150 rfl ?_
          refine e_istore dX11_year_152 (Nat.le_of_ble_eq_true rfl) rfl rfl ?_
          refine e_iload dX11_year_154 rfl ?_
          refine e_istore dX11_year_156 (Nat.le_of_ble_eq_true rfl) rfl rfl ?_
          refine e_iload dX11_year_158 rfl ?_
          refine e_istore dX11_year_160 (Nat.le_of_ble_eq_true rfl) rfl rfl ?_
          refine e_iinc dX11_year_162 rfl (ii_ (by decide : Int32.ofInt (1) = (1 : Int32))) (Nat.le_of_ble_eq_true rfl) rfl rfl ?_
          refine e_goto (tgt := 89) dX11_year_165 (by decide) ?_
          exact e_wk (lk1 (lk1 (lk1 (lk1 (lk1 (lk1 (lk1 (lk1 (lk0 (lk0 (lk0 lkn))))))))))) (ih H kE)
      · replace H := of_ c65 H
        refine e_iload dX11_year_118 rfl ?_
        refine e_iload dX11_year_120 rfl ?_
        refine e_icmp_ne (tgt := 136) dX11_year_122 (by decide) (fun c68 => ?_) (fun c68 => ?_)
        · replace H := of_ c68 H
          refine e_iconst (v := (0 : Int32)) dX11_year_136 (by decide) ?_
          refine e_istore dX11_year_137 (Nat.le_of_ble_eq_true rfl) rfl rfl ?_
          refine e_iload dX11_year_139 rfl ?_
          refine e_iload_n dX11_year_141 rfl ?_
          refine e_icmp_gt (tgt := 162) dX11_year_142 (by decide) (fun c69 => ?_) (fun c69 => ?_)
          · replace H := ot c69 H
            refine e_iinc dX11_year_162 rfl (ii_ (by decide : Int32.ofInt (1) = (1 : Int32))) (Nat.le_of_ble_eq_true rfl) rfl rfl ?_
            refine e_goto (tgt := 89) dX11_year_165 (by decide) ?_
            exact e_wk (lk1 (lk1 (lk1 (lk1 (lk1 (lk1 (lk1 (lk1 (lk0 (lk0 (lk0 lkn))))))))))) (ih H kE)
          · replace H := of_ c69 H
            refine e_iload dX11_year_145 rfl ?_
            refine e_if_eq (tgt := 162) dX11_year_147 (by decide) (fun c70 => ?_) (fun c70 => absurd c70 (by decide))
            refine e_iinc dX11_year_162 rfl (ii_ (by decide : Int32.ofInt (1) = (1 : Int32))) (Nat.le_of_ble_eq_true rfl) rfl rfl ?_
            refine e_goto (tgt := 89) dX11_year_165 (by decide) ?_
            exact e_wk (lk1 (lk1 (lk1 (lk1 (lk1 (lk1 (lk1 (lk1 (lk0 (lk0 (lk0 lkn))))))))))) (ih H kE)
        · replace H := ot c68 H
          refine e_iload dX11_year_125 rfl ?_
          refine e_iload dX11_year_127 rfl ?_
          replace H := ob H; obtain ⟨q72, c74, H⟩ := H
          have k73 : En G (d + 5) miX11_year 137 [.ref 32, .int y1, .int y2, .int y3, .int x4, .int x5, .int x6, .int x7, .int q61, .int q63, dum] [.int q72] h r h' := by
            refine e_istore dX11_year_137 (Nat.le_of_ble_eq_true rfl) rfl rfl ?_
            refine e_iload dX11_year_139 rfl ?_
            refine e_iload_n dX11_year_141 rfl ?_
            refine e_icmp_gt (tgt := 162) dX11_year_142 (by decide) (fun c75 => ?_) (fun c75 => ?_)
            · replace H := ot c75 H
              refine e_iinc dX11_year_162 rfl (ii_ (by decide : Int32.ofInt (1) = (1 : Int32))) (Nat.le_of_ble_eq_true rfl) rfl rfl ?_
              refine e_goto (tgt := 89) dX11_year_165 (by decide) ?_
              exact e_wk (lk1 (lk1 (lk1 (lk1 (lk1 (lk1 (lk1 (lk1 (lk0 (lk0 (lk0 lkn))))))))))) (ih H kE)
            · replace H := of_ c75 H
              refine e_iload dX11_year_145 rfl ?_
              refine e_if_eq (tgt := 162) dX11_year_147 (by decide) (fun c76 => ?_) (fun c76 => ?_)
              · replace H := ot c76 H
                refine e_iinc dX11_year_162 rfl (ii_ (by decide : Int32.ofInt (1) = (1 : Int32))) (Nat.le_of_ble_eq_true rfl) rfl rfl ?_
                refine e_goto (tgt := 89) dX11_year_165 (by decide) ?_
                exact e_wk (lk1 (lk1 (lk1 (lk1 (lk1 (lk1 (lk1 (lk1 (lk0 (lk0 (lk0 lkn))))))))))) (ih H kE)
              · replace H := of_ c76 H
                refine e_iload dX11_year_150 rfl ?_
                refine e_istore dX11_year_152 (Nat.le_of_ble_eq_true rfl) rfl rfl ?_
                refine e_iload dX11_year_154 rfl ?_
                refine e_istore dX11_year_156 (Nat.le_of_ble_eq_true rfl) rfl rfl ?_
                refine e_iload dX11_year_158 rfl ?_
                refine e_istore dX11_year_160 (Nat.le_of_ble_eq_true rfl) rfl rfl ?_
                refine e_iinc dX11_year_162 rfl (ii_ (by decide : Int32.ofInt (1) = (1 : Int32))) (Nat.le_of_ble_eq_true rfl) rfl rfl ?_
                refine e_goto (tgt := 89) dX11_year_165 (by decide) ?_
                exact e_wk (lk1 (lk1 (lk1 (lk1 (lk1 (lk1 (lk1 (lk1 (lk0 (lk0 (lk0 lkn))))))))))) (ih H kE)
          replace H := c74
          refine e_icmp_ge (tgt := 136) dX11_year_129 (by decide) (fun c71 => ?_) (fun c71 => ?_)
          · replace H := ot c71 H
            refine e_iconst (v := (0 : Int32)) dX11_year_136 (by decide) ?_
            obtain rfl := Option.some.inj H
            exact e_wk (lk1 (lk1 (lk1 (lk1 (lk1 (lk1 (lk1 (lk1 (lk1 (lk1 (lk1 lkn))))))))))) k73
          · replace H := of_ c71 H
            refine e_iconst (v := (1 : Int32)) dX11_year_132 (by decide) ?_
            refine e_goto (tgt := 137) dX11_year_133 (by decide) ?_
            obtain rfl := Option.some.inj H
            exact e_wk (lk1 (lk1 (lk1 (lk1 (lk1 (lk1 (lk1 (lk1 (lk1 (lk1 (lk1 lkn))))))))))) k73
def f_X11_year (p1 : Int32) (p2 : Int32) (h : HS) : Option (Int32 × HS) := (Option.bind (f_X11_isIn p1 (0 : Int32) (199 : Int32)) (fun q1 => (if q1 = true then (Option.bind (f_X11_isIn p2 (0 : Int32) (2 : Int32)) (fun q4 => (if q4 = true then (Option.bind (l_X11_year_25 p1 p2 1000 (0 : Int32) h) (fun q37 => (Option.bind (f_X11_allStalls q37) (fun q41 => (Option.bind (l_X11_year_89 p1 p2 q41 q37 1000 (0 : Int32) (0 : Int32) (0 : Int32) (1 : Int32)) (fun q77 => (if p2 = 0 then (some (q77.1, q37)) else (if p2 = (1 : Int32) then (some (q77.2.1, q37)) else (some (q77.2.2, q37)))))))))) else (some ((-2 : Int32), h))))) else (some ((-2 : Int32), h)))))
set_option maxHeartbeats 4000000 in
set_option maxRecDepth 20000 in
theorem p_X11_year {p1 : Int32} {p2 : Int32} {h : HS} {q : (Int32 × HS)} (H : f_X11_year p1 p2 h = some q) : Pr h q.2 := by
  unfold f_X11_year at H
  replace H := ob H; obtain ⟨q1, c2, H⟩ := H
  replace H := oi H; obtain ⟨c3, H⟩ | ⟨c3, H⟩ := H
  · replace H := ob H; obtain ⟨q4, c5, H⟩ := H
    replace H := oi H; obtain ⟨c6, H⟩ | ⟨c6, H⟩ := H
    · replace H := ob H; obtain ⟨q37, c38, H⟩ := H
      have e39 := p_X11_year_25 1000 c38
      replace H := ob H; obtain ⟨q41, c42, H⟩ := H
      replace H := ob H; obtain ⟨q77, c78, H⟩ := H
      replace H := oi H; obtain ⟨c79, H⟩ | ⟨c79, H⟩ := H
      · obtain rfl := Option.some.inj H
        exact e39
      · replace H := oi H; obtain ⟨c80, H⟩ | ⟨c80, H⟩ := H
        · obtain rfl := Option.some.inj H
          exact e39
        · obtain rfl := Option.some.inj H
          exact e39
    · obtain rfl := Option.some.inj H
      exact Pr.rf
  · obtain rfl := Option.some.inj H
    exact Pr.rf
set_option maxHeartbeats 4000000 in
set_option maxRecDepth 20000 in
theorem t_X11_year {G : GE} (d : Nat) {p1 : Int32} {p2 : Int32} {h : HS} {q : (Int32 × HS)} (hY : LY TX h) (H : f_X11_year p1 p2 h = some q) : CE G (d + 5) yX11_year miX11_year [.ref 32, .int p1, .int p2] h (some (.int q.1)) (q.2) := by
  unfold f_X11_year at H
  refine ce_of rfl (by decide) (fun q => by first | rfl | cases q) (Nat.le_of_ble_eq_true rfl) rfl ?_
  refine e_iload_n dX11_year_0 rfl ?_
  refine e_iconst (v := (0 : Int32)) dX11_year_1 (by decide) ?_
  refine e_sipush (v := (199 : Int32)) dX11_year_2 (by decide) ?_
  replace H := ob H; obtain ⟨q1, c2, H⟩ := H
  refine s1 lmX11_106 lsX11_isIn msX11_isIn dX11_year_5 (t_X11_isIn (d + 4) c2) rfl (Nat.le_of_ble_eq_true rfl) (Nat.le_refl _) ?_
  refine e_ifB_eq (tgt := 20) dX11_year_8 (by decide) (fun c3 => ?_) (fun c3 => ?_)
  · replace H := of_ (nb c3) H
    refine e_bipush (v := (-2 : Int32)) dX11_year_20 (by decide) ?_
    obtain rfl := Option.some.inj H
    exact z_iret rfl rfl dX11_year_22 rfl rfl
  · replace H := ot c3 H
    refine e_iload_n dX11_year_11 rfl ?_
    refine e_iconst (v := (0 : Int32)) dX11_year_12 (by decide) ?_
    refine e_iconst (v := (2 : Int32)) dX11_year_13 (by decide) ?_
    replace H := ob H; obtain ⟨q4, c5, H⟩ := H
    refine s1 lmX11_106 lsX11_isIn msX11_isIn dX11_year_14 (t_X11_isIn (d + 4) c5) rfl (Nat.le_of_ble_eq_true rfl) (Nat.le_refl _) ?_
    refine e_ifB_ne (tgt := 23) dX11_year_17 (by decide) (fun c6 => ?_) (fun c6 => ?_)
    · replace H := ot c6 H
      refine e_iconst (v := (0 : Int32)) dX11_year_23 (by decide) ?_
      refine e_istore_n dX11_year_24 (Nat.le_of_ble_eq_true rfl) rfl rfl ?_
      replace H := ob H; obtain ⟨q37, c38, H⟩ := H
      have e39 := p_X11_year_25 1000 c38
      have hY40 := hY.pr okX e39
      refine e_wk (lk1 (lk1 (lk1 (lk1 (lk1 (lk1 (lk1 (lk1 (lk1 (lk1 (lk1 lkn))))))))))) (w_X11_year_25 d 1000 hY c38 ?_)
      refine g_aload_n dX11_year_72 rfl rfl ?_
      replace H := ob H; obtain ⟨q41, c42, H⟩ := H
      refine v1 (hY40.t 0 rfl) (by decide) rfl rfl lmX11_352 liX11_allStalls lvX11_X11_allStalls msX11_allStalls dX11_year_73 (t_X11_allStalls (d + 3) hY40 c42) rfl (Nat.le_of_ble_eq_true rfl) (Nat.le_refl _) ?_
      refine e_istore_n dX11_year_76 (Nat.le_of_ble_eq_true rfl) rfl rfl ?_
      refine e_iconst (v := (0 : Int32)) dX11_year_77 (by decide) ?_
      refine e_istore dX11_year_78 (Nat.le_of_ble_eq_true rfl) rfl rfl ?_
      refine e_iconst (v := (0 : Int32)) dX11_year_80 (by decide) ?_
      refine e_istore dX11_year_81 (Nat.le_of_ble_eq_true rfl) rfl rfl ?_
      refine e_iconst (v := (0 : Int32)) dX11_year_83 (by decide) ?_
      refine e_istore dX11_year_84 (Nat.le_of_ble_eq_true rfl) rfl rfl ?_
      refine e_iconst (v := (1 : Int32)) dX11_year_86 (by decide) ?_
      refine e_istore dX11_year_87 (Nat.le_of_ble_eq_true rfl) rfl rfl ?_
      replace H := ob H; obtain ⟨q77, c78, H⟩ := H
      refine e_wk (lk1 (lk1 (lk1 (lk1 (lk1 (lk1 (lk1 (lk1 (lk1 (lk1 (lk1 lkn))))))))))) (w_X11_year_89 d hY40 1000 c78 ?_)
      refine e_iload_n dX11_year_168 rfl ?_
      refine e_if_ne (tgt := 177) dX11_year_169 (by decide) (fun c79 => ?_) (fun c79 => ?_)
      · replace H := of_ c79 H
        refine e_iload_n dX11_year_177 rfl ?_
        refine e_iconst (v := (1 : Int32)) dX11_year_178 (by decide) ?_
        refine e_icmp_ne (tgt := 187) dX11_year_179 (by decide) (fun c80 => ?_) (fun c80 => ?_)
        · replace H := of_ c80 H
          refine e_iload dX11_year_187 rfl ?_
          obtain rfl := Option.some.inj H
          exact z_iret rfl rfl dX11_year_189 rfl rfl
        · replace H := ot c80 H
          refine e_iload dX11_year_182 rfl ?_
          refine e_goto (tgt := 189) dX11_year_184 (by decide) ?_
          obtain rfl := Option.some.inj H
          exact z_iret rfl rfl dX11_year_189 rfl rfl
      · replace H := ot c79 H
        refine e_iload dX11_year_172 rfl ?_
        refine e_goto (tgt := 189) dX11_year_174 (by decide) ?_
        obtain rfl := Option.some.inj H
        exact z_iret rfl rfl dX11_year_189 rfl rfl
    · replace H := of_ (nb c6) H
      refine e_bipush (v := (-2 : Int32)) dX11_year_20 (by decide) ?_
      obtain rfl := Option.some.inj H
      exact z_iret rfl rfl dX11_year_22 rfl rfl
-- X11_make
def l_X11_make_127 (y1 : Int32) (y3 : Int32) (y4 : Int32) (y5 : Int32) (y6 : Nat) (y9 : Int32) (y10 : Int32) (y11 : Int32) (h : HS)  : Nat → Int32 → Int32 → Int32 → Option (Int32 × Int32)
  | 0, _, _, _ => none
  | n + 1, x7, x8, x12 => (if (99 : Int32) < x12 then (some (x7, x8)) else (if y11 = 0 then (some (x7, x8)) else (if hT h y6 = 5 then (if ((x12 * (hI h y6 4)) - (y10 * y3)) < (y5 * (hI h y6 4)) then (l_X11_make_127 y1 y3 y4 y5 y6 y9 y10 y11 h n x7 x8 (x12 + (1 : Int32))) else (if x7 = (-1 : Int32) then (l_X11_make_127 y1 y3 y4 y5 y6 y9 y10 y11 h n (((100 : Int32) * y9) + x12) ((x12 * (hI h y6 4)) - (y10 * y3)) (x12 + (1 : Int32))) else (if x8 ≤ ((x12 * (hI h y6 4)) - (y10 * y3)) then (l_X11_make_127 y1 y3 y4 y5 y6 y9 y10 y11 h n x7 x8 (x12 + (1 : Int32))) else (l_X11_make_127 y1 y3 y4 y5 y6 y9 y10 y11 h n (((100 : Int32) * y9) + x12) ((x12 * (hI h y6 4)) - (y10 * y3)) (x12 + (1 : Int32)))))) else none)))
set_option maxHeartbeats 4000000 in
set_option maxRecDepth 20000 in
theorem w_X11_make_127 {G : GE} (d : Nat) {y1 : Int32} {y3 : Int32} {y4 : Int32} {y5 : Int32} {y6 : Nat} {y9 : Int32} {y10 : Int32} {y11 : Int32} {h : HS} {r : Option Value} {h' : HS} (hYTX : LY TX h) : ∀ (n : Nat) {x7 : Int32} {x8 : Int32} {x12 : Int32} {q : (Int32 × Int32)}, l_X11_make_127 y1 y3 y4 y5 y6 y9 y10 y11 h n x7 x8 x12 = some q → En G (d + 6) miX11_make 200 [.ref 32, .int y1, dum, .int y3, .int y4, .int y5, .ref y6, .int q.1, .int q.2, .int y9, dum, dum, dum, dum] [] h r h' → En G (d + 6) miX11_make 127 [.ref 32, .int y1, dum, .int y3, .int y4, .int y5, .ref y6, .int x7, .int x8, .int y9, .int y10, .int y11, .int x12, dum] [] h r h' := by
  intro n
  induction n with
  | zero => intro x7 x8 x12 q H kE; exact nz H
  | succ n ih =>
    intro x7 x8 x12 q H kE
    unfold l_X11_make_127 at H
    refine e_iload dX11_make_127 rfl ?_
    refine e_bipush (v := (99 : Int32)) dX11_make_129 (by decide) ?_
    refine e_icmp_gt (tgt := 200) dX11_make_131 (by decide) (fun c78 => ?_) (fun c78 => ?_)
    · replace H := ot c78 H
      obtain rfl := Option.some.inj H
      exact e_wk (lk1 (lk1 (lk1 (lk1 (lk1 (lk1 (lk1 (lk1 (lk1 (lk1 (lk0 (lk0 (lk0 (lk1 lkn)))))))))))))) kE
    · replace H := of_ c78 H
      refine e_iload dX11_make_134 rfl ?_
      refine e_if_eq (tgt := 200) dX11_make_136 (by decide) (fun c79 => ?_) (fun c79 => ?_)
      · replace H := ot c79 H
        obtain rfl := Option.some.inj H
        exact e_wk (lk1 (lk1 (lk1 (lk1 (lk1 (lk1 (lk1 (lk1 (lk1 (lk1 (lk0 (lk0 (lk0 (lk1 lkn)))))))))))))) kE
      · replace H := of_ c79 H
        refine e_iload dX11_make_139 rfl ?_
        refine g_aload dX11_make_141 rfl rfl ?_
        replace H := og H; obtain ⟨g80, H⟩ := H
        refine e_getI g80 flX11_199_4 dX11_make_143 rfl ?_
        refine e_imul dX11_make_146 ?_
        refine e_iload dX11_make_147 rfl ?_
        refine e_iload_n dX11_make_149 rfl ?_
        refine e_imul dX11_make_150 ?_
        refine e_isub dX11_make_151 ?_
        refine e_istore dX11_make_152 (Nat.le_of_ble_eq_true rfl) rfl rfl ?_
        refine e_iload dX11_make_154 rfl ?_
        refine e_iload dX11_make_156 rfl ?_
        refine g_aload dX11_make_158 rfl rfl ?_
        refine e_getI g80 flX11_199_4 dX11_make_160 rfl ?_
        refine e_imul dX11_make_163 ?_
        refine e_icmp_lt (tgt := 194) dX11_make_164 (by decide) (fun c81 => ?_) (fun c81 => ?_)
        · replace H := ot c81 H
          refine e_iinc dX11_make_194 rfl (ii_ (by decide : Int32.ofInt (1) = (1 : Int32))) (Nat.le_of_ble_eq_true rfl) rfl rfl ?_
          refine e_goto (tgt := 127) dX11_make_197 (by decide) ?_
          exact e_wk (lk1 (lk1 (lk1 (lk1 (lk1 (lk1 (lk1 (lk1 (lk1 (lk1 (lk1 (lk1 (lk1 (lk0 lkn)))))))))))))) (ih H kE)
        · replace H := of_ c81 H
          refine e_iload dX11_make_167 rfl ?_
          refine e_iconst (v := (-1 : Int32)) dX11_make_169 (by decide) ?_
          refine e_icmp_eq (tgt := 180) dX11_make_170 (by decide) (fun c82 => ?_) (fun c82 => ?_)
          · replace H := ot c82 H
            refine e_bipush (v := (100 : Int32)) dX11_make_180 (by decide) ?_
            refine e_iload dX11_make_182 rfl ?_
            refine e_imul dX11_make_184 ?_
            refine e_iload dX11_make_185 rfl ?_
            refine e_iadd dX11_make_187 ?_
            refine e_istore dX11_make_188 (Nat.le_of_ble_eq_true rfl) rfl rfl ?_
            refine e_iload dX11_make_190 rfl ?_
            refine e_istore dX11_make_192 (Nat.le_of_ble_eq_true rfl) rfl rfl ?_
            refine e_iinc dX11_make_194 rfl (ii_ (by decide : Int32.ofInt (1) = (1 : Int32))) (Nat.le_of_ble_eq_true rfl) rfl rfl ?_
            refine e_goto (tgt := 127) dX11_make_197 (by decide) ?_
            exact e_wk (lk1 (lk1 (lk1 (lk1 (lk1 (lk1 (lk1 (lk1 (lk1 (lk1 (lk1 (lk1 (lk1 (lk0 lkn)))))))))))))) (ih H kE)
          · replace H := of_ c82 H
            refine e_iload dX11_make_173 rfl ?_
            refine e_iload dX11_make_175 rfl ?_
            refine e_icmp_ge (tgt := 194) dX11_make_177 (by decide) (fun c83 => ?_) (fun c83 => ?_)
            · replace H := ot c83 H
              refine e_iinc dX11_make_194 rfl (ii_ (by decide : Int32.ofInt (1) = (1 : Int32))) (Nat.le_of_ble_eq_true rfl) rfl rfl ?_
              refine e_goto (tgt := 127) dX11_make_197 (by decide) ?_
              exact e_wk (lk1 (lk1 (lk1 (lk1 (lk1 (lk1 (lk1 (lk1 (lk1 (lk1 (lk1 (lk1 (lk1 (lk0 lkn)))))))))))))) (ih H kE)
            · replace H := of_ c83 H
              refine e_bipush (v := (100 : Int32)) dX11_make_180 (by decide) ?_
              refine e_iload dX11_make_182 rfl ?_
              refine e_imul dX11_make_184 ?_
              refine e_iload dX11_make_185 rfl ?_
              refine e_iadd dX11_make_187 ?_
              refine e_istore dX11_make_188 (Nat.le_of_ble_eq_true rfl) rfl rfl ?_
              refine e_iload dX11_make_190 rfl ?_
              refine e_istore dX11_make_192 (Nat.le_of_ble_eq_true rfl) rfl rfl ?_
              refine e_iinc dX11_make_194 rfl (ii_ (by decide : Int32.ofInt (1) = (1 : Int32))) (Nat.le_of_ble_eq_true rfl) rfl rfl ?_
              refine e_goto (tgt := 127) dX11_make_197 (by decide) ?_
              exact e_wk (lk1 (lk1 (lk1 (lk1 (lk1 (lk1 (lk1 (lk1 (lk1 (lk1 (lk1 (lk1 (lk1 (lk0 lkn)))))))))))))) (ih H kE)
def l_X11_make_69 (y1 : Int32) (y3 : Int32) (y4 : Int32) (y5 : Int32) (y6 : Nat)  : Nat → Int32 → Int32 → Int32 → HS → Option (Int32 × HS)
  | 0, _, _, _, _ => none
  | n + 1, x7, x8, x9, h => (if (9 : Int32) < x9 then (some (x7, h)) else (Option.bind (f_X11_newStall y1 (1010 : Int32) x9 (1 : Int32) h) (fun q55 => (om q55.1 none (fun b58 => (Option.bind (f_X11_mostWinning b58 y6 q55.2) (fun q61 => (if hT q61.2 y6 = 5 then (Option.bind (f_X11_quotient ((1000 : Int64) * q61.1.toInt64) (hI q61.2 y6 4).toInt64) (fun q66 => (Option.bind (if q66 < y4.toInt64 then (some (0 : Int32)) else (some (1 : Int32))) (fun q69 => (Option.bind (l_X11_make_127 y1 y3 y4 y5 y6 x9 q61.1 q69 q61.2 1000 x7 x8 (1 : Int32)) (fun q84 => (l_X11_make_69 y1 y3 y4 y5 y6 n q84.1 q84.2 (x9 + (1 : Int32)) q61.2))))))) else none))))))))
set_option maxHeartbeats 4000000 in
set_option maxRecDepth 20000 in
theorem p_X11_make_69 {y1 : Int32} {y3 : Int32} {y4 : Int32} {y5 : Int32} {y6 : Nat} : ∀ (n : Nat) {x7 : Int32} {x8 : Int32} {x9 : Int32} {h : HS} {q : (Int32 × HS)}, l_X11_make_69 y1 y3 y4 y5 y6 n x7 x8 x9 h = some q → Pr h q.2 := by
  intro n
  induction n with
  | zero => intro x7 x8 x9 h q H; exact nz H
  | succ n ih =>
    intro x7 x8 x9 h q H
    unfold l_X11_make_69 at H
    replace H := oi H; obtain ⟨c54, H⟩ | ⟨c54, H⟩ := H
    · obtain rfl := Option.some.inj H
      exact Pr.rf
    · replace H := ob H; obtain ⟨q55, c56, H⟩ := H
      have e59 := p_X11_newStall c56
      replace H := oom H; obtain ⟨e57, H⟩ | ⟨b58, e57, H⟩ := H
      · exact nz H
      · replace H := ob H; obtain ⟨q61, c62, H⟩ := H
        have e63 := p_X11_mostWinning c62
        replace H := og H; obtain ⟨g65, H⟩ := H
        replace H := ob H; obtain ⟨q66, c67, H⟩ := H
        replace H := ob H; obtain ⟨q69, c71, H⟩ := H
        replace H := ob H; obtain ⟨q84, c85, H⟩ := H
        exact (e59.tr e63).tr (ih H)
set_option maxHeartbeats 4000000 in
set_option maxRecDepth 20000 in
theorem w_X11_make_69 {G : GE} (d : Nat) {y1 : Int32} {y3 : Int32} {y4 : Int32} {y5 : Int32} {y6 : Nat} {r : Option Value} {h' : HS}  : ∀ (n : Nat) {x7 : Int32} {x8 : Int32} {x9 : Int32} {h : HS} {q : (Int32 × HS)}, LY TX h → l_X11_make_69 y1 y3 y4 y5 y6 n x7 x8 x9 h = some q → En G (d + 6) miX11_make 206 [dum, dum, dum, dum, dum, dum, dum, .int q.1, dum, dum, dum, dum, dum, dum] [] q.2 r h' → En G (d + 6) miX11_make 69 [.ref 32, .int y1, dum, .int y3, .int y4, .int y5, .ref y6, .int x7, .int x8, .int x9, dum, dum, dum, dum] [] h r h' := by
  intro n
  induction n with
  | zero => intro x7 x8 x9 h q hYTX H kE; exact nz H
  | succ n ih =>
    intro x7 x8 x9 h q hYTX H kE
    unfold l_X11_make_69 at H
    refine e_iload dX11_make_69 rfl ?_
    refine e_bipush (v := (9 : Int32)) dX11_make_71 (by decide) ?_
    refine e_icmp_gt (tgt := 206) dX11_make_73 (by decide) (fun c54 => ?_) (fun c54 => ?_)
    · replace H := ot c54 H
      obtain rfl := Option.some.inj H
      exact e_wk (lk0 (lk0 (lk1 (lk0 (lk0 (lk0 (lk0 (lk1 (lk0 (lk0 (lk1 (lk1 (lk1 (lk1 lkn)))))))))))))) kE
    · replace H := of_ c54 H
      refine g_aload_n dX11_make_76 rfl rfl ?_
      refine e_iload_n dX11_make_77 rfl ?_
      refine e_sipush (v := (1010 : Int32)) dX11_make_78 (by decide) ?_
      refine e_iload dX11_make_81 rfl ?_
      refine e_iconst (v := (1 : Int32)) dX11_make_83 (by decide) ?_
      replace H := ob H; obtain ⟨q55, c56, H⟩ := H
      have e59 := p_X11_newStall c56
      have hY60 := hYTX.pr okX e59
      replace H := oom H; obtain ⟨e57, H⟩ | ⟨b58, e57, H⟩ := H
      · refine s1 lmX11_118 lsX11_newStall msX11_newStall dX11_make_84 (ceN e57 (t_X11_newStall (d + 1) c56)) rfl (Nat.le_of_ble_eq_true rfl) (Nat.le_refl _) ?_
        refine g_aload dX11_make_87 rfl rfl ?_
        exact nz H
      · refine s1 lmX11_118 lsX11_newStall msX11_newStall dX11_make_84 (ceS e57 (t_X11_newStall (d + 1) c56)) rfl (Nat.le_of_ble_eq_true rfl) (Nat.le_refl _) ?_
        refine g_aload dX11_make_87 rfl rfl ?_
        replace H := ob H; obtain ⟨q61, c62, H⟩ := H
        refine v1 (hY60.t 0 rfl) (by decide) rfl rfl lmX11_280 liX11_mostWinning lvX11_X11_mostWinning msX11_mostWinning dX11_make_89 (t_X11_mostWinning (d + 0) hY60 c62) rfl (Nat.le_of_ble_eq_true rfl) (Nat.le_refl _) ?_
        have e63 := p_X11_mostWinning c62
        have hY64 := hY60.pr okX e63
        refine e_istore dX11_make_92 (Nat.le_of_ble_eq_true rfl) rfl rfl ?_
        refine e_ldc2 (v := (1000 : Int64)) lkX11_335 dX11_make_94 ?_
        refine e_iload dX11_make_97 rfl ?_
        refine e_i2l dX11_make_99 ?_
        refine e_lmul dX11_make_100 ?_
        refine g_aload dX11_make_101 rfl rfl ?_
        replace H := og H; obtain ⟨g65, H⟩ := H
        refine e_getI g65 flX11_199_4 dX11_make_103 rfl ?_
        refine e_i2l dX11_make_106 ?_
        replace H := ob H; obtain ⟨q66, c67, H⟩ := H
        refine s1 lmX11_267 lsX11_quotient msX11_quotient dX11_make_107 (t_X11_quotient (d + 5) c67) rfl (Nat.le_of_ble_eq_true rfl) (Nat.le_refl _) ?_
        refine e_iload dX11_make_110 rfl ?_
        refine e_i2l dX11_make_112 ?_
        replace H := ob H; obtain ⟨q69, c71, H⟩ := H
        have k70 : En G (d + 6) miX11_make 122 [.ref 32, .int y1, dum, .int y3, .int y4, .int y5, .ref y6, .int x7, .int x8, .int x9, .int q61.1, dum, dum, dum] [.int q69] q61.2 r h' := by
          refine e_istore dX11_make_122 (Nat.le_of_ble_eq_true rfl) rfl rfl ?_
          refine e_iconst (v := (1 : Int32)) dX11_make_124 (by decide) ?_
          refine e_istore dX11_make_125 (Nat.le_of_ble_eq_true rfl) rfl rfl ?_
          replace H := ob H; obtain ⟨q84, c85, H⟩ := H
          refine e_wk (lk1 (lk1 (lk1 (lk1 (lk1 (lk1 (lk1 (lk1 (lk1 (lk1 (lk1 (lk1 (lk1 (lk1 lkn)))))))))))))) (w_X11_make_127 d hY64 1000 c85 ?_)
          refine e_iinc dX11_make_200 rfl (ii_ (by decide : Int32.ofInt (1) = (1 : Int32))) (Nat.le_of_ble_eq_true rfl) rfl rfl ?_
          refine e_goto (tgt := 69) dX11_make_203 (by decide) ?_
          exact e_wk (lk1 (lk1 (lk1 (lk1 (lk1 (lk1 (lk1 (lk1 (lk1 (lk1 (lk1 (lk1 (lk1 (lk1 lkn)))))))))))))) (ih hY64 H kE)
        replace H := c71
        refine e_lc_lt (tgt := 121) dX11_make_113 dX11_make_114 (by decide) (fun c68 => ?_) (fun c68 => ?_)
        · replace H := ot c68 H
          refine e_iconst (v := (0 : Int32)) dX11_make_121 (by decide) ?_
          obtain rfl := Option.some.inj H
          exact e_wk (lk1 (lk1 (lk1 (lk1 (lk1 (lk1 (lk1 (lk1 (lk1 (lk1 (lk1 (lk1 (lk1 (lk1 lkn)))))))))))))) k70
        · replace H := of_ c68 H
          refine e_iconst (v := (1 : Int32)) dX11_make_117 (by decide) ?_
          refine e_goto (tgt := 122) dX11_make_118 (by decide) ?_
          obtain rfl := Option.some.inj H
          exact e_wk (lk1 (lk1 (lk1 (lk1 (lk1 (lk1 (lk1 (lk1 (lk1 (lk1 (lk1 (lk1 (lk1 (lk1 lkn)))))))))))))) k70
def f_X11_make (p1 : Int32) (p2 : Int32) (p3 : Int32) (p4 : Int32) (p5 : Int32) (h : HS) : Option (Int32 × HS) := (Option.bind (f_X11_handAt p2 h) (fun q1 => (om q1 (Option.bind (f_X11_isIn p1 (0 : Int32) (5 : Int32)) (fun q5 => (if q5 = true then (some ((-2 : Int32), h)) else (some ((-2 : Int32), h))))) (fun b4 => (Option.bind (f_X11_isIn p1 (0 : Int32) (5 : Int32)) (fun q9 => (if q9 = true then (Option.bind (f_X11_isIn p3 (0 : Int32) (999 : Int32)) (fun q13 => (if q13 = true then (Option.bind (f_X11_isIn p4 (0 : Int32) (1000 : Int32)) (fun q16 => (if q16 = true then (Option.bind (f_X11_isIn p5 (-999 : Int32) (99 : Int32)) (fun q19 => (if q19 = true then (Option.bind (l_X11_make_69 p1 p3 p4 p5 b4 1000 (-1 : Int32) (0 : Int32) (0 : Int32) h) (fun q86 => (some (q86.1, q86.2)))) else (some ((-2 : Int32), h))))) else (some ((-2 : Int32), h))))) else (some ((-2 : Int32), h))))) else (some ((-2 : Int32), h)))))))))
set_option maxHeartbeats 4000000 in
set_option maxRecDepth 20000 in
theorem p_X11_make {p1 : Int32} {p2 : Int32} {p3 : Int32} {p4 : Int32} {p5 : Int32} {h : HS} {q : (Int32 × HS)} (H : f_X11_make p1 p2 p3 p4 p5 h = some q) : Pr h q.2 := by
  unfold f_X11_make at H
  replace H := ob H; obtain ⟨q1, c2, H⟩ := H
  replace H := oom H; obtain ⟨e3, H⟩ | ⟨b4, e3, H⟩ := H
  · replace H := ob H; obtain ⟨q5, c6, H⟩ := H
    replace H := oi H; obtain ⟨c7, H⟩ | ⟨c7, H⟩ := H
    · obtain rfl := Option.some.inj H
      exact Pr.rf
    · obtain rfl := Option.some.inj H
      exact Pr.rf
  · replace H := ob H; obtain ⟨q9, c10, H⟩ := H
    replace H := oi H; obtain ⟨c11, H⟩ | ⟨c11, H⟩ := H
    · replace H := ob H; obtain ⟨q13, c14, H⟩ := H
      replace H := oi H; obtain ⟨c15, H⟩ | ⟨c15, H⟩ := H
      · replace H := ob H; obtain ⟨q16, c17, H⟩ := H
        replace H := oi H; obtain ⟨c18, H⟩ | ⟨c18, H⟩ := H
        · replace H := ob H; obtain ⟨q19, c20, H⟩ := H
          replace H := oi H; obtain ⟨c21, H⟩ | ⟨c21, H⟩ := H
          · replace H := ob H; obtain ⟨q86, c87, H⟩ := H
            have e88 := p_X11_make_69 1000 c87
            obtain rfl := Option.some.inj H
            exact e88
          · obtain rfl := Option.some.inj H
            exact Pr.rf
        · obtain rfl := Option.some.inj H
          exact Pr.rf
      · obtain rfl := Option.some.inj H
        exact Pr.rf
    · obtain rfl := Option.some.inj H
      exact Pr.rf
set_option maxHeartbeats 4000000 in
set_option maxRecDepth 20000 in
theorem t_X11_make {G : GE} (d : Nat) {p1 : Int32} {p2 : Int32} {p3 : Int32} {p4 : Int32} {p5 : Int32} {h : HS} {q : (Int32 × HS)} (hY : LY TX h) (H : f_X11_make p1 p2 p3 p4 p5 h = some q) : CE G (d + 6) yX11_make miX11_make [.ref 32, .int p1, .int p2, .int p3, .int p4, .int p5] h (some (.int q.1)) (q.2) := by
  unfold f_X11_make at H
  refine ce_of rfl (by decide) (fun q => by first | rfl | cases q) (Nat.le_of_ble_eq_true rfl) rfl ?_
  refine g_aload_n dX11_make_0 rfl rfl ?_
  refine e_iload_n dX11_make_1 rfl ?_
  replace H := ob H; obtain ⟨q1, c2, H⟩ := H
  replace H := oom H; obtain ⟨e3, H⟩ | ⟨b4, e3, H⟩ := H
  · refine v1 (hY.t 0 rfl) (by decide) rfl rfl lmX11_182 liX11_handAt lvX11_X11_handAt msX11_handAt dX11_make_2 (ceN e3 (t_X11_handAt (d + 2) hY c2)) rfl (Nat.le_of_ble_eq_true rfl) (Nat.le_refl _) ?_
    refine g_astore dX11_make_5 (Nat.le_of_ble_eq_true rfl) rfl rfl rfl ?_
    refine e_iload_n dX11_make_7 rfl ?_
    refine e_iconst (v := (0 : Int32)) dX11_make_8 (by decide) ?_
    refine e_iconst (v := (5 : Int32)) dX11_make_9 (by decide) ?_
    replace H := ob H; obtain ⟨q5, c6, H⟩ := H
    refine s1 lmX11_106 lsX11_isIn msX11_isIn dX11_make_10 (t_X11_isIn (d + 5) c6) rfl (Nat.le_of_ble_eq_true rfl) (Nat.le_refl _) ?_
    refine e_ifB_eq (tgt := 57) dX11_make_13 (by decide) (fun c7 => ?_) (fun c7 => ?_)
    · replace H := of_ (nb c7) H
      refine e_bipush (v := (-2 : Int32)) dX11_make_57 (by decide) ?_
      obtain rfl := Option.some.inj H
      exact z_iret rfl rfl dX11_make_59 rfl rfl
    · replace H := ot c7 H
      refine g_aload dX11_make_16 rfl rfl ?_
      refine e_ifnullN (tgt := 57) dX11_make_18 (by decide) ?_
      refine e_bipush (v := (-2 : Int32)) dX11_make_57 (by decide) ?_
      obtain rfl := Option.some.inj H
      exact z_iret rfl rfl dX11_make_59 rfl rfl
  · refine v1 (hY.t 0 rfl) (by decide) rfl rfl lmX11_182 liX11_handAt lvX11_X11_handAt msX11_handAt dX11_make_2 (ceS e3 (t_X11_handAt (d + 2) hY c2)) rfl (Nat.le_of_ble_eq_true rfl) (Nat.le_refl _) ?_
    refine g_astore dX11_make_5 (Nat.le_of_ble_eq_true rfl) rfl rfl rfl ?_
    refine e_iload_n dX11_make_7 rfl ?_
    refine e_iconst (v := (0 : Int32)) dX11_make_8 (by decide) ?_
    refine e_iconst (v := (5 : Int32)) dX11_make_9 (by decide) ?_
    replace H := ob H; obtain ⟨q9, c10, H⟩ := H
    refine s1 lmX11_106 lsX11_isIn msX11_isIn dX11_make_10 (t_X11_isIn (d + 5) c10) rfl (Nat.le_of_ble_eq_true rfl) (Nat.le_refl _) ?_
    refine e_ifB_eq (tgt := 57) dX11_make_13 (by decide) (fun c11 => ?_) (fun c11 => ?_)
    · replace H := of_ (nb c11) H
      refine e_bipush (v := (-2 : Int32)) dX11_make_57 (by decide) ?_
      obtain rfl := Option.some.inj H
      exact z_iret rfl rfl dX11_make_59 rfl rfl
    · replace H := ot c11 H
      refine g_aload dX11_make_16 rfl rfl ?_
      refine e_ifnull dX11_make_18 ?_
      refine e_iload_n dX11_make_21 rfl ?_
      refine e_iconst (v := (0 : Int32)) dX11_make_22 (by decide) ?_
      refine e_sipush (v := (999 : Int32)) dX11_make_23 (by decide) ?_
      replace H := ob H; obtain ⟨q13, c14, H⟩ := H
      refine s1 lmX11_106 lsX11_isIn msX11_isIn dX11_make_26 (t_X11_isIn (d + 5) c14) rfl (Nat.le_of_ble_eq_true rfl) (Nat.le_refl _) ?_
      refine e_ifB_eq (tgt := 57) dX11_make_29 (by decide) (fun c15 => ?_) (fun c15 => ?_)
      · replace H := of_ (nb c15) H
        refine e_bipush (v := (-2 : Int32)) dX11_make_57 (by decide) ?_
        obtain rfl := Option.some.inj H
        exact z_iret rfl rfl dX11_make_59 rfl rfl
      · replace H := ot c15 H
        refine e_iload dX11_make_32 rfl ?_
        refine e_iconst (v := (0 : Int32)) dX11_make_34 (by decide) ?_
        refine e_sipush (v := (1000 : Int32)) dX11_make_35 (by decide) ?_
        replace H := ob H; obtain ⟨q16, c17, H⟩ := H
        refine s1 lmX11_106 lsX11_isIn msX11_isIn dX11_make_38 (t_X11_isIn (d + 5) c17) rfl (Nat.le_of_ble_eq_true rfl) (Nat.le_refl _) ?_
        refine e_ifB_eq (tgt := 57) dX11_make_41 (by decide) (fun c18 => ?_) (fun c18 => ?_)
        · replace H := of_ (nb c18) H
          refine e_bipush (v := (-2 : Int32)) dX11_make_57 (by decide) ?_
          obtain rfl := Option.some.inj H
          exact z_iret rfl rfl dX11_make_59 rfl rfl
        · replace H := ot c18 H
          refine e_iload dX11_make_44 rfl ?_
          refine e_sipush (v := (-999 : Int32)) dX11_make_46 (by decide) ?_
          refine e_bipush (v := (99 : Int32)) dX11_make_49 (by decide) ?_
          replace H := ob H; obtain ⟨q19, c20, H⟩ := H
          refine s1 lmX11_106 lsX11_isIn msX11_isIn dX11_make_51 (t_X11_isIn (d + 5) c20) rfl (Nat.le_of_ble_eq_true rfl) (Nat.le_refl _) ?_
          refine e_ifB_ne (tgt := 60) dX11_make_54 (by decide) (fun c21 => ?_) (fun c21 => ?_)
          · replace H := ot c21 H
            refine e_iconst (v := (-1 : Int32)) dX11_make_60 (by decide) ?_
            refine e_istore dX11_make_61 (Nat.le_of_ble_eq_true rfl) rfl rfl ?_
            refine e_iconst (v := (0 : Int32)) dX11_make_63 (by decide) ?_
            refine e_istore dX11_make_64 (Nat.le_of_ble_eq_true rfl) rfl rfl ?_
            refine e_iconst (v := (0 : Int32)) dX11_make_66 (by decide) ?_
            refine e_istore dX11_make_67 (Nat.le_of_ble_eq_true rfl) rfl rfl ?_
            replace H := ob H; obtain ⟨q86, c87, H⟩ := H
            have e88 := p_X11_make_69 1000 c87
            have hY89 := hY.pr okX e88
            refine e_wk (lk1 (lk1 (lk0 (lk1 (lk1 (lk1 (lk1 (lk1 (lk1 (lk1 (lk1 (lk1 (lk1 (lk1 lkn)))))))))))))) (w_X11_make_69 d 1000 hY c87 ?_)
            refine e_iload dX11_make_206 rfl ?_
            obtain rfl := Option.some.inj H
            exact z_iret rfl rfl dX11_make_208 rfl rfl
          · replace H := of_ (nb c21) H
            refine e_bipush (v := (-2 : Int32)) dX11_make_57 (by decide) ?_
            obtain rfl := Option.some.inj H
            exact z_iret rfl rfl dX11_make_59 rfl rfl
-- X11_failAfter
def f_X11_failAfter (p1 : Nat) (p2 : Int32) (p3 : Int32) (h : HS) : Option Int32 := (Option.bind (f_X11_isIn p3 (0 : Int32) ((8 : Int32) - (1 : Int32))) (fun q1 => (if q1 = true then (if ixb p3 8 = true then (if hT h p1 = 5 then (Option.bind (f_X11_quotient (p2.toInt64 * (hI h 54 p3.toNatClampNeg).toInt64) (hI h p1 4).toInt64) (fun q6 => (some q6.toInt32))) else none) else none) else (some p2))))
set_option maxHeartbeats 4000000 in
set_option maxRecDepth 20000 in
theorem t_X11_failAfter {G : GE} (d : Nat) {p1 : Nat} {p2 : Int32} {p3 : Int32} {h : HS} {q : Int32} (hY : LY TX h) (H : f_X11_failAfter p1 p2 p3 h = some q) : CE G (d + 1) yX11_failAfter miX11_failAfter [.ref 32, .ref p1, .int p2, .int p3] h (some (.int q)) (h) := by
  unfold f_X11_failAfter at H
  refine ce_of rfl (by decide) (fun q => by first | rfl | cases q) (Nat.le_of_ble_eq_true rfl) rfl ?_
  refine e_iload_n dX11_failAfter_0 rfl ?_
  refine e_iconst (v := (0 : Int32)) dX11_failAfter_1 (by decide) ?_
  refine g_aload_n dX11_failAfter_2 rfl rfl ?_
  refine e_getR (hY.t 0 rfl) flX11_86_12 dX11_failAfter_3 rfl (hY.r 15 rfl) ?_
  refine e_alen (hY.t 22 rfl) (by decide) dX11_failAfter_6 ?_
  refine e_ci (y := (8 : Int32)) (by rw [(hY.n 22 rfl)]; rfl) ?_
  refine e_iconst (v := (1 : Int32)) dX11_failAfter_7 (by decide) ?_
  refine e_isub dX11_failAfter_8 ?_
  replace H := ob H; obtain ⟨q1, c2, H⟩ := H
  refine s1 lmX11_106 lsX11_isIn msX11_isIn dX11_failAfter_9 (t_X11_isIn (d + 0) c2) rfl (Nat.le_of_ble_eq_true rfl) (Nat.le_refl _) ?_
  refine e_ifB_eq (tgt := 37) dX11_failAfter_12 (by decide) (fun c3 => ?_) (fun c3 => ?_)
  · replace H := of_ (nb c3) H
    refine e_iload_n dX11_failAfter_37 rfl ?_
    obtain rfl := Option.some.inj H
    exact z_iret rfl rfl dX11_failAfter_38 rfl rfl
  · replace H := ot c3 H
    refine e_iload_n dX11_failAfter_15 rfl ?_
    refine e_i2l dX11_failAfter_16 ?_
    refine g_aload_n dX11_failAfter_17 rfl rfl ?_
    refine e_getR (hY.t 0 rfl) flX11_86_12 dX11_failAfter_18 rfl (hY.r 15 rfl) ?_
    refine e_iload_n dX11_failAfter_21 rfl ?_
    replace H := og H; obtain ⟨g4, H⟩ := H
    refine e_iald (hY.t 22 rfl) (ixb_y (hY.n 22 rfl) g4) dX11_failAfter_22 ?_
    refine e_i2l dX11_failAfter_23 ?_
    refine e_lmul dX11_failAfter_24 ?_
    refine g_aload_n dX11_failAfter_25 rfl rfl ?_
    replace H := og H; obtain ⟨g5, H⟩ := H
    refine e_getI g5 flX11_199_4 dX11_failAfter_26 rfl ?_
    refine e_i2l dX11_failAfter_29 ?_
    replace H := ob H; obtain ⟨q6, c7, H⟩ := H
    refine s1 lmX11_267 lsX11_quotient msX11_quotient dX11_failAfter_30 (t_X11_quotient (d + 0) c7) rfl (Nat.le_of_ble_eq_true rfl) (Nat.le_refl _) ?_
    refine e_l2i dX11_failAfter_33 ?_
    refine e_goto (tgt := 38) dX11_failAfter_34 (by decide) ?_
    obtain rfl := Option.some.inj H
    exact z_iret rfl rfl dX11_failAfter_38 rfl rfl
-- X11_leastFail
def l_X11_leastFail_47 (y1 : Nat) (y3 : Int32) (y4 : Int32) (h : HS)  : Nat → Int32 → Int32 → Option Int32
  | 0, _, _ => none
  | n + 1, x5, x6 => (if hT h 33 = 1 then (Option.bind (f_Jx4a65c_size_8abf5 33 h) (fun q62 => (if q62 ≤ x6 then (some x5) else (Option.bind (f_Jx4a65c_get_915e3 33 x6 h) (fun q66 => (om q66 none (fun b69 => (if isSt (hT h b69) = true then (Option.bind (f_X11_isIn (y4 - (hI h b69 4)) (0 : Int32) (y4 - (1 : Int32))) (fun q71 => (if q71 = true then (if ixb (y4 - (hI h b69 4)) 201 = true then (Option.bind (f_X11_failAfter y1 (hI h 55 (y4 - (hI h b69 4)).toNatClampNeg) x6 h) (fun q75 => (Option.bind (f_J9_min_7cf53 x5 q75) (fun q77 => (l_X11_leastFail_47 y1 y3 y4 h n q77 (x6 + (1 : Int32))))))) else none) else (l_X11_leastFail_47 y1 y3 y4 h n x5 (x6 + (1 : Int32)))))) else none)))))))) else none)
set_option maxHeartbeats 4000000 in
set_option maxRecDepth 20000 in
theorem w_X11_leastFail_47 {G : GE} (d : Nat) {y1 : Nat} {y3 : Int32} {y4 : Int32} {h : HS} {r : Option Value} {h' : HS} (hYTX : LY TX h) : ∀ (n : Nat) {x5 : Int32} {x6 : Int32} {q : Int32}, l_X11_leastFail_47 y1 y3 y4 h n x5 x6 = some q → En G (d + 3) miX11_leastFail 119 [.ref 32, .ref y1, dum, .int y3, .int y4, .int q, dum, dum] [] h r h' → En G (d + 3) miX11_leastFail 47 [.ref 32, .ref y1, dum, .int y3, .int y4, .int x5, .int x6, dum] [] h r h' := by
  intro n
  induction n with
  | zero => intro x5 x6 q H kE; exact nz H
  | succ n ih =>
    intro x5 x6 q H kE
    unfold l_X11_leastFail_47 at H
    refine e_iload dX11_leastFail_47 rfl ?_
    refine g_aload_n dX11_leastFail_49 rfl rfl ?_
    refine e_getR (hYTX.t 0 rfl) flX11_12_12 dX11_leastFail_50 rfl (hYTX.r 0 rfl) ?_
    replace H := og H; obtain ⟨g64, H⟩ := H
    replace H := ob H; obtain ⟨q62, c63, H⟩ := H
    refine v1 (hYTX.t 1 rfl) (by decide) rfl rfl lmX11_114 liJx4a65c_size_8abf5 lvJx4a65c_Jx4a65c_size_8abf5 msJx4a65c_size_8abf5 dX11_leastFail_53 (t_Jx4a65c_size_8abf5 (d + 2) c63) rfl (Nat.le_of_ble_eq_true rfl) (Nat.le_refl _) ?_
    refine e_icmp_ge (tgt := 119) dX11_leastFail_56 (by decide) (fun c65 => ?_) (fun c65 => ?_)
    · replace H := ot c65 H
      obtain rfl := Option.some.inj H
      exact e_wk (lk1 (lk1 (lk1 (lk1 (lk1 (lk1 (lk0 (lk1 lkn)))))))) kE
    · replace H := of_ c65 H
      refine e_iload dX11_leastFail_59 rfl ?_
      refine g_aload_n dX11_leastFail_61 rfl rfl ?_
      refine e_getR (hYTX.t 0 rfl) flX11_12_12 dX11_leastFail_62 rfl (hYTX.r 0 rfl) ?_
      refine e_iload dX11_leastFail_65 rfl ?_
      replace H := ob H; obtain ⟨q66, c67, H⟩ := H
      replace H := oom H; obtain ⟨e68, H⟩ | ⟨b69, e68, H⟩ := H
      · refine v1 (hYTX.t 1 rfl) (by decide) rfl rfl lmX11_276 liJx4a65c_get_915e3 lvJx4a65c_Jx4a65c_get_915e3 msJx4a65c_get_915e3 dX11_leastFail_67 (ceN e68 (t_Jx4a65c_get_915e3 (d + 0) c67)) rfl (Nat.le_of_ble_eq_true rfl) (Nat.le_refl _) ?_
        exact nz H
      · refine v1 (hYTX.t 1 rfl) (by decide) rfl rfl lmX11_276 liJx4a65c_get_915e3 lvJx4a65c_Jx4a65c_get_915e3 msJx4a65c_get_915e3 dX11_leastFail_67 (ceS e68 (t_Jx4a65c_get_915e3 (d + 0) c67)) rfl (Nat.le_of_ble_eq_true rfl) (Nat.le_refl _) ?_
        replace H := og H; obtain ⟨g70, H⟩ := H
        refine e_castSt g70 lcX11_131 dX11_leastFail_70 ?_
        refine gmX11_151_isSt g70 dX11_leastFail_73 ?_
        refine e_isub dX11_leastFail_76 ?_
        refine e_istore dX11_leastFail_77 (Nat.le_of_ble_eq_true rfl) rfl rfl ?_
        refine e_iload dX11_leastFail_79 rfl ?_
        refine e_iconst (v := (0 : Int32)) dX11_leastFail_81 (by decide) ?_
        refine e_iload dX11_leastFail_82 rfl ?_
        refine e_iconst (v := (1 : Int32)) dX11_leastFail_84 (by decide) ?_
        refine e_isub dX11_leastFail_85 ?_
        replace H := ob H; obtain ⟨q71, c72, H⟩ := H
        refine s1 lmX11_106 lsX11_isIn msX11_isIn dX11_leastFail_86 (t_X11_isIn (d + 2) c72) rfl (Nat.le_of_ble_eq_true rfl) (Nat.le_refl _) ?_
        refine e_ifB_eq (tgt := 113) dX11_leastFail_89 (by decide) (fun c73 => ?_) (fun c73 => ?_)
        · replace H := of_ (nb c73) H
          refine e_iinc dX11_leastFail_113 rfl (ii_ (by decide : Int32.ofInt (1) = (1 : Int32))) (Nat.le_of_ble_eq_true rfl) rfl rfl ?_
          refine e_goto (tgt := 47) dX11_leastFail_116 (by decide) ?_
          exact e_wk (lk1 (lk1 (lk1 (lk1 (lk1 (lk1 (lk1 (lk0 lkn)))))))) (ih H kE)
        · replace H := ot c73 H
          refine e_iload dX11_leastFail_92 rfl ?_
          refine g_aload_n dX11_leastFail_94 rfl rfl ?_
          refine g_aload_n dX11_leastFail_95 rfl rfl ?_
          refine g_aload_n dX11_leastFail_96 rfl rfl ?_
          refine e_getR (hYTX.t 0 rfl) flX11_89_12 dX11_leastFail_97 rfl (hYTX.r 16 rfl) ?_
          refine e_iload dX11_leastFail_100 rfl ?_
          replace H := og H; obtain ⟨g74, H⟩ := H
          refine e_iald (hYTX.t 23 rfl) (ixb_y (hYTX.n 23 rfl) g74) dX11_leastFail_102 ?_
          refine e_iload dX11_leastFail_103 rfl ?_
          replace H := ob H; obtain ⟨q75, c76, H⟩ := H
          refine v1 (hYTX.t 0 rfl) (by decide) rfl rfl lmX11_407 liX11_failAfter lvX11_X11_failAfter msX11_failAfter dX11_leastFail_105 (t_X11_failAfter (d + 1) hYTX c76) rfl (Nat.le_of_ble_eq_true rfl) (Nat.le_refl _) ?_
          replace H := ob H; obtain ⟨q77, c78, H⟩ := H
          refine s1 lmX11_341 lsJ9_min_7cf53 msJ9_min_7cf53 dX11_leastFail_108 (t_J9_min_7cf53 (d + 2) c78) rfl (Nat.le_of_ble_eq_true rfl) (Nat.le_refl _) ?_
          refine e_istore dX11_leastFail_111 (Nat.le_of_ble_eq_true rfl) rfl rfl ?_
          refine e_iinc dX11_leastFail_113 rfl (ii_ (by decide : Int32.ofInt (1) = (1 : Int32))) (Nat.le_of_ble_eq_true rfl) rfl rfl ?_
          refine e_goto (tgt := 47) dX11_leastFail_116 (by decide) ?_
          exact e_wk (lk1 (lk1 (lk1 (lk1 (lk1 (lk1 (lk1 (lk0 lkn)))))))) (ih H kE)
def l_X11_leastFail_27 (y1 : Nat) (y3 : Int32)  : Nat → Int32 → HS → Option HS
  | 0, _, _ => none
  | n + 1, x4, h => (if y3 < x4 then (some h) else (if ixb (x4 - (1 : Int32)) 201 = true then (Option.bind (l_X11_leastFail_47 y1 y3 x4 h 1000 (hI h 55 (x4 - (1 : Int32)).toNatClampNeg) (0 : Int32)) (fun q79 => (if ixb x4 201 = true then (l_X11_leastFail_27 y1 y3 n (x4 + (1 : Int32)) (sI h 55 x4.toNatClampNeg q79)) else none))) else none))
set_option maxHeartbeats 4000000 in
set_option maxRecDepth 20000 in
theorem p_X11_leastFail_27 {y1 : Nat} {y3 : Int32} : ∀ (n : Nat) {x4 : Int32} {h : HS} {q : HS}, l_X11_leastFail_27 y1 y3 n x4 h = some q → Pr h q := by
  intro n
  induction n with
  | zero => intro x4 h q H; exact nz H
  | succ n ih =>
    intro x4 h q H
    unfold l_X11_leastFail_27 at H
    replace H := oi H; obtain ⟨c43, H⟩ | ⟨c43, H⟩ := H
    · obtain rfl := Option.some.inj H
      exact Pr.rf
    · replace H := og H; obtain ⟨g44, H⟩ := H
      replace H := ob H; obtain ⟨q79, c80, H⟩ := H
      replace H := og H; obtain ⟨g81, H⟩ := H
      exact id (ih H)
set_option maxHeartbeats 4000000 in
set_option maxRecDepth 20000 in
theorem w_X11_leastFail_27 {G : GE} (d : Nat) {y1 : Nat} {y3 : Int32} {r : Option Value} {h' : HS}  : ∀ (n : Nat) {x4 : Int32} {h : HS} {q : HS}, LY TX h → l_X11_leastFail_27 y1 y3 n x4 h = some q → En G (d + 3) miX11_leastFail 134 [.ref 32, dum, dum, .int y3, dum, dum, dum, dum] [] q r h' → En G (d + 3) miX11_leastFail 27 [.ref 32, .ref y1, dum, .int y3, .int x4, dum, dum, dum] [] h r h' := by
  intro n
  induction n with
  | zero => intro x4 h q hYTX H kE; exact nz H
  | succ n ih =>
    intro x4 h q hYTX H kE
    unfold l_X11_leastFail_27 at H
    refine e_iload dX11_leastFail_27 rfl ?_
    refine e_iload_n dX11_leastFail_29 rfl ?_
    refine e_icmp_gt (tgt := 134) dX11_leastFail_30 (by decide) (fun c43 => ?_) (fun c43 => ?_)
    · replace H := ot c43 H
      obtain rfl := Option.some.inj H
      exact e_wk (lk1 (lk0 (lk1 (lk1 (lk0 (lk1 (lk1 (lk1 lkn)))))))) kE
    · replace H := of_ c43 H
      refine g_aload_n dX11_leastFail_33 rfl rfl ?_
      refine e_getR (hYTX.t 0 rfl) flX11_89_12 dX11_leastFail_34 rfl (hYTX.r 16 rfl) ?_
      refine e_iload dX11_leastFail_37 rfl ?_
      refine e_iconst (v := (1 : Int32)) dX11_leastFail_39 (by decide) ?_
      refine e_isub dX11_leastFail_40 ?_
      replace H := og H; obtain ⟨g44, H⟩ := H
      refine e_iald (hYTX.t 23 rfl) (ixb_y (hYTX.n 23 rfl) g44) dX11_leastFail_41 ?_
      refine e_istore dX11_leastFail_42 (Nat.le_of_ble_eq_true rfl) rfl rfl ?_
      refine e_iconst (v := (0 : Int32)) dX11_leastFail_44 (by decide) ?_
      refine e_istore dX11_leastFail_45 (Nat.le_of_ble_eq_true rfl) rfl rfl ?_
      replace H := ob H; obtain ⟨q79, c80, H⟩ := H
      refine e_wk (lk1 (lk1 (lk1 (lk1 (lk1 (lk1 (lk1 (lk1 lkn)))))))) (w_X11_leastFail_47 d hYTX 1000 c80 ?_)
      refine g_aload_n dX11_leastFail_119 rfl rfl ?_
      refine e_getR (hYTX.t 0 rfl) flX11_89_12 dX11_leastFail_120 rfl (hYTX.r 16 rfl) ?_
      refine e_iload dX11_leastFail_123 rfl ?_
      refine e_iload dX11_leastFail_125 rfl ?_
      replace H := og H; obtain ⟨g81, H⟩ := H
      refine e_iast (hYTX.t 23 rfl) (ixb_y (hYTX.n 23 rfl) g81) dX11_leastFail_127 ?_
      refine e_iinc dX11_leastFail_128 rfl (ii_ (by decide : Int32.ofInt (1) = (1 : Int32))) (Nat.le_of_ble_eq_true rfl) rfl rfl ?_
      refine e_goto (tgt := 27) dX11_leastFail_131 (by decide) ?_
      exact e_wk (lk1 (lk1 (lk1 (lk1 (lk1 (lk0 (lk1 (lk1 lkn)))))))) (ih hYTX H kE)
def f_X11_leastFail (p1 : Nat) (p2 : Int32) (p3 : Int32) (h : HS) : Option (Int32 × HS) := (Option.bind (f_X11_isIn p3 (0 : Int32) ((201 : Int32) - (1 : Int32))) (fun q1 => (if q1 = true then (Option.bind (l_X11_leastFail_27 p1 p3 1000 (1 : Int32) (sI h 55 (0 : Int32).toNatClampNeg p2)) (fun q82 => (if ixb p3 201 = true then (some ((hI q82 55 p3.toNatClampNeg), q82)) else none))) else (some (p2, h)))))
set_option maxHeartbeats 4000000 in
set_option maxRecDepth 20000 in
theorem p_X11_leastFail {p1 : Nat} {p2 : Int32} {p3 : Int32} {h : HS} {q : (Int32 × HS)} (H : f_X11_leastFail p1 p2 p3 h = some q) : Pr h q.2 := by
  unfold f_X11_leastFail at H
  replace H := ob H; obtain ⟨q1, c2, H⟩ := H
  replace H := oi H; obtain ⟨c3, H⟩ | ⟨c3, H⟩ := H
  · replace H := ob H; obtain ⟨q82, c83, H⟩ := H
    have e84 := p_X11_leastFail_27 1000 c83
    replace H := og H; obtain ⟨g86, H⟩ := H
    obtain rfl := Option.some.inj H
    exact e84
  · obtain rfl := Option.some.inj H
    exact Pr.rf
set_option maxHeartbeats 4000000 in
set_option maxRecDepth 20000 in
theorem t_X11_leastFail {G : GE} (d : Nat) {p1 : Nat} {p2 : Int32} {p3 : Int32} {h : HS} {q : (Int32 × HS)} (hY : LY TX h) (H : f_X11_leastFail p1 p2 p3 h = some q) : CE G (d + 3) yX11_leastFail miX11_leastFail [.ref 32, .ref p1, .int p2, .int p3] h (some (.int q.1)) (q.2) := by
  unfold f_X11_leastFail at H
  refine ce_of rfl (by decide) (fun q => by first | rfl | cases q) (Nat.le_of_ble_eq_true rfl) rfl ?_
  refine e_iload_n dX11_leastFail_0 rfl ?_
  refine e_iconst (v := (0 : Int32)) dX11_leastFail_1 (by decide) ?_
  refine g_aload_n dX11_leastFail_2 rfl rfl ?_
  refine e_getR (hY.t 0 rfl) flX11_89_12 dX11_leastFail_3 rfl (hY.r 16 rfl) ?_
  refine e_alen (hY.t 23 rfl) (by decide) dX11_leastFail_6 ?_
  refine e_ci (y := (201 : Int32)) (by rw [(hY.n 23 rfl)]; rfl) ?_
  refine e_iconst (v := (1 : Int32)) dX11_leastFail_7 (by decide) ?_
  refine e_isub dX11_leastFail_8 ?_
  replace H := ob H; obtain ⟨q1, c2, H⟩ := H
  refine s1 lmX11_106 lsX11_isIn msX11_isIn dX11_leastFail_9 (t_X11_isIn (d + 2) c2) rfl (Nat.le_of_ble_eq_true rfl) (Nat.le_refl _) ?_
  refine e_ifB_ne (tgt := 17) dX11_leastFail_12 (by decide) (fun c3 => ?_) (fun c3 => ?_)
  · replace H := ot c3 H
    refine g_aload_n dX11_leastFail_17 rfl rfl ?_
    refine e_getR (hY.t 0 rfl) flX11_89_12 dX11_leastFail_18 rfl (hY.r 16 rfl) ?_
    refine e_iconst (v := (0 : Int32)) dX11_leastFail_21 (by decide) ?_
    refine e_iload_n dX11_leastFail_22 rfl ?_
    refine e_iast (hY.t 23 rfl) (ixb_y (hY.n 23 rfl) (by decide)) dX11_leastFail_23 ?_
    refine e_iconst (v := (1 : Int32)) dX11_leastFail_24 (by decide) ?_
    refine e_istore dX11_leastFail_25 (Nat.le_of_ble_eq_true rfl) rfl rfl ?_
    replace H := ob H; obtain ⟨q82, c83, H⟩ := H
    have e84 := p_X11_leastFail_27 1000 c83
    have hY85 := hY.pr okX e84
    refine e_wk (lk1 (lk1 (lk0 (lk1 (lk1 (lk1 (lk1 (lk1 lkn)))))))) (w_X11_leastFail_27 d 1000 hY c83 ?_)
    refine g_aload_n dX11_leastFail_134 rfl rfl ?_
    refine e_getR (hY85.t 0 rfl) flX11_89_12 dX11_leastFail_135 rfl (hY85.r 16 rfl) ?_
    refine e_iload_n dX11_leastFail_138 rfl ?_
    replace H := og H; obtain ⟨g86, H⟩ := H
    refine e_iald (hY85.t 23 rfl) (ixb_y (hY85.n 23 rfl) g86) dX11_leastFail_139 ?_
    obtain rfl := Option.some.inj H
    exact z_iret rfl rfl dX11_leastFail_140 rfl rfl
  · replace H := of_ (nb c3) H
    refine e_iload_n dX11_leastFail_15 rfl ?_
    obtain rfl := Option.some.inj H
    exact z_iret rfl rfl dX11_leastFail_16 rfl rfl
