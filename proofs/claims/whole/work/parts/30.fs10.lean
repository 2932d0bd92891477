-- X11_isUnder
def f_X11_isUnder (p0 : Nat) (p1 : Int32) (h : HS) : Option Bool := (if p1 = (0 : Int32) then (some true) else (if p1 = (1 : Int32) then (if isSt (hT h p0) = true then (some (isHv (hT h p0))) else none) else (if p1 = (2 : Int32) then (if isSt (hT h p0) = true then (some (isTg (hT h p0))) else none) else (if p1 = (3 : Int32) then (if isSt (hT h p0) = true then (some (isSp (hT h p0))) else none) else (if p1 = (4 : Int32) then (if isSt (hT h p0) = true then (some (isDr (hT h p0))) else none) else (if p1 = (5 : Int32) then (if isSt (hT h p0) = true then (some (isGa (hT h p0))) else none) else (some false)))))))
set_option maxHeartbeats 4000000 in
set_option maxRecDepth 20000 in
theorem t_X11_isUnder {G : GE} (d : Nat) {p0 : Nat} {p1 : Int32} {h : HS} {q : Bool} (H : f_X11_isUnder p0 p1 h = some q) : CE G (d + 0) yX11_isUnder miX11_isUnder [.ref p0, .int p1] h (some (.int (b2i q))) (h) := by
  unfold f_X11_isUnder at H
  refine ce_of rfl (by decide) (fun q => by first | rfl | cases q) (Nat.le_of_ble_eq_true rfl) rfl ?_
  refine e_iload_n dX11_isUnder_0 rfl ?_
  by_cases k1 : p1 = (0 : Int32)
  · replace H := ot k1 H
    refine e_tableIn (off := 39) (tgt := 40) dX11_isUnder_1 (by rw [k1]; decide) (by rw [k1]; decide) (by rw [k1]; rfl) (by decide) ?_
    refine e_iconst (v := (1 : Int32)) dX11_isUnder_40 (by decide) ?_
    obtain rfl := Option.some.inj H
    exact z_iret rfl rfl dX11_isUnder_41 rfl rfl
  · replace H := of_ k1 H
    by_cases k2 : p1 = (1 : Int32)
    · replace H := ot k2 H
      refine e_tableIn (off := 41) (tgt := 42) dX11_isUnder_1 (by rw [k2]; decide) (by rw [k2]; decide) (by rw [k2]; rfl) (by decide) ?_
      refine g_aload_n dX11_isUnder_42 rfl rfl ?_
      replace H := og H; obtain ⟨g11, H⟩ := H
      refine e_inst_isHv g11 lcX11_210 dX11_isUnder_43 ?_
      obtain rfl := Option.some.inj H
      exact z_bret rfl dX11_isUnder_46 rfl rfl
    · replace H := of_ k2 H
      by_cases k3 : p1 = (2 : Int32)
      · replace H := ot k3 H
        refine e_tableIn (off := 46) (tgt := 47) dX11_isUnder_1 (by rw [k3]; decide) (by rw [k3]; decide) (by rw [k3]; rfl) (by decide) ?_
        refine g_aload_n dX11_isUnder_47 rfl rfl ?_
        replace H := og H; obtain ⟨g10, H⟩ := H
        refine e_inst_isTg g10 lcX11_215 dX11_isUnder_48 ?_
        obtain rfl := Option.some.inj H
        exact z_bret rfl dX11_isUnder_51 rfl rfl
      · replace H := of_ k3 H
        by_cases k4 : p1 = (3 : Int32)
        · replace H := ot k4 H
          refine e_tableIn (off := 51) (tgt := 52) dX11_isUnder_1 (by rw [k4]; decide) (by rw [k4]; decide) (by rw [k4]; rfl) (by decide) ?_
          refine g_aload_n dX11_isUnder_52 rfl rfl ?_
          replace H := og H; obtain ⟨g9, H⟩ := H
          refine e_inst_isSp g9 lcX11_218 dX11_isUnder_53 ?_
          obtain rfl := Option.some.inj H
          exact z_bret rfl dX11_isUnder_56 rfl rfl
        · replace H := of_ k4 H
          by_cases k5 : p1 = (4 : Int32)
          · replace H := ot k5 H
            refine e_tableIn (off := 56) (tgt := 57) dX11_isUnder_1 (by rw [k5]; decide) (by rw [k5]; decide) (by rw [k5]; rfl) (by decide) ?_
            refine g_aload_n dX11_isUnder_57 rfl rfl ?_
            replace H := og H; obtain ⟨g8, H⟩ := H
            refine e_inst_isDr g8 lcX11_221 dX11_isUnder_58 ?_
            obtain rfl := Option.some.inj H
            exact z_bret rfl dX11_isUnder_61 rfl rfl
          · replace H := of_ k5 H
            by_cases k6 : p1 = (5 : Int32)
            · replace H := ot k6 H
              refine e_tableIn (off := 61) (tgt := 62) dX11_isUnder_1 (by rw [k6]; decide) (by rw [k6]; decide) (by rw [k6]; rfl) (by decide) ?_
              refine g_aload_n dX11_isUnder_62 rfl rfl ?_
              replace H := og H; obtain ⟨g7, H⟩ := H
              refine e_inst_isGa g7 lcX11_224 dX11_isUnder_63 ?_
              obtain rfl := Option.some.inj H
              exact z_bret rfl dX11_isUnder_66 rfl rfl
            · replace H := of_ k6 H
              refine e_tableOut (tgt := 67) dX11_isUnder_1 (by have q0 : p1.toInt ≠ 0 := i32_ne k1; have q1 : p1.toInt ≠ 1 := i32_ne k2; have q2 : p1.toInt ≠ 2 := i32_ne k3; have q3 : p1.toInt ≠ 3 := i32_ne k4; have q4 : p1.toInt ≠ 4 := i32_ne k5; have q5 : p1.toInt ≠ 5 := i32_ne k6; omega) (by decide) ?_
              refine e_iconst (v := (0 : Int32)) dX11_isUnder_67 (by decide) ?_
              obtain rfl := Option.some.inj H
              exact z_iret rfl rfl dX11_isUnder_68 rfl rfl
-- X11_taken
def f_X11_taken (p1 : Int32) (p2 : Int32) (h : HS) : Option Int32 := (Option.bind (f_X11_isIn p2 (0 : Int32) (5 : Int32)) (fun q1 => (if q1 = true then (Option.bind (f_X11_stallAt p1 h) (fun q4 => (om q4 (some (-11 : Int32)) (fun b7 => (Option.bind (f_X11_isUnder b7 p2 h) (fun q10 => (if q10 = true then (if isSt (hT h b7) = true then (some (hI h b7 4)) else none) else (some (-13 : Int32))))))))) else (some (-2 : Int32)))))
set_option maxHeartbeats 4000000 in
set_option maxRecDepth 20000 in
theorem t_X11_taken {G : GE} (d : Nat) {p1 : Int32} {p2 : Int32} {h : HS} {q : Int32} (hY : LY TX h) (H : f_X11_taken p1 p2 h = some q) : CE G (d + 4) yX11_taken miX11_taken [.ref 32, .int p1, .int p2] h (some (.int q)) (h) := by
  unfold f_X11_taken at H
  refine ce_of rfl (by decide) (fun q => by first | rfl | cases q) (Nat.le_of_ble_eq_true rfl) rfl ?_
  refine e_iload_n dX11_taken_0 rfl ?_
  refine e_iconst (v := (0 : Int32)) dX11_taken_1 (by decide) ?_
  refine e_iconst (v := (5 : Int32)) dX11_taken_2 (by decide) ?_
  replace H := ob H; obtain ⟨q1, c2, H⟩ := H
  refine s1 lmX11_106 lsX11_isIn msX11_isIn dX11_taken_3 (t_X11_isIn (d + 3) c2) rfl (Nat.le_of_ble_eq_true rfl) (Nat.le_refl _) ?_
  refine e_ifB_ne (tgt := 12) dX11_taken_6 (by decide) (fun c3 => ?_) (fun c3 => ?_)
  · replace H := ot c3 H
    refine g_aload_n dX11_taken_12 rfl rfl ?_
    refine e_iload_n dX11_taken_13 rfl ?_
    replace H := ob H; obtain ⟨q4, c5, H⟩ := H
    replace H := oom H; obtain ⟨e6, H⟩ | ⟨b7, e6, H⟩ := H
    · refine v1 (hY.t 0 rfl) (by decide) rfl rfl lmX11_122 liX11_stallAt lvX11_X11_stallAt msX11_stallAt dX11_taken_14 (ceN e6 (t_X11_stallAt (d + 0) hY c5)) rfl (Nat.le_of_ble_eq_true rfl) (Nat.le_refl _) ?_
      refine g_astore_n dX11_taken_17 (Nat.le_of_ble_eq_true rfl) rfl rfl rfl ?_
      refine g_aload_n dX11_taken_18 rfl rfl ?_
      refine e_ifnonnullN dX11_taken_19 ?_
      refine e_bipush (v := (-11 : Int32)) dX11_taken_22 (by decide) ?_
      obtain rfl := Option.some.inj H
      exact z_iret rfl rfl dX11_taken_24 rfl rfl
    · refine v1 (hY.t 0 rfl) (by decide) rfl rfl lmX11_122 liX11_stallAt lvX11_X11_stallAt msX11_stallAt dX11_taken_14 (ceS e6 (t_X11_stallAt (d + 0) hY c5)) rfl (Nat.le_of_ble_eq_true rfl) (Nat.le_refl _) ?_
      refine g_astore_n dX11_taken_17 (Nat.le_of_ble_eq_true rfl) rfl rfl rfl ?_
      refine g_aload_n dX11_taken_18 rfl rfl ?_
      refine e_ifnonnull (tgt := 25) dX11_taken_19 (by decide) ?_
      refine g_aload_n dX11_taken_25 rfl rfl ?_
      refine e_iload_n dX11_taken_26 rfl ?_
      replace H := ob H; obtain ⟨q10, c11, H⟩ := H
      refine s1 lmX11_430 lsX11_isUnder msX11_isUnder dX11_taken_27 (t_X11_isUnder (d + 3) c11) rfl (Nat.le_of_ble_eq_true rfl) (Nat.le_refl _) ?_
      refine e_ifB_eq (tgt := 40) dX11_taken_30 (by decide) (fun c12 => ?_) (fun c12 => ?_)
      · replace H := of_ (nb c12) H
        refine e_bipush (v := (-13 : Int32)) dX11_taken_40 (by decide) ?_
        obtain rfl := Option.some.inj H
        exact z_iret rfl rfl dX11_taken_42 rfl rfl
      · replace H := ot c12 H
        refine g_aload_n dX11_taken_33 rfl rfl ?_
        replace H := og H; obtain ⟨g13, H⟩ := H
        refine gmX11_151_isSt g13 dX11_taken_34 ?_
        refine e_goto (tgt := 42) dX11_taken_37 (by decide) ?_
        obtain rfl := Option.some.inj H
        exact z_iret rfl rfl dX11_taken_42 rfl rfl
  · replace H := of_ (nb c3) H
    refine e_bipush (v := (-2 : Int32)) dX11_taken_9 (by decide) ?_
    obtain rfl := Option.some.inj H
    exact z_iret rfl rfl dX11_taken_11 rfl rfl
-- X12_in
def f_X12_in (p0 : Int64) (p1 : Int64) (p2 : Int64) : Option Bool := (if p0 < p1 then (some false) else (if p2 < p0 then (some false) else (some true)))
set_option maxHeartbeats 4000000 in
set_option maxRecDepth 20000 in
theorem t_X12_in {G : GE} (d : Nat) {p0 : Int64} {p1 : Int64} {p2 : Int64} {h : HS} {q : Bool} (H : f_X12_in p0 p1 p2 = some q) : CE G (d + 0) yX12_in miX12_in [.long p0, .long p1, .long p2] h (some (.int (b2i q))) (h) := by
  unfold f_X12_in at H
  refine ce_of rfl (by decide) (fun q => by first | rfl | cases q) (Nat.le_of_ble_eq_true rfl) rfl ?_
  refine e_lload_n dX12_in_0 rfl ?_
  refine e_lload_n dX12_in_1 rfl ?_
  refine e_lc_lt (tgt := 17) dX12_in_2 dX12_in_3 (by decide) (fun c1 => ?_) (fun c1 => ?_)
  · replace H := ot c1 H
    refine e_iconst (v := (0 : Int32)) dX12_in_17 (by decide) ?_
    obtain rfl := Option.some.inj H
    exact z_iret rfl rfl dX12_in_18 rfl rfl
  · replace H := of_ c1 H
    refine e_lload_n dX12_in_6 rfl ?_
    refine e_lload dX12_in_7 rfl ?_
    refine e_lc_gt (tgt := 17) dX12_in_9 dX12_in_10 (by decide) (fun c2 => ?_) (fun c2 => ?_)
    · replace H := ot c2 H
      refine e_iconst (v := (0 : Int32)) dX12_in_17 (by decide) ?_
      obtain rfl := Option.some.inj H
      exact z_iret rfl rfl dX12_in_18 rfl rfl
    · replace H := of_ c2 H
      refine e_iconst (v := (1 : Int32)) dX12_in_13 (by decide) ?_
      refine e_goto (tgt := 18) dX12_in_14 (by decide) ?_
      obtain rfl := Option.some.inj H
      exact z_iret rfl rfl dX12_in_18 rfl rfl
-- X12_spell
def l_X12_spell_3 (y0 : Nat) (y1 : Int32) (y2 : Int64)  : Nat → Int32 → HS → Option HS
  | 0, _, _ => none
  | n + 1, x4, h => (if (8 : Int32) ≤ x4 then (some h) else (if hT h y0 = 14 then (om (hR h y0 1) none (fun b9 => (if hT h b9 = 15 then (if ixb (y1 + x4) (hLn h b9) = true then (l_X12_spell_3 y0 y1 y2 n (x4 + (1 : Int32)) (sI h b9 (y1 + x4).toNatClampNeg ((y2 >>> (((56 : Int32) - ((8 : Int32) * x4)).toInt64 &&& 63)) &&& (255 : Int64)).toInt32)) else none) else none))) else none))
set_option maxHeartbeats 4000000 in
set_option maxRecDepth 20000 in
theorem p_X12_spell_3 {y0 : Nat} {y1 : Int32} {y2 : Int64} : ∀ (n : Nat) {x4 : Int32} {h : HS} {q : HS}, l_X12_spell_3 y0 y1 y2 n x4 h = some q → Pr h q := by
  intro n
  induction n with
  | zero => intro x4 h q H; exact nz H
  | succ n ih =>
    intro x4 h q H
    unfold l_X12_spell_3 at H
    replace H := oi H; obtain ⟨c7, H⟩ | ⟨c7, H⟩ := H
    · obtain rfl := Option.some.inj H
      exact Pr.rf
    · replace H := og H; obtain ⟨g8, H⟩ := H
      replace H := oom H; obtain ⟨-, H⟩ | ⟨b9, e10, H⟩ := H
      · exact nz H
      replace H := og H; obtain ⟨g11, H⟩ := H
      replace H := og H; obtain ⟨g12, H⟩ := H
      exact id (ih H)
set_option maxHeartbeats 4000000 in
set_option maxRecDepth 20000 in
theorem w_X12_spell_3 {G : GE} (d : Nat) {y0 : Nat} {y1 : Int32} {y2 : Int64} {r : Option Value} {h' : HS}  : ∀ (n : Nat) {x4 : Int32} {h : HS} {q : HS}, l_X12_spell_3 y0 y1 y2 n x4 h = some q → En G (d + 0) miX12_spell 40 [dum, dum, dum, dum, dum] [] q r h' → En G (d + 0) miX12_spell 3 [.ref y0, .int y1, .long y2, dum, .int x4] [] h r h' := by
  intro n
  induction n with
  | zero => intro x4 h q H kE; exact nz H
  | succ n ih =>
    intro x4 h q H kE
    unfold l_X12_spell_3 at H
    refine e_iload dX12_spell_3 rfl ?_
    refine e_bipush (v := (8 : Int32)) dX12_spell_5 (by decide) ?_
    refine e_icmp_ge (tgt := 40) dX12_spell_7 (by decide) (fun c7 => ?_) (fun c7 => ?_)
    · replace H := ot c7 H
      obtain rfl := Option.some.inj H
      exact e_wk (lk0 (lk0 (lk0 (lk1 (lk0 lkn))))) kE
    · replace H := of_ c7 H
      refine g_aload_n dX12_spell_10 rfl rfl ?_
      replace H := og H; obtain ⟨g8, H⟩ := H
      replace H := oom H; obtain ⟨-, H⟩ | ⟨b9, e10, H⟩ := H
      · exact nz H
      refine e_getR g8 flX12_13_13 dX12_spell_11 rfl e10 ?_
      refine e_iload_n dX12_spell_14 rfl ?_
      refine e_iload dX12_spell_15 rfl ?_
      refine e_iadd dX12_spell_17 ?_
      refine e_lload_n dX12_spell_18 rfl ?_
      refine e_bipush (v := (56 : Int32)) dX12_spell_19 (by decide) ?_
      refine e_bipush (v := (8 : Int32)) dX12_spell_21 (by decide) ?_
      refine e_iload dX12_spell_23 rfl ?_
      refine e_imul dX12_spell_25 ?_
      refine e_isub dX12_spell_26 ?_
      refine e_lshr dX12_spell_27 ?_
      refine e_ldc2 (v := (255 : Int64)) lkX12_120 dX12_spell_28 ?_
      refine e_land dX12_spell_31 ?_
      refine e_l2i dX12_spell_32 ?_
      replace H := og H; obtain ⟨g11, H⟩ := H
      replace H := og H; obtain ⟨g12, H⟩ := H
      refine e_iast g11 (ixb_y rfl g12) dX12_spell_33 ?_
      refine e_iinc dX12_spell_34 rfl (ii_ (by decide : Int32.ofInt (1) = (1 : Int32))) (Nat.le_of_ble_eq_true rfl) rfl rfl ?_
      refine e_goto (tgt := 3) dX12_spell_37 (by decide) ?_
      exact e_wk (lk1 (lk1 (lk1 (lk1 (lk1 lkn))))) (ih H kE)
def f_X12_spell (p0 : Nat) (p1 : Int32) (p2 : Int64) (h : HS) : Option HS := (Option.bind (l_X12_spell_3 p0 p1 p2 1000 (0 : Int32) h) (fun q13 => (some q13)))
set_option maxHeartbeats 4000000 in
set_option maxRecDepth 20000 in
theorem p_X12_spell {p0 : Nat} {p1 : Int32} {p2 : Int64} {h : HS} {q : HS} (H : f_X12_spell p0 p1 p2 h = some q) : Pr h q := by
  unfold f_X12_spell at H
  replace H := ob H; obtain ⟨q13, c14, H⟩ := H
  have e15 := p_X12_spell_3 1000 c14
  obtain rfl := Option.some.inj H
  exact e15
set_option maxHeartbeats 4000000 in
set_option maxRecDepth 20000 in
theorem t_X12_spell {G : GE} (d : Nat) {p0 : Nat} {p1 : Int32} {p2 : Int64} {h : HS} {q : HS} (H : f_X12_spell p0 p1 p2 h = some q) : CE G (d + 0) yX12_spell miX12_spell [.ref p0, .int p1, .long p2] h (none) (q) := by
  unfold f_X12_spell at H
  refine ce_of rfl (by decide) (fun q => by first | rfl | cases q) (Nat.le_of_ble_eq_true rfl) rfl ?_
  refine e_iconst (v := (0 : Int32)) dX12_spell_0 (by decide) ?_
  refine e_istore dX12_spell_1 (Nat.le_of_ble_eq_true rfl) rfl rfl ?_
  replace H := ob H; obtain ⟨q13, c14, H⟩ := H
  have e15 := p_X12_spell_3 1000 c14
  refine e_wk (lk1 (lk1 (lk1 (lk1 (lk1 lkn))))) (w_X12_spell_3 d 1000 c14 ?_)
  obtain rfl := Option.some.inj H
  exact z_vret rfl dX12_spell_40 rfl rfl
-- X12_init
def f_X12_init (p0 : Nat) (h : HS) : Option HS := (if hT h (hN h) = 0 then (bh (hNew h 15 (960 : Int32).toNatClampNeg (960 : Int32).toNatClampNeg) (fun h3 => (if hT h3 p0 = 14 then (if hT (sR h3 p0 1 (some (hN h))) (hN (sR h3 p0 1 (some (hN h)))) = 0 then (bh (hNew (sR h3 p0 1 (some (hN h))) 15 (6 : Int32).toNatClampNeg (6 : Int32).toNatClampNeg) (fun h9 => (if hT (sR h9 p0 2 (some (hN (sR h3 p0 1 (some (hN h)))))) (hN (sR h9 p0 2 (some (hN (sR h3 p0 1 (some (hN h))))))) = 0 then (bh (hNew (sR h9 p0 2 (some (hN (sR h3 p0 1 (some (hN h)))))) 15 (160 : Int32).toNatClampNeg (160 : Int32).toNatClampNeg) (fun h14 => (if hT (sR h14 p0 5 (some (hN (sR h9 p0 2 (some (hN (sR h3 p0 1 (some (hN h))))))))) (hN (sR h14 p0 5 (some (hN (sR h9 p0 2 (some (hN (sR h3 p0 1 (some (hN h)))))))))) = 0 then (bh (hNew (sR h14 p0 5 (some (hN (sR h9 p0 2 (some (hN (sR h3 p0 1 (some (hN h))))))))) 15 (8 : Int32).toNatClampNeg (8 : Int32).toNatClampNeg) (fun h19 => (if hT (sR h19 p0 7 (some (hN (sR h14 p0 5 (some (hN (sR h9 p0 2 (some (hN (sR h3 p0 1 (some (hN h)))))))))))) (hN (sR h19 p0 7 (some (hN (sR h14 p0 5 (some (hN (sR h9 p0 2 (some (hN (sR h3 p0 1 (some (hN h))))))))))))) = 0 then (bh (hNew (sR h19 p0 7 (some (hN (sR h14 p0 5 (some (hN (sR h9 p0 2 (some (hN (sR h3 p0 1 (some (hN h)))))))))))) 15 (8 : Int32).toNatClampNeg (8 : Int32).toNatClampNeg) (fun h24 => (if hT (sR h24 p0 8 (some (hN (sR h19 p0 7 (some (hN (sR h14 p0 5 (some (hN (sR h9 p0 2 (some (hN (sR h3 p0 1 (some (hN h))))))))))))))) (hN (sR h24 p0 8 (some (hN (sR h19 p0 7 (some (hN (sR h14 p0 5 (some (hN (sR h9 p0 2 (some (hN (sR h3 p0 1 (some (hN h)))))))))))))))) = 0 then (bh (hNew (sR h24 p0 8 (some (hN (sR h19 p0 7 (some (hN (sR h14 p0 5 (some (hN (sR h9 p0 2 (some (hN (sR h3 p0 1 (some (hN h))))))))))))))) 15 (8 : Int32).toNatClampNeg (8 : Int32).toNatClampNeg) (fun h29 => (bh (sR h29 p0 9 (some (hN (sR h24 p0 8 (some (hN (sR h19 p0 7 (some (hN (sR h14 p0 5 (some (hN (sR h9 p0 2 (some (hN (sR h3 p0 1 (some (hN h)))))))))))))))))) (fun h32 => (if hT h32 (hN h32) = 0 then (bh (hNew h32 15 (8 : Int32).toNatClampNeg (8 : Int32).toNatClampNeg) (fun h36 => (if hT (sR h36 p0 10 (some (hN h32))) (hN (sR h36 p0 10 (some (hN h32)))) = 0 then (bh (hNew (sR h36 p0 10 (some (hN h32))) 15 (8 : Int32).toNatClampNeg (8 : Int32).toNatClampNeg) (fun h41 => (if hT (sR h41 p0 11 (some (hN (sR h36 p0 10 (some (hN h32)))))) (hN (sR h41 p0 11 (some (hN (sR h36 p0 10 (some (hN h32))))))) = 0 then (bh (hNew (sR h41 p0 11 (some (hN (sR h36 p0 10 (some (hN h32)))))) 15 (8 : Int32).toNatClampNeg (8 : Int32).toNatClampNeg) (fun h46 => (if hT (sR h46 p0 12 (some (hN (sR h41 p0 11 (some (hN (sR h36 p0 10 (some (hN h32))))))))) (hN (sR h46 p0 12 (some (hN (sR h41 p0 11 (some (hN (sR h36 p0 10 (some (hN h32)))))))))) = 0 then (bh (hNew (sR h46 p0 12 (some (hN (sR h41 p0 11 (some (hN (sR h36 p0 10 (some (hN h32))))))))) 15 (8 : Int32).toNatClampNeg (8 : Int32).toNatClampNeg) (fun h51 => (if hT (sR h51 p0 13 (some (hN (sR h46 p0 12 (some (hN (sR h41 p0 11 (some (hN (sR h36 p0 10 (some (hN h32)))))))))))) (hN (sR h51 p0 13 (some (hN (sR h46 p0 12 (some (hN (sR h41 p0 11 (some (hN (sR h36 p0 10 (some (hN h32))))))))))))) = 0 then (bh (hNew (sR h51 p0 13 (some (hN (sR h46 p0 12 (some (hN (sR h41 p0 11 (some (hN (sR h36 p0 10 (some (hN h32)))))))))))) 15 (6 : Int32).toNatClampNeg (6 : Int32).toNatClampNeg) (fun h56 => (if hT (sR h56 p0 15 (some (hN (sR h51 p0 13 (some (hN (sR h46 p0 12 (some (hN (sR h41 p0 11 (some (hN (sR h36 p0 10 (some (hN h32))))))))))))))) (hN (sR h56 p0 15 (some (hN (sR h51 p0 13 (some (hN (sR h46 p0 12 (some (hN (sR h41 p0 11 (some (hN (sR h36 p0 10 (some (hN h32)))))))))))))))) = 0 then (bh (hNew (sR h56 p0 15 (some (hN (sR h51 p0 13 (some (hN (sR h46 p0 12 (some (hN (sR h41 p0 11 (some (hN (sR h36 p0 10 (some (hN h32))))))))))))))) 15 (6 : Int32).toNatClampNeg (6 : Int32).toNatClampNeg) (fun h61 => (bh (sR h61 p0 16 (some (hN (sR h56 p0 15 (some (hN (sR h51 p0 13 (some (hN (sR h46 p0 12 (some (hN (sR h41 p0 11 (some (hN (sR h36 p0 10 (some (hN h32)))))))))))))))))) (fun h64 => (if hT h64 (hN h64) = 0 then (bh (hNew h64 15 (6 : Int32).toNatClampNeg (6 : Int32).toNatClampNeg) (fun h68 => (if hT (sR h68 p0 17 (some (hN h64))) (hN (sR h68 p0 17 (some (hN h64)))) = 0 then (bh (hNew (sR h68 p0 17 (some (hN h64))) 15 (60 : Int32).toNatClampNeg (60 : Int32).toNatClampNeg) (fun h73 => (if hT (sR h73 p0 20 (some (hN (sR h68 p0 17 (some (hN h64)))))) (hN (sR h73 p0 20 (some (hN (sR h68 p0 17 (some (hN h64))))))) = 0 then (bh (hNew (sR h73 p0 20 (some (hN (sR h68 p0 17 (some (hN h64)))))) 15 (60 : Int32).toNatClampNeg (60 : Int32).toNatClampNeg) (fun h78 => (if hT (sR h78 p0 21 (some (hN (sR h73 p0 20 (some (hN (sR h68 p0 17 (some (hN h64))))))))) (hN (sR h78 p0 21 (some (hN (sR h73 p0 20 (some (hN (sR h68 p0 17 (some (hN h64)))))))))) = 0 then (bh (hNew (sR h78 p0 21 (some (hN (sR h73 p0 20 (some (hN (sR h68 p0 17 (some (hN h64))))))))) 15 (60 : Int32).toNatClampNeg (60 : Int32).toNatClampNeg) (fun h83 => (if hT (sR h83 p0 22 (some (hN (sR h78 p0 21 (some (hN (sR h73 p0 20 (some (hN (sR h68 p0 17 (some (hN h64)))))))))))) (hN (sR h83 p0 22 (some (hN (sR h78 p0 21 (some (hN (sR h73 p0 20 (some (hN (sR h68 p0 17 (some (hN h64))))))))))))) = 0 then (bh (hNew (sR h83 p0 22 (some (hN (sR h78 p0 21 (some (hN (sR h73 p0 20 (some (hN (sR h68 p0 17 (some (hN h64)))))))))))) 15 (60 : Int32).toNatClampNeg (60 : Int32).toNatClampNeg) (fun h88 => (if hT (sR h88 p0 23 (some (hN (sR h83 p0 22 (some (hN (sR h78 p0 21 (some (hN (sR h73 p0 20 (some (hN (sR h68 p0 17 (some (hN h64))))))))))))))) (hN (sR h88 p0 23 (some (hN (sR h83 p0 22 (some (hN (sR h78 p0 21 (some (hN (sR h73 p0 20 (some (hN (sR h68 p0 17 (some (hN h64)))))))))))))))) = 0 then (bh (hNew (sR h88 p0 23 (some (hN (sR h83 p0 22 (some (hN (sR h78 p0 21 (some (hN (sR h73 p0 20 (some (hN (sR h68 p0 17 (some (hN h64))))))))))))))) 15 (60 : Int32).toNatClampNeg (60 : Int32).toNatClampNeg) (fun h93 => (bh (sR h93 p0 24 (some (hN (sR h88 p0 23 (some (hN (sR h83 p0 22 (some (hN (sR h78 p0 21 (some (hN (sR h73 p0 20 (some (hN (sR h68 p0 17 (some (hN h64)))))))))))))))))) (fun h96 => (if hT h96 (hN h96) = 0 then (bh (hNew h96 15 (6 : Int32).toNatClampNeg (6 : Int32).toNatClampNeg) (fun h100 => (if hT (sR h100 p0 42 (some (hN h96))) (hN (sR h100 p0 42 (some (hN h96)))) = 0 then (bh (hNew (sR h100 p0 42 (some (hN h96))) 15 (36 : Int32).toNatClampNeg (36 : Int32).toNatClampNeg) (fun h105 => (if hT (sR h105 p0 43 (some (hN (sR h100 p0 42 (some (hN h96)))))) (hN (sR h105 p0 43 (some (hN (sR h100 p0 42 (some (hN h96))))))) = 0 then (bh (hNew (sR h105 p0 43 (some (hN (sR h100 p0 42 (some (hN h96)))))) 15 (8 : Int32).toNatClampNeg (8 : Int32).toNatClampNeg) (fun h110 => (if hT (sR h110 p0 45 (some (hN (sR h105 p0 43 (some (hN (sR h100 p0 42 (some (hN h96))))))))) (hN (sR h110 p0 45 (some (hN (sR h105 p0 43 (some (hN (sR h100 p0 42 (some (hN h96)))))))))) = 0 then (bh (hNew (sR h110 p0 45 (some (hN (sR h105 p0 43 (some (hN (sR h100 p0 42 (some (hN h96))))))))) 15 (8 : Int32).toNatClampNeg (8 : Int32).toNatClampNeg) (fun h115 => (if hT (sR h115 p0 46 (some (hN (sR h110 p0 45 (some (hN (sR h105 p0 43 (some (hN (sR h100 p0 42 (some (hN h96)))))))))))) (hN (sR h115 p0 46 (some (hN (sR h110 p0 45 (some (hN (sR h105 p0 43 (some (hN (sR h100 p0 42 (some (hN h96))))))))))))) = 0 then (bh (hNew (sR h115 p0 46 (some (hN (sR h110 p0 45 (some (hN (sR h105 p0 43 (some (hN (sR h100 p0 42 (some (hN h96)))))))))))) 15 (201 : Int32).toNatClampNeg (201 : Int32).toNatClampNeg) (fun h120 => (if hT (sR h120 p0 47 (some (hN (sR h115 p0 46 (some (hN (sR h110 p0 45 (some (hN (sR h105 p0 43 (some (hN (sR h100 p0 42 (some (hN h96))))))))))))))) (hN (sR h120 p0 47 (some (hN (sR h115 p0 46 (some (hN (sR h110 p0 45 (some (hN (sR h105 p0 43 (some (hN (sR h100 p0 42 (some (hN h96)))))))))))))))) = 0 then (bh (hNew (sR h120 p0 47 (some (hN (sR h115 p0 46 (some (hN (sR h110 p0 45 (some (hN (sR h105 p0 43 (some (hN (sR h100 p0 42 (some (hN h96))))))))))))))) 15 (32 : Int32).toNatClampNeg (32 : Int32).toNatClampNeg) (fun h125 => (bh (sR h125 p0 48 (some (hN (sR h120 p0 47 (some (hN (sR h115 p0 46 (some (hN (sR h110 p0 45 (some (hN (sR h105 p0 43 (some (hN (sR h100 p0 42 (some (hN h96)))))))))))))))))) (fun h128 => (if hT h128 (hN h128) = 0 then (bh (hNew h128 17 (4 : Int32).toNatClampNeg (4 : Int32).toNatClampNeg) (fun h132 => (if hT (sR h132 p0 53 (some (hN h128))) (hN (sR h132 p0 53 (some (hN h128)))) = 0 then (bh (hNew (sR h132 p0 53 (some (hN h128))) 15 (4 : Int32).toNatClampNeg (4 : Int32).toNatClampNeg) (fun h137 => (if hT (sR h137 p0 54 (some (hN (sR h132 p0 53 (some (hN h128)))))) (hN (sR h137 p0 54 (some (hN (sR h132 p0 53 (some (hN h128))))))) = 0 then (bh (hNew (sR h137 p0 54 (some (hN (sR h132 p0 53 (some (hN h128)))))) 15 (4 : Int32).toNatClampNeg (4 : Int32).toNatClampNeg) (fun h142 => (if hT (sR h142 p0 55 (some (hN (sR h137 p0 54 (some (hN (sR h132 p0 53 (some (hN h128))))))))) (hN (sR h142 p0 55 (some (hN (sR h137 p0 54 (some (hN (sR h132 p0 53 (some (hN h128)))))))))) = 0 then (bh (hNew (sR h142 p0 55 (some (hN (sR h137 p0 54 (some (hN (sR h132 p0 53 (some (hN h128))))))))) 15 (160 : Int32).toNatClampNeg (160 : Int32).toNatClampNeg) (fun h147 => (Option.bind (f_X12_spell p0 (0 : Int32) (8100957002595857001 : Int64) (sR h147 p0 56 (some (hN (sR h142 p0 55 (some (hN (sR h137 p0 54 (some (hN (sR h132 p0 53 (some (hN h128))))))))))))) (fun q150 => (Option.bind (f_X12_spell p0 (8 : Int32) (7162166225016939620 : Int64) q150) (fun q154 => (Option.bind (f_X12_spell p0 (16 : Int32) (8295677931991426413 : Int64) q154) (fun q158 => (Option.bind (f_X12_spell p0 (24 : Int32) (8295695524177865068 : Int64) q158) (fun q162 => (Option.bind (f_X12_spell p0 (32 : Int32) (7791290272867688559 : Int64) q162) (fun q166 => (Option.bind (f_X12_spell p0 (40 : Int32) (7234033483731987557 : Int64) q166) (fun q170 => (Option.bind (f_X12_spell p0 (48 : Int32) (7022911857885199136 : Int64) q170) (fun q174 => (om (hR q174 p0 2) none (fun b178 => (if hT q174 b178 = 15 then (if ixb (0 : Int32) (hLn q174 b178) = true then (some (sI (sI q174 b178 (0 : Int32).toNatClampNeg (56 : Int32)) p0 3 (1 : Int32))) else none) else none))))))))))))))))))) else none))) else none))) else none))) else none))))) else none))) else none))) else none))) else none))) else none))) else none))))) else none))) else none))) else none))) else none))) else none))) else none))))) else none))) else none))) else none))) else none))) else none))) else none))))) else none))) else none))) else none))) else none))) else none) else none))) else none)
set_option maxHeartbeats 4000000 in
set_option maxRecDepth 20000 in
theorem p_X12_init {p0 : Nat} {h : HS} {q : HS} (H : f_X12_init p0 h = some q) : Prw h q := by
  unfold f_X12_init at H
  replace H := og H; obtain ⟨g1, H⟩ := H
  have e2 := Prw.nw (h := h) (kd := 15) (ln := (960 : Int32).toNatClampNeg) (ns := (960 : Int32).toNatClampNeg) Prw.rf g1
  replace H := obh H; obtain ⟨h3, e4, H⟩ := H
  replace H := og H; obtain ⟨g5, H⟩ := H
  have e6 := Prw.sR (h := h3) (a := p0) (k := 1) (v := some (hN h)) Prw.rf 
  replace H := og H; obtain ⟨g7, H⟩ := H
  have e8 := Prw.nw (h := (sR h3 p0 1 (some (hN h)))) (kd := 15) (ln := (6 : Int32).toNatClampNeg) (ns := (6 : Int32).toNatClampNeg) Prw.rf g7
  replace H := obh H; obtain ⟨h9, e10, H⟩ := H
  have e11 := Prw.sR (h := h9) (a := p0) (k := 2) (v := some (hN (sR h3 p0 1 (some (hN h))))) Prw.rf 
  replace H := og H; obtain ⟨g12, H⟩ := H
  have e13 := Prw.nw (h := (sR h9 p0 2 (some (hN (sR h3 p0 1 (some (hN h))))))) (kd := 15) (ln := (160 : Int32).toNatClampNeg) (ns := (160 : Int32).toNatClampNeg) Prw.rf g12
  replace H := obh H; obtain ⟨h14, e15, H⟩ := H
  have e16 := Prw.sR (h := h14) (a := p0) (k := 5) (v := some (hN (sR h9 p0 2 (some (hN (sR h3 p0 1 (some (hN h)))))))) Prw.rf 
  replace H := og H; obtain ⟨g17, H⟩ := H
  have e18 := Prw.nw (h := (sR h14 p0 5 (some (hN (sR h9 p0 2 (some (hN (sR h3 p0 1 (some (hN h)))))))))) (kd := 15) (ln := (8 : Int32).toNatClampNeg) (ns := (8 : Int32).toNatClampNeg) Prw.rf g17
  replace H := obh H; obtain ⟨h19, e20, H⟩ := H
  have e21 := Prw.sR (h := h19) (a := p0) (k := 7) (v := some (hN (sR h14 p0 5 (some (hN (sR h9 p0 2 (some (hN (sR h3 p0 1 (some (hN h))))))))))) Prw.rf 
  replace H := og H; obtain ⟨g22, H⟩ := H
  have e23 := Prw.nw (h := (sR h19 p0 7 (some (hN (sR h14 p0 5 (some (hN (sR h9 p0 2 (some (hN (sR h3 p0 1 (some (hN h))))))))))))) (kd := 15) (ln := (8 : Int32).toNatClampNeg) (ns := (8 : Int32).toNatClampNeg) Prw.rf g22
  replace H := obh H; obtain ⟨h24, e25, H⟩ := H
  have e26 := Prw.sR (h := h24) (a := p0) (k := 8) (v := some (hN (sR h19 p0 7 (some (hN (sR h14 p0 5 (some (hN (sR h9 p0 2 (some (hN (sR h3 p0 1 (some (hN h)))))))))))))) Prw.rf 
  replace H := og H; obtain ⟨g27, H⟩ := H
  have e28 := Prw.nw (h := (sR h24 p0 8 (some (hN (sR h19 p0 7 (some (hN (sR h14 p0 5 (some (hN (sR h9 p0 2 (some (hN (sR h3 p0 1 (some (hN h)))))))))))))))) (kd := 15) (ln := (8 : Int32).toNatClampNeg) (ns := (8 : Int32).toNatClampNeg) Prw.rf g27
  replace H := obh H; obtain ⟨h29, e30, H⟩ := H
  have e31 := Prw.sR (h := h29) (a := p0) (k := 9) (v := some (hN (sR h24 p0 8 (some (hN (sR h19 p0 7 (some (hN (sR h14 p0 5 (some (hN (sR h9 p0 2 (some (hN (sR h3 p0 1 (some (hN h))))))))))))))))) Prw.rf 
  replace H := obh H; obtain ⟨h32, e33, H⟩ := H
  replace H := og H; obtain ⟨g34, H⟩ := H
  have e35 := Prw.nw (h := h32) (kd := 15) (ln := (8 : Int32).toNatClampNeg) (ns := (8 : Int32).toNatClampNeg) Prw.rf g34
  replace H := obh H; obtain ⟨h36, e37, H⟩ := H
  have e38 := Prw.sR (h := h36) (a := p0) (k := 10) (v := some (hN h32)) Prw.rf 
  replace H := og H; obtain ⟨g39, H⟩ := H
  have e40 := Prw.nw (h := (sR h36 p0 10 (some (hN h32)))) (kd := 15) (ln := (8 : Int32).toNatClampNeg) (ns := (8 : Int32).toNatClampNeg) Prw.rf g39
  replace H := obh H; obtain ⟨h41, e42, H⟩ := H
  have e43 := Prw.sR (h := h41) (a := p0) (k := 11) (v := some (hN (sR h36 p0 10 (some (hN h32))))) Prw.rf 
  replace H := og H; obtain ⟨g44, H⟩ := H
  have e45 := Prw.nw (h := (sR h41 p0 11 (some (hN (sR h36 p0 10 (some (hN h32))))))) (kd := 15) (ln := (8 : Int32).toNatClampNeg) (ns := (8 : Int32).toNatClampNeg) Prw.rf g44
  replace H := obh H; obtain ⟨h46, e47, H⟩ := H
  have e48 := Prw.sR (h := h46) (a := p0) (k := 12) (v := some (hN (sR h41 p0 11 (some (hN (sR h36 p0 10 (some (hN h32)))))))) Prw.rf 
  replace H := og H; obtain ⟨g49, H⟩ := H
  have e50 := Prw.nw (h := (sR h46 p0 12 (some (hN (sR h41 p0 11 (some (hN (sR h36 p0 10 (some (hN h32)))))))))) (kd := 15) (ln := (8 : Int32).toNatClampNeg) (ns := (8 : Int32).toNatClampNeg) Prw.rf g49
  replace H := obh H; obtain ⟨h51, e52, H⟩ := H
  have e53 := Prw.sR (h := h51) (a := p0) (k := 13) (v := some (hN (sR h46 p0 12 (some (hN (sR h41 p0 11 (some (hN (sR h36 p0 10 (some (hN h32))))))))))) Prw.rf 
  replace H := og H; obtain ⟨g54, H⟩ := H
  have e55 := Prw.nw (h := (sR h51 p0 13 (some (hN (sR h46 p0 12 (some (hN (sR h41 p0 11 (some (hN (sR h36 p0 10 (some (hN h32))))))))))))) (kd := 15) (ln := (6 : Int32).toNatClampNeg) (ns := (6 : Int32).toNatClampNeg) Prw.rf g54
  replace H := obh H; obtain ⟨h56, e57, H⟩ := H
  have e58 := Prw.sR (h := h56) (a := p0) (k := 15) (v := some (hN (sR h51 p0 13 (some (hN (sR h46 p0 12 (some (hN (sR h41 p0 11 (some (hN (sR h36 p0 10 (some (hN h32)))))))))))))) Prw.rf 
  replace H := og H; obtain ⟨g59, H⟩ := H
  have e60 := Prw.nw (h := (sR h56 p0 15 (some (hN (sR h51 p0 13 (some (hN (sR h46 p0 12 (some (hN (sR h41 p0 11 (some (hN (sR h36 p0 10 (some (hN h32)))))))))))))))) (kd := 15) (ln := (6 : Int32).toNatClampNeg) (ns := (6 : Int32).toNatClampNeg) Prw.rf g59
  replace H := obh H; obtain ⟨h61, e62, H⟩ := H
  have e63 := Prw.sR (h := h61) (a := p0) (k := 16) (v := some (hN (sR h56 p0 15 (some (hN (sR h51 p0 13 (some (hN (sR h46 p0 12 (some (hN (sR h41 p0 11 (some (hN (sR h36 p0 10 (some (hN h32))))))))))))))))) Prw.rf 
  replace H := obh H; obtain ⟨h64, e65, H⟩ := H
  replace H := og H; obtain ⟨g66, H⟩ := H
  have e67 := Prw.nw (h := h64) (kd := 15) (ln := (6 : Int32).toNatClampNeg) (ns := (6 : Int32).toNatClampNeg) Prw.rf g66
  replace H := obh H; obtain ⟨h68, e69, H⟩ := H
  have e70 := Prw.sR (h := h68) (a := p0) (k := 17) (v := some (hN h64)) Prw.rf 
  replace H := og H; obtain ⟨g71, H⟩ := H
  have e72 := Prw.nw (h := (sR h68 p0 17 (some (hN h64)))) (kd := 15) (ln := (60 : Int32).toNatClampNeg) (ns := (60 : Int32).toNatClampNeg) Prw.rf g71
  replace H := obh H; obtain ⟨h73, e74, H⟩ := H
  have e75 := Prw.sR (h := h73) (a := p0) (k := 20) (v := some (hN (sR h68 p0 17 (some (hN h64))))) Prw.rf 
  replace H := og H; obtain ⟨g76, H⟩ := H
  have e77 := Prw.nw (h := (sR h73 p0 20 (some (hN (sR h68 p0 17 (some (hN h64))))))) (kd := 15) (ln := (60 : Int32).toNatClampNeg) (ns := (60 : Int32).toNatClampNeg) Prw.rf g76
  replace H := obh H; obtain ⟨h78, e79, H⟩ := H
  have e80 := Prw.sR (h := h78) (a := p0) (k := 21) (v := some (hN (sR h73 p0 20 (some (hN (sR h68 p0 17 (some (hN h64)))))))) Prw.rf 
  replace H := og H; obtain ⟨g81, H⟩ := H
  have e82 := Prw.nw (h := (sR h78 p0 21 (some (hN (sR h73 p0 20 (some (hN (sR h68 p0 17 (some (hN h64)))))))))) (kd := 15) (ln := (60 : Int32).toNatClampNeg) (ns := (60 : Int32).toNatClampNeg) Prw.rf g81
  replace H := obh H; obtain ⟨h83, e84, H⟩ := H
  have e85 := Prw.sR (h := h83) (a := p0) (k := 22) (v := some (hN (sR h78 p0 21 (some (hN (sR h73 p0 20 (some (hN (sR h68 p0 17 (some (hN h64))))))))))) Prw.rf 
  replace H := og H; obtain ⟨g86, H⟩ := H
  have e87 := Prw.nw (h := (sR h83 p0 22 (some (hN (sR h78 p0 21 (some (hN (sR h73 p0 20 (some (hN (sR h68 p0 17 (some (hN h64))))))))))))) (kd := 15) (ln := (60 : Int32).toNatClampNeg) (ns := (60 : Int32).toNatClampNeg) Prw.rf g86
  replace H := obh H; obtain ⟨h88, e89, H⟩ := H
  have e90 := Prw.sR (h := h88) (a := p0) (k := 23) (v := some (hN (sR h83 p0 22 (some (hN (sR h78 p0 21 (some (hN (sR h73 p0 20 (some (hN (sR h68 p0 17 (some (hN h64)))))))))))))) Prw.rf 
  replace H := og H; obtain ⟨g91, H⟩ := H
  have e92 := Prw.nw (h := (sR h88 p0 23 (some (hN (sR h83 p0 22 (some (hN (sR h78 p0 21 (some (hN (sR h73 p0 20 (some (hN (sR h68 p0 17 (some (hN h64)))))))))))))))) (kd := 15) (ln := (60 : Int32).toNatClampNeg) (ns := (60 : Int32).toNatClampNeg) Prw.rf g91
  replace H := obh H; obtain ⟨h93, e94, H⟩ := H
  have e95 := Prw.sR (h := h93) (a := p0) (k := 24) (v := some (hN (sR h88 p0 23 (some (hN (sR h83 p0 22 (some (hN (sR h78 p0 21 (some (hN (sR h73 p0 20 (some (hN (sR h68 p0 17 (some (hN h64))))))))))))))))) Prw.rf 
  replace H := obh H; obtain ⟨h96, e97, H⟩ := H
  replace H := og H; obtain ⟨g98, H⟩ := H
  have e99 := Prw.nw (h := h96) (kd := 15) (ln := (6 : Int32).toNatClampNeg) (ns := (6 : Int32).toNatClampNeg) Prw.rf g98
  replace H := obh H; obtain ⟨h100, e101, H⟩ := H
  have e102 := Prw.sR (h := h100) (a := p0) (k := 42) (v := some (hN h96)) Prw.rf 
  replace H := og H; obtain ⟨g103, H⟩ := H
  have e104 := Prw.nw (h := (sR h100 p0 42 (some (hN h96)))) (kd := 15) (ln := (36 : Int32).toNatClampNeg) (ns := (36 : Int32).toNatClampNeg) Prw.rf g103
  replace H := obh H; obtain ⟨h105, e106, H⟩ := H
  have e107 := Prw.sR (h := h105) (a := p0) (k := 43) (v := some (hN (sR h100 p0 42 (some (hN h96))))) Prw.rf 
  replace H := og H; obtain ⟨g108, H⟩ := H
  have e109 := Prw.nw (h := (sR h105 p0 43 (some (hN (sR h100 p0 42 (some (hN h96))))))) (kd := 15) (ln := (8 : Int32).toNatClampNeg) (ns := (8 : Int32).toNatClampNeg) Prw.rf g108
  replace H := obh H; obtain ⟨h110, e111, H⟩ := H
  have e112 := Prw.sR (h := h110) (a := p0) (k := 45) (v := some (hN (sR h105 p0 43 (some (hN (sR h100 p0 42 (some (hN h96)))))))) Prw.rf 
  replace H := og H; obtain ⟨g113, H⟩ := H
  have e114 := Prw.nw (h := (sR h110 p0 45 (some (hN (sR h105 p0 43 (some (hN (sR h100 p0 42 (some (hN h96)))))))))) (kd := 15) (ln := (8 : Int32).toNatClampNeg) (ns := (8 : Int32).toNatClampNeg) Prw.rf g113
  replace H := obh H; obtain ⟨h115, e116, H⟩ := H
  have e117 := Prw.sR (h := h115) (a := p0) (k := 46) (v := some (hN (sR h110 p0 45 (some (hN (sR h105 p0 43 (some (hN (sR h100 p0 42 (some (hN h96))))))))))) Prw.rf 
  replace H := og H; obtain ⟨g118, H⟩ := H
  have e119 := Prw.nw (h := (sR h115 p0 46 (some (hN (sR h110 p0 45 (some (hN (sR h105 p0 43 (some (hN (sR h100 p0 42 (some (hN h96))))))))))))) (kd := 15) (ln := (201 : Int32).toNatClampNeg) (ns := (201 : Int32).toNatClampNeg) Prw.rf g118
  replace H := obh H; obtain ⟨h120, e121, H⟩ := H
  have e122 := Prw.sR (h := h120) (a := p0) (k := 47) (v := some (hN (sR h115 p0 46 (some (hN (sR h110 p0 45 (some (hN (sR h105 p0 43 (some (hN (sR h100 p0 42 (some (hN h96)))))))))))))) Prw.rf 
  replace H := og H; obtain ⟨g123, H⟩ := H
  have e124 := Prw.nw (h := (sR h120 p0 47 (some (hN (sR h115 p0 46 (some (hN (sR h110 p0 45 (some (hN (sR h105 p0 43 (some (hN (sR h100 p0 42 (some (hN h96)))))))))))))))) (kd := 15) (ln := (32 : Int32).toNatClampNeg) (ns := (32 : Int32).toNatClampNeg) Prw.rf g123
  replace H := obh H; obtain ⟨h125, e126, H⟩ := H
  have e127 := Prw.sR (h := h125) (a := p0) (k := 48) (v := some (hN (sR h120 p0 47 (some (hN (sR h115 p0 46 (some (hN (sR h110 p0 45 (some (hN (sR h105 p0 43 (some (hN (sR h100 p0 42 (some (hN h96))))))))))))))))) Prw.rf 
  replace H := obh H; obtain ⟨h128, e129, H⟩ := H
  replace H := og H; obtain ⟨g130, H⟩ := H
  have e131 := Prw.nw (h := h128) (kd := 17) (ln := (4 : Int32).toNatClampNeg) (ns := (4 : Int32).toNatClampNeg) Prw.rf g130
  replace H := obh H; obtain ⟨h132, e133, H⟩ := H
  have e134 := Prw.sR (h := h132) (a := p0) (k := 53) (v := some (hN h128)) Prw.rf 
  replace H := og H; obtain ⟨g135, H⟩ := H
  have e136 := Prw.nw (h := (sR h132 p0 53 (some (hN h128)))) (kd := 15) (ln := (4 : Int32).toNatClampNeg) (ns := (4 : Int32).toNatClampNeg) Prw.rf g135
  replace H := obh H; obtain ⟨h137, e138, H⟩ := H
  have e139 := Prw.sR (h := h137) (a := p0) (k := 54) (v := some (hN (sR h132 p0 53 (some (hN h128))))) Prw.rf 
  replace H := og H; obtain ⟨g140, H⟩ := H
  have e141 := Prw.nw (h := (sR h137 p0 54 (some (hN (sR h132 p0 53 (some (hN h128))))))) (kd := 15) (ln := (4 : Int32).toNatClampNeg) (ns := (4 : Int32).toNatClampNeg) Prw.rf g140
  replace H := obh H; obtain ⟨h142, e143, H⟩ := H
  have e144 := Prw.sR (h := h142) (a := p0) (k := 55) (v := some (hN (sR h137 p0 54 (some (hN (sR h132 p0 53 (some (hN h128)))))))) Prw.rf 
  replace H := og H; obtain ⟨g145, H⟩ := H
  have e146 := Prw.nw (h := (sR h142 p0 55 (some (hN (sR h137 p0 54 (some (hN (sR h132 p0 53 (some (hN h128)))))))))) (kd := 15) (ln := (160 : Int32).toNatClampNeg) (ns := (160 : Int32).toNatClampNeg) Prw.rf g145
  replace H := obh H; obtain ⟨h147, e148, H⟩ := H
  have e149 := Prw.sR (h := h147) (a := p0) (k := 56) (v := some (hN (sR h142 p0 55 (some (hN (sR h137 p0 54 (some (hN (sR h132 p0 53 (some (hN h128))))))))))) Prw.rf 
  replace H := ob H; obtain ⟨q150, c151, H⟩ := H
  have e153 := p_X12_spell c151
  have e152 := e153.w
  replace H := ob H; obtain ⟨q154, c155, H⟩ := H
  have e157 := p_X12_spell c155
  have e156 := e157.w
  replace H := ob H; obtain ⟨q158, c159, H⟩ := H
  have e161 := p_X12_spell c159
  have e160 := e161.w
  replace H := ob H; obtain ⟨q162, c163, H⟩ := H
  have e165 := p_X12_spell c163
  have e164 := e165.w
  replace H := ob H; obtain ⟨q166, c167, H⟩ := H
  have e169 := p_X12_spell c167
  have e168 := e169.w
  replace H := ob H; obtain ⟨q170, c171, H⟩ := H
  have e173 := p_X12_spell c171
  have e172 := e173.w
  replace H := ob H; obtain ⟨q174, c175, H⟩ := H
  have e177 := p_X12_spell c175
  have e176 := e177.w
  replace H := oom H; obtain ⟨-, H⟩ | ⟨b178, e179, H⟩ := H
  · exact nz H
  replace H := og H; obtain ⟨g180, H⟩ := H
  replace H := og H; obtain ⟨g181, H⟩ := H
  obtain rfl := Option.some.inj H
  exact (((((((((kW e148 (((kW e143 (((kW e138 (((kW e133 ((kW e129 ((kW e126 (((kW e121 (((kW e116 (((kW e111 (((kW e106 (((kW e101 ((kW e97 ((kW e94 (((kW e89 (((kW e84 (((kW e79 (((kW e74 (((kW e69 ((kW e65 ((kW e62 (((kW e57 (((kW e52 (((kW e47 (((kW e42 (((kW e37 ((kW e33 ((kW e30 (((kW e25 (((kW e20 (((kW e15 (((kW e10 (((kW e4 e2).tr e6).tr e8)).tr e11).tr e13)).tr e16).tr e18)).tr e21).tr e23)).tr e26).tr e28)).tr e31)).tr e35)).tr e38).tr e40)).tr e43).tr e45)).tr e48).tr e50)).tr e53).tr e55)).tr e58).tr e60)).tr e63)).tr e67)).tr e70).tr e72)).tr e75).tr e77)).tr e80).tr e82)).tr e85).tr e87)).tr e90).tr e92)).tr e95)).tr e99)).tr e102).tr e104)).tr e107).tr e109)).tr e112).tr e114)).tr e117).tr e119)).tr e122).tr e124)).tr e127)).tr e131)).tr e134).tr e136)).tr e139).tr e141)).tr e144).tr e146)).tr e149).tr e152).tr e156).tr e160).tr e164).tr e168).tr e172).tr e176)
set_option maxHeartbeats 4000000 in
set_option maxRecDepth 20000 in
theorem t_X12_init {G : GE} (d : Nat) {p0 : Nat} {h : HS} {q : HS} (H : f_X12_init p0 h = some q) : CE G (d + 1) yX12_init miX12_init [.ref p0] h (none) (q) := by
  unfold f_X12_init at H
  refine ce_of rfl (by decide) (fun q => by first | rfl | cases q) (Nat.le_of_ble_eq_true rfl) rfl ?_
  refine g_aload_n dX12_init_0 rfl rfl ?_
  refine e_objI lmX12_7 dX12_init_1 (Nat.le_of_ble_eq_true rfl) (by omega) ?_
  refine g_aload_n dX12_init_4 rfl rfl ?_
  refine e_sipush (v := (960 : Int32)) dX12_init_5 (by decide) ?_
  replace H := og H; obtain ⟨g1, H⟩ := H
  refine e_newa (kd := 15) rfl (by decide) la_int (by decide) (by decide) dX12_init_8 ?_
  have e2 := Prw.nw (h := h) (kd := 15) (ln := (960 : Int32).toNatClampNeg) (ns := (960 : Int32).toNatClampNeg) Prw.rf g1
  replace H := obh H; obtain ⟨h3, e4, H⟩ := H
  refine e_hq e4 ?_
  replace H := og H; obtain ⟨g5, H⟩ := H
  refine e_putR g5 fpX12_13_13i (by first | exact Or.inl ⟨_, rfl⟩ | exact Or.inr ⟨_, rfl⟩) dX12_init_10 ?_
  have e6 := Prw.sR (h := h3) (a := p0) (k := 1) (v := some (hN h)) Prw.rf 
  refine g_aload_n dX12_init_13 rfl rfl ?_
  refine e_bipush (v := (6 : Int32)) dX12_init_14 (by decide) ?_
  replace H := og H; obtain ⟨g7, H⟩ := H
  refine e_newa (kd := 15) rfl (by decide) la_int (by decide) (by decide) dX12_init_16 ?_
  have e8 := Prw.nw (h := (sR h3 p0 1 (some (hN h)))) (kd := 15) (ln := (6 : Int32).toNatClampNeg) (ns := (6 : Int32).toNatClampNeg) Prw.rf g7
  replace H := obh H; obtain ⟨h9, e10, H⟩ := H
  refine e_hq e10 ?_
  refine e_putR (kT e10 (e8.k (e6.k g5 (by decide)) (by decide))) fpX12_17_13i (by first | exact Or.inl ⟨_, rfl⟩ | exact Or.inr ⟨_, rfl⟩) dX12_init_18 ?_
  have e11 := Prw.sR (h := h9) (a := p0) (k := 2) (v := some (hN (sR h3 p0 1 (some (hN h))))) Prw.rf 
  refine g_aload_n dX12_init_21 rfl rfl ?_
  refine e_sipush (v := (160 : Int32)) dX12_init_22 (by decide) ?_
  replace H := og H; obtain ⟨g12, H⟩ := H
  refine e_newa (kd := 15) rfl (by decide) la_int (by decide) (by decide) dX12_init_25 ?_
  have e13 := Prw.nw (h := (sR h9 p0 2 (some (hN (sR h3 p0 1 (some (hN h))))))) (kd := 15) (ln := (160 : Int32).toNatClampNeg) (ns := (160 : Int32).toNatClampNeg) Prw.rf g12
  replace H := obh H; obtain ⟨h14, e15, H⟩ := H
  refine e_hq e15 ?_
  refine e_putR (kT e15 (e13.k (e11.k (kT e10 (e8.k (e6.k g5 (by decide)) (by decide))) (by decide)) (by decide))) fpX12_20_13i (by first | exact Or.inl ⟨_, rfl⟩ | exact Or.inr ⟨_, rfl⟩) dX12_init_27 ?_
  have e16 := Prw.sR (h := h14) (a := p0) (k := 5) (v := some (hN (sR h9 p0 2 (some (hN (sR h3 p0 1 (some (hN h)))))))) Prw.rf 
  refine g_aload_n dX12_init_30 rfl rfl ?_
  refine e_bipush (v := (8 : Int32)) dX12_init_31 (by decide) ?_
  replace H := og H; obtain ⟨g17, H⟩ := H
  refine e_newa (kd := 15) rfl (by decide) la_int (by decide) (by decide) dX12_init_33 ?_
  have e18 := Prw.nw (h := (sR h14 p0 5 (some (hN (sR h9 p0 2 (some (hN (sR h3 p0 1 (some (hN h)))))))))) (kd := 15) (ln := (8 : Int32).toNatClampNeg) (ns := (8 : Int32).toNatClampNeg) Prw.rf g17
  replace H := obh H; obtain ⟨h19, e20, H⟩ := H
  refine e_hq e20 ?_
  refine e_putR (kT e20 (e18.k (e16.k (kT e15 (e13.k (e11.k (kT e10 (e8.k (e6.k g5 (by decide)) (by decide))) (by decide)) (by decide))) (by decide)) (by decide))) fpX12_23_13i (by first | exact Or.inl ⟨_, rfl⟩ | exact Or.inr ⟨_, rfl⟩) dX12_init_35 ?_
  have e21 := Prw.sR (h := h19) (a := p0) (k := 7) (v := some (hN (sR h14 p0 5 (some (hN (sR h9 p0 2 (some (hN (sR h3 p0 1 (some (hN h))))))))))) Prw.rf 
  refine g_aload_n dX12_init_38 rfl rfl ?_
  refine e_bipush (v := (8 : Int32)) dX12_init_39 (by decide) ?_
  replace H := og H; obtain ⟨g22, H⟩ := H
  refine e_newa (kd := 15) rfl (by decide) la_int (by decide) (by decide) dX12_init_41 ?_
  have e23 := Prw.nw (h := (sR h19 p0 7 (some (hN (sR h14 p0 5 (some (hN (sR h9 p0 2 (some (hN (sR h3 p0 1 (some (hN h))))))))))))) (kd := 15) (ln := (8 : Int32).toNatClampNeg) (ns := (8 : Int32).toNatClampNeg) Prw.rf g22
  replace H := obh H; obtain ⟨h24, e25, H⟩ := H
  refine e_hq e25 ?_
  refine e_putR (kT e25 (e23.k (e21.k (kT e20 (e18.k (e16.k (kT e15 (e13.k (e11.k (kT e10 (e8.k (e6.k g5 (by decide)) (by decide))) (by decide)) (by decide))) (by decide)) (by decide))) (by decide)) (by decide))) fpX12_26_13i (by first | exact Or.inl ⟨_, rfl⟩ | exact Or.inr ⟨_, rfl⟩) dX12_init_43 ?_
  have e26 := Prw.sR (h := h24) (a := p0) (k := 8) (v := some (hN (sR h19 p0 7 (some (hN (sR h14 p0 5 (some (hN (sR h9 p0 2 (some (hN (sR h3 p0 1 (some (hN h)))))))))))))) Prw.rf 
  refine g_aload_n dX12_init_46 rfl rfl ?_
  refine e_bipush (v := (8 : Int32)) dX12_init_47 (by decide) ?_
  replace H := og H; obtain ⟨g27, H⟩ := H
  refine e_newa (kd := 15) rfl (by decide) la_int (by decide) (by decide) dX12_init_49 ?_
  have e28 := Prw.nw (h := (sR h24 p0 8 (some (hN (sR h19 p0 7 (some (hN (sR h14 p0 5 (some (hN (sR h9 p0 2 (some (hN (sR h3 p0 1 (some (hN h)))))))))))))))) (kd := 15) (ln := (8 : Int32).toNatClampNeg) (ns := (8 : Int32).toNatClampNeg) Prw.rf g27
  replace H := obh H; obtain ⟨h29, e30, H⟩ := H
  refine e_hq e30 ?_
  refine e_putR (kT e30 (e28.k (e26.k (kT e25 (e23.k (e21.k (kT e20 (e18.k (e16.k (kT e15 (e13.k (e11.k (kT e10 (e8.k (e6.k g5 (by decide)) (by decide))) (by decide)) (by decide))) (by decide)) (by decide))) (by decide)) (by decide))) (by decide)) (by decide))) fpX12_29_13i (by first | exact Or.inl ⟨_, rfl⟩ | exact Or.inr ⟨_, rfl⟩) dX12_init_51 ?_
  have e31 := Prw.sR (h := h29) (a := p0) (k := 9) (v := some (hN (sR h24 p0 8 (some (hN (sR h19 p0 7 (some (hN (sR h14 p0 5 (some (hN (sR h9 p0 2 (some (hN (sR h3 p0 1 (some (hN h))))))))))))))))) Prw.rf 
  replace H := obh H; obtain ⟨h32, e33, H⟩ := H
  refine e_hq e33 ?_
  refine g_aload_n dX12_init_54 rfl rfl ?_
  refine e_bipush (v := (8 : Int32)) dX12_init_55 (by decide) ?_
  replace H := og H; obtain ⟨g34, H⟩ := H
  refine e_newa (kd := 15) rfl (by decide) la_int (by decide) (by decide) dX12_init_57 ?_
  have e35 := Prw.nw (h := h32) (kd := 15) (ln := (8 : Int32).toNatClampNeg) (ns := (8 : Int32).toNatClampNeg) Prw.rf g34
  replace H := obh H; obtain ⟨h36, e37, H⟩ := H
  refine e_hq e37 ?_
  refine e_putR (kT e37 (e35.k (kT e33 (e31.k (kT e30 (e28.k (e26.k (kT e25 (e23.k (e21.k (kT e20 (e18.k (e16.k (kT e15 (e13.k (e11.k (kT e10 (e8.k (e6.k g5 (by decide)) (by decide))) (by decide)) (by decide))) (by decide)) (by decide))) (by decide)) (by decide))) (by decide)) (by decide))) (by decide))) (by decide))) fpX12_32_13i (by first | exact Or.inl ⟨_, rfl⟩ | exact Or.inr ⟨_, rfl⟩) dX12_init_59 ?_
  have e38 := Prw.sR (h := h36) (a := p0) (k := 10) (v := some (hN h32)) Prw.rf 
  refine g_aload_n dX12_init_62 rfl rfl ?_
  refine e_bipush (v := (8 : Int32)) dX12_init_63 (by decide) ?_
  replace H := og H; obtain ⟨g39, H⟩ := H
  refine e_newa (kd := 15) rfl (by decide) la_int (by decide) (by decide) dX12_init_65 ?_
  have e40 := Prw.nw (h := (sR h36 p0 10 (some (hN h32)))) (kd := 15) (ln := (8 : Int32).toNatClampNeg) (ns := (8 : Int32).toNatClampNeg) Prw.rf g39
  replace H := obh H; obtain ⟨h41, e42, H⟩ := H
  refine e_hq e42 ?_
  refine e_putR (kT e42 (e40.k (e38.k (kT e37 (e35.k (kT e33 (e31.k (kT e30 (e28.k (e26.k (kT e25 (e23.k (e21.k (kT e20 (e18.k (e16.k (kT e15 (e13.k (e11.k (kT e10 (e8.k (e6.k g5 (by decide)) (by decide))) (by decide)) (by decide))) (by decide)) (by decide))) (by decide)) (by decide))) (by decide)) (by decide))) (by decide))) (by decide))) (by decide)) (by decide))) fpX12_35_13i (by first | exact Or.inl ⟨_, rfl⟩ | exact Or.inr ⟨_, rfl⟩) dX12_init_67 ?_
  have e43 := Prw.sR (h := h41) (a := p0) (k := 11) (v := some (hN (sR h36 p0 10 (some (hN h32))))) Prw.rf 
  refine g_aload_n dX12_init_70 rfl rfl ?_
  refine e_bipush (v := (8 : Int32)) dX12_init_71 (by decide) ?_
  replace H := og H; obtain ⟨g44, H⟩ := H
  refine e_newa (kd := 15) rfl (by decide) la_int (by decide) (by decide) dX12_init_73 ?_
  have e45 := Prw.nw (h := (sR h41 p0 11 (some (hN (sR h36 p0 10 (some (hN h32))))))) (kd := 15) (ln := (8 : Int32).toNatClampNeg) (ns := (8 : Int32).toNatClampNeg) Prw.rf g44
  replace H := obh H; obtain ⟨h46, e47, H⟩ := H
  refine e_hq e47 ?_
  refine e_putR (kT e47 (e45.k (e43.k (kT e42 (e40.k (e38.k (kT e37 (e35.k (kT e33 (e31.k (kT e30 (e28.k (e26.k (kT e25 (e23.k (e21.k (kT e20 (e18.k (e16.k (kT e15 (e13.k (e11.k (kT e10 (e8.k (e6.k g5 (by decide)) (by decide))) (by decide)) (by decide))) (by decide)) (by decide))) (by decide)) (by decide))) (by decide)) (by decide))) (by decide))) (by decide))) (by decide)) (by decide))) (by decide)) (by decide))) fpX12_38_13i (by first | exact Or.inl ⟨_, rfl⟩ | exact Or.inr ⟨_, rfl⟩) dX12_init_75 ?_
  have e48 := Prw.sR (h := h46) (a := p0) (k := 12) (v := some (hN (sR h41 p0 11 (some (hN (sR h36 p0 10 (some (hN h32)))))))) Prw.rf 
  refine g_aload_n dX12_init_78 rfl rfl ?_
  refine e_bipush (v := (8 : Int32)) dX12_init_79 (by decide) ?_
  replace H := og H; obtain ⟨g49, H⟩ := H
  refine e_newa (kd := 15) rfl (by decide) la_int (by decide) (by decide) dX12_init_81 ?_
  have e50 := Prw.nw (h := (sR h46 p0 12 (some (hN (sR h41 p0 11 (some (hN (sR h36 p0 10 (some (hN h32)))))))))) (kd := 15) (ln := (8 : Int32).toNatClampNeg) (ns := (8 : Int32).toNatClampNeg) Prw.rf g49
  replace H := obh H; obtain ⟨h51, e52, H⟩ := H
  refine e_hq e52 ?_
  refine e_putR (kT e52 (e50.k (e48.k (kT e47 (e45.k (e43.k (kT e42 (e40.k (e38.k (kT e37 (e35.k (kT e33 (e31.k (kT e30 (e28.k (e26.k (kT e25 (e23.k (e21.k (kT e20 (e18.k (e16.k (kT e15 (e13.k (e11.k (kT e10 (e8.k (e6.k g5 (by decide)) (by decide))) (by decide)) (by decide))) (by decide)) (by decide))) (by decide)) (by decide))) (by decide)) (by decide))) (by decide))) (by decide))) (by decide)) (by decide))) (by decide)) (by decide))) (by decide)) (by decide))) fpX12_41_13i (by first | exact Or.inl ⟨_, rfl⟩ | exact Or.inr ⟨_, rfl⟩) dX12_init_83 ?_
  have e53 := Prw.sR (h := h51) (a := p0) (k := 13) (v := some (hN (sR h46 p0 12 (some (hN (sR h41 p0 11 (some (hN (sR h36 p0 10 (some (hN h32))))))))))) Prw.rf 
  refine g_aload_n dX12_init_86 rfl rfl ?_
  refine e_bipush (v := (6 : Int32)) dX12_init_87 (by decide) ?_
  replace H := og H; obtain ⟨g54, H⟩ := H
  refine e_newa (kd := 15) rfl (by decide) la_int (by decide) (by decide) dX12_init_89 ?_
  have e55 := Prw.nw (h := (sR h51 p0 13 (some (hN (sR h46 p0 12 (some (hN (sR h41 p0 11 (some (hN (sR h36 p0 10 (some (hN h32))))))))))))) (kd := 15) (ln := (6 : Int32).toNatClampNeg) (ns := (6 : Int32).toNatClampNeg) Prw.rf g54
  replace H := obh H; obtain ⟨h56, e57, H⟩ := H
  refine e_hq e57 ?_
  refine e_putR (kT e57 (e55.k (e53.k (kT e52 (e50.k (e48.k (kT e47 (e45.k (e43.k (kT e42 (e40.k (e38.k (kT e37 (e35.k (kT e33 (e31.k (kT e30 (e28.k (e26.k (kT e25 (e23.k (e21.k (kT e20 (e18.k (e16.k (kT e15 (e13.k (e11.k (kT e10 (e8.k (e6.k g5 (by decide)) (by decide))) (by decide)) (by decide))) (by decide)) (by decide))) (by decide)) (by decide))) (by decide)) (by decide))) (by decide))) (by decide))) (by decide)) (by decide))) (by decide)) (by decide))) (by decide)) (by decide))) (by decide)) (by decide))) fpX12_44_13i (by first | exact Or.inl ⟨_, rfl⟩ | exact Or.inr ⟨_, rfl⟩) dX12_init_91 ?_
  have e58 := Prw.sR (h := h56) (a := p0) (k := 15) (v := some (hN (sR h51 p0 13 (some (hN (sR h46 p0 12 (some (hN (sR h41 p0 11 (some (hN (sR h36 p0 10 (some (hN h32)))))))))))))) Prw.rf 
  refine g_aload_n dX12_init_94 rfl rfl ?_
  refine e_bipush (v := (6 : Int32)) dX12_init_95 (by decide) ?_
  replace H := og H; obtain ⟨g59, H⟩ := H
  refine e_newa (kd := 15) rfl (by decide) la_int (by decide) (by decide) dX12_init_97 ?_
  have e60 := Prw.nw (h := (sR h56 p0 15 (some (hN (sR h51 p0 13 (some (hN (sR h46 p0 12 (some (hN (sR h41 p0 11 (some (hN (sR h36 p0 10 (some (hN h32)))))))))))))))) (kd := 15) (ln := (6 : Int32).toNatClampNeg) (ns := (6 : Int32).toNatClampNeg) Prw.rf g59
  replace H := obh H; obtain ⟨h61, e62, H⟩ := H
  refine e_hq e62 ?_
  refine e_putR (kT e62 (e60.k (e58.k (kT e57 (e55.k (e53.k (kT e52 (e50.k (e48.k (kT e47 (e45.k (e43.k (kT e42 (e40.k (e38.k (kT e37 (e35.k (kT e33 (e31.k (kT e30 (e28.k (e26.k (kT e25 (e23.k (e21.k (kT e20 (e18.k (e16.k (kT e15 (e13.k (e11.k (kT e10 (e8.k (e6.k g5 (by decide)) (by decide))) (by decide)) (by decide))) (by decide)) (by decide))) (by decide)) (by decide))) (by decide)) (by decide))) (by decide))) (by decide))) (by decide)) (by decide))) (by decide)) (by decide))) (by decide)) (by decide))) (by decide)) (by decide))) (by decide)) (by decide))) fpX12_47_13i (by first | exact Or.inl ⟨_, rfl⟩ | exact Or.inr ⟨_, rfl⟩) dX12_init_99 ?_
  have e63 := Prw.sR (h := h61) (a := p0) (k := 16) (v := some (hN (sR h56 p0 15 (some (hN (sR h51 p0 13 (some (hN (sR h46 p0 12 (some (hN (sR h41 p0 11 (some (hN (sR h36 p0 10 (some (hN h32))))))))))))))))) Prw.rf 
  replace H := obh H; obtain ⟨h64, e65, H⟩ := H
  refine e_hq e65 ?_
  refine g_aload_n dX12_init_102 rfl rfl ?_
  refine e_bipush (v := (6 : Int32)) dX12_init_103 (by decide) ?_
  replace H := og H; obtain ⟨g66, H⟩ := H
  refine e_newa (kd := 15) rfl (by decide) la_int (by decide) (by decide) dX12_init_105 ?_
  have e67 := Prw.nw (h := h64) (kd := 15) (ln := (6 : Int32).toNatClampNeg) (ns := (6 : Int32).toNatClampNeg) Prw.rf g66
  replace H := obh H; obtain ⟨h68, e69, H⟩ := H
  refine e_hq e69 ?_
  refine e_putR (kT e69 (e67.k (kT e65 (e63.k (kT e62 (e60.k (e58.k (kT e57 (e55.k (e53.k (kT e52 (e50.k (e48.k (kT e47 (e45.k (e43.k (kT e42 (e40.k (e38.k (kT e37 (e35.k (kT e33 (e31.k (kT e30 (e28.k (e26.k (kT e25 (e23.k (e21.k (kT e20 (e18.k (e16.k (kT e15 (e13.k (e11.k (kT e10 (e8.k (e6.k g5 (by decide)) (by decide))) (by decide)) (by decide))) (by decide)) (by decide))) (by decide)) (by decide))) (by decide)) (by decide))) (by decide))) (by decide))) (by decide)) (by decide))) (by decide)) (by decide))) (by decide)) (by decide))) (by decide)) (by decide))) (by decide)) (by decide))) (by decide))) (by decide))) fpX12_50_13i (by first | exact Or.inl ⟨_, rfl⟩ | exact Or.inr ⟨_, rfl⟩) dX12_init_107 ?_
  have e70 := Prw.sR (h := h68) (a := p0) (k := 17) (v := some (hN h64)) Prw.rf 
  refine g_aload_n dX12_init_110 rfl rfl ?_
  refine e_bipush (v := (60 : Int32)) dX12_init_111 (by decide) ?_
  replace H := og H; obtain ⟨g71, H⟩ := H
  refine e_newa (kd := 15) rfl (by decide) la_int (by decide) (by decide) dX12_init_113 ?_
  have e72 := Prw.nw (h := (sR h68 p0 17 (some (hN h64)))) (kd := 15) (ln := (60 : Int32).toNatClampNeg) (ns := (60 : Int32).toNatClampNeg) Prw.rf g71
  replace H := obh H; obtain ⟨h73, e74, H⟩ := H
  refine e_hq e74 ?_
  refine e_putR (kT e74 (e72.k (e70.k (kT e69 (e67.k (kT e65 (e63.k (kT e62 (e60.k (e58.k (kT e57 (e55.k (e53.k (kT e52 (e50.k (e48.k (kT e47 (e45.k (e43.k (kT e42 (e40.k (e38.k (kT e37 (e35.k (kT e33 (e31.k (kT e30 (e28.k (e26.k (kT e25 (e23.k (e21.k (kT e20 (e18.k (e16.k (kT e15 (e13.k (e11.k (kT e10 (e8.k (e6.k g5 (by decide)) (by decide))) (by decide)) (by decide))) (by decide)) (by decide))) (by decide)) (by decide))) (by decide)) (by decide))) (by decide))) (by decide))) (by decide)) (by decide))) (by decide)) (by decide))) (by decide)) (by decide))) (by decide)) (by decide))) (by decide)) (by decide))) (by decide))) (by decide))) (by decide)) (by decide))) fpX12_53_13i (by first | exact Or.inl ⟨_, rfl⟩ | exact Or.inr ⟨_, rfl⟩) dX12_init_115 ?_
  have e75 := Prw.sR (h := h73) (a := p0) (k := 20) (v := some (hN (sR h68 p0 17 (some (hN h64))))) Prw.rf 
  refine g_aload_n dX12_init_118 rfl rfl ?_
  refine e_bipush (v := (60 : Int32)) dX12_init_119 (by decide) ?_
  replace H := og H; obtain ⟨g76, H⟩ := H
  refine e_newa (kd := 15) rfl (by decide) la_int (by decide) (by decide) dX12_init_121 ?_
  have e77 := Prw.nw (h := (sR h73 p0 20 (some (hN (sR h68 p0 17 (some (hN h64))))))) (kd := 15) (ln := (60 : Int32).toNatClampNeg) (ns := (60 : Int32).toNatClampNeg) Prw.rf g76
  replace H := obh H; obtain ⟨h78, e79, H⟩ := H
  refine e_hq e79 ?_
  refine e_putR (kT e79 (e77.k (e75.k (kT e74 (e72.k (e70.k (kT e69 (e67.k (kT e65 (e63.k (kT e62 (e60.k (e58.k (kT e57 (e55.k (e53.k (kT e52 (e50.k (e48.k (kT e47 (e45.k (e43.k (kT e42 (e40.k (e38.k (kT e37 (e35.k (kT e33 (e31.k (kT e30 (e28.k (e26.k (kT e25 (e23.k (e21.k (kT e20 (e18.k (e16.k (kT e15 (e13.k (e11.k (kT e10 (e8.k (e6.k g5 (by decide)) (by decide))) (by decide)) (by decide))) (by decide)) (by decide))) (by decide)) (by decide))) (by decide)) (by decide))) (by decide))) (by decide))) (by decide)) (by decide))) (by decide)) (by decide))) (by decide)) (by decide))) (by decide)) (by decide))) (by decide)) (by decide))) (by decide))) (by decide))) (by decide)) (by decide))) (by decide)) (by decide))) fpX12_56_13i (by first | exact Or.inl ⟨_, rfl⟩ | exact Or.inr ⟨_, rfl⟩) dX12_init_123 ?_
  have e80 := Prw.sR (h := h78) (a := p0) (k := 21) (v := some (hN (sR h73 p0 20 (some (hN (sR h68 p0 17 (some (hN h64)))))))) Prw.rf 
  refine g_aload_n dX12_init_126 rfl rfl ?_
  refine e_bipush (v := (60 : Int32)) dX12_init_127 (by decide) ?_
  replace H := og H; obtain ⟨g81, H⟩ := H
  refine e_newa (kd := 15) rfl (by decide) la_int (by decide) (by decide) dX12_init_129 ?_
  have e82 := Prw.nw (h := (sR h78 p0 21 (some (hN (sR h73 p0 20 (some (hN (sR h68 p0 17 (some (hN h64)))))))))) (kd := 15) (ln := (60 : Int32).toNatClampNeg) (ns := (60 : Int32).toNatClampNeg) Prw.rf g81
  replace H := obh H; obtain ⟨h83, e84, H⟩ := H
  refine e_hq e84 ?_
  refine e_putR (kT e84 (e82.k (e80.k (kT e79 (e77.k (e75.k (kT e74 (e72.k (e70.k (kT e69 (e67.k (kT e65 (e63.k (kT e62 (e60.k (e58.k (kT e57 (e55.k (e53.k (kT e52 (e50.k (e48.k (kT e47 (e45.k (e43.k (kT e42 (e40.k (e38.k (kT e37 (e35.k (kT e33 (e31.k (kT e30 (e28.k (e26.k (kT e25 (e23.k (e21.k (kT e20 (e18.k (e16.k (kT e15 (e13.k (e11.k (kT e10 (e8.k (e6.k g5 (by decide)) (by decide))) (by decide)) (by decide))) (by decide)) (by decide))) (by decide)) (by decide))) (by decide)) (by decide))) (by decide))) (by decide))) (by decide)) (by decide))) (by decide)) (by decide))) (by decide)) (by decide))) (by decide)) (by decide))) (by decide)) (by decide))) (by decide))) (by decide))) (by decide)) (by decide))) (by decide)) (by decide))) (by decide)) (by decide))) fpX12_59_13i (by first | exact Or.inl ⟨_, rfl⟩ | exact Or.inr ⟨_, rfl⟩) dX12_init_131 ?_
  have e85 := Prw.sR (h := h83) (a := p0) (k := 22) (v := some (hN (sR h78 p0 21 (some (hN (sR h73 p0 20 (some (hN (sR h68 p0 17 (some (hN h64))))))))))) Prw.rf 
  refine g_aload_n dX12_init_134 rfl rfl ?_
  refine e_bipush (v := (60 : Int32)) dX12_init_135 (by decide) ?_
  replace H := og H; obtain ⟨g86, H⟩ := H
  refine e_newa (kd := 15) rfl (by decide) la_int (by decide) (by decide) dX12_init_137 ?_
  have e87 := Prw.nw (h := (sR h83 p0 22 (some (hN (sR h78 p0 21 (some (hN (sR h73 p0 20 (some (hN (sR h68 p0 17 (some (hN h64))))))))))))) (kd := 15) (ln := (60 : Int32).toNatClampNeg) (ns := (60 : Int32).toNatClampNeg) Prw.rf g86
  replace H := obh H; obtain ⟨h88, e89, H⟩ := H
  refine e_hq e89 ?_
  refine e_putR (kT e89 (e87.k (e85.k (kT e84 (e82.k (e80.k (kT e79 (e77.k (e75.k (kT e74 (e72.k (e70.k (kT e69 (e67.k (kT e65 (e63.k (kT e62 (e60.k (e58.k (kT e57 (e55.k (e53.k (kT e52 (e50.k (e48.k (kT e47 (e45.k (e43.k (kT e42 (e40.k (e38.k (kT e37 (e35.k (kT e33 (e31.k (kT e30 (e28.k (e26.k (kT e25 (e23.k (e21.k (kT e20 (e18.k (e16.k (kT e15 (e13.k (e11.k (kT e10 (e8.k (e6.k g5 (by decide)) (by decide))) (by decide)) (by decide))) (by decide)) (by decide))) (by decide)) (by decide))) (by decide)) (by decide))) (by decide))) (by decide))) (by decide)) (by decide))) (by decide)) (by decide))) (by decide)) (by decide))) (by decide)) (by decide))) (by decide)) (by decide))) (by decide))) (by decide))) (by decide)) (by decide))) (by decide)) (by decide))) (by decide)) (by decide))) (by decide)) (by decide))) fpX12_62_13i (by first | exact Or.inl ⟨_, rfl⟩ | exact Or.inr ⟨_, rfl⟩) dX12_init_139 ?_
  have e90 := Prw.sR (h := h88) (a := p0) (k := 23) (v := some (hN (sR h83 p0 22 (some (hN (sR h78 p0 21 (some (hN (sR h73 p0 20 (some (hN (sR h68 p0 17 (some (hN h64)))))))))))))) Prw.rf 
  refine g_aload_n dX12_init_142 rfl rfl ?_
  refine e_bipush (v := (60 : Int32)) dX12_init_143 (by decide) ?_
  replace H := og H; obtain ⟨g91, H⟩ := H
  refine e_newa (kd := 15) rfl (by decide) la_int (by decide) (by decide) dX12_init_145 ?_
  have e92 := Prw.nw (h := (sR h88 p0 23 (some (hN (sR h83 p0 22 (some (hN (sR h78 p0 21 (some (hN (sR h73 p0 20 (some (hN (sR h68 p0 17 (some (hN h64)))))))))))))))) (kd := 15) (ln := (60 : Int32).toNatClampNeg) (ns := (60 : Int32).toNatClampNeg) Prw.rf g91
  replace H := obh H; obtain ⟨h93, e94, H⟩ := H
  refine e_hq e94 ?_
  refine e_putR (kT e94 (e92.k (e90.k (kT e89 (e87.k (e85.k (kT e84 (e82.k (e80.k (kT e79 (e77.k (e75.k (kT e74 (e72.k (e70.k (kT e69 (e67.k (kT e65 (e63.k (kT e62 (e60.k (e58.k (kT e57 (e55.k (e53.k (kT e52 (e50.k (e48.k (kT e47 (e45.k (e43.k (kT e42 (e40.k (e38.k (kT e37 (e35.k (kT e33 (e31.k (kT e30 (e28.k (e26.k (kT e25 (e23.k (e21.k (kT e20 (e18.k (e16.k (kT e15 (e13.k (e11.k (kT e10 (e8.k (e6.k g5 (by decide)) (by decide))) (by decide)) (by decide))) (by decide)) (by decide))) (by decide)) (by decide))) (by decide)) (by decide))) (by decide))) (by decide))) (by decide)) (by decide))) (by decide)) (by decide))) (by decide)) (by decide))) (by decide)) (by decide))) (by decide)) (by decide))) (by decide))) (by decide))) (by decide)) (by decide))) (by decide)) (by decide))) (by decide)) (by decide))) (by decide)) (by decide))) (by decide)) (by decide))) fpX12_65_13i (by first | exact Or.inl ⟨_, rfl⟩ | exact Or.inr ⟨_, rfl⟩) dX12_init_147 ?_
  have e95 := Prw.sR (h := h93) (a := p0) (k := 24) (v := some (hN (sR h88 p0 23 (some (hN (sR h83 p0 22 (some (hN (sR h78 p0 21 (some (hN (sR h73 p0 20 (some (hN (sR h68 p0 17 (some (hN h64))))))))))))))))) Prw.rf 
  replace H := obh H; obtain ⟨h96, e97, H⟩ := H
  refine e_hq e97 ?_
  refine g_aload_n dX12_init_150 rfl rfl ?_
  refine e_bipush (v := (6 : Int32)) dX12_init_151 (by decide) ?_
  replace H := og H; obtain ⟨g98, H⟩ := H
  refine e_newa (kd := 15) rfl (by decide) la_int (by decide) (by decide) dX12_init_153 ?_
  have e99 := Prw.nw (h := h96) (kd := 15) (ln := (6 : Int32).toNatClampNeg) (ns := (6 : Int32).toNatClampNeg) Prw.rf g98
  replace H := obh H; obtain ⟨h100, e101, H⟩ := H
  refine e_hq e101 ?_
  refine e_putR (kT e101 (e99.k (kT e97 (e95.k (kT e94 (e92.k (e90.k (kT e89 (e87.k (e85.k (kT e84 (e82.k (e80.k (kT e79 (e77.k (e75.k (kT e74 (e72.k (e70.k (kT e69 (e67.k (kT e65 (e63.k (kT e62 (e60.k (e58.k (kT e57 (e55.k (e53.k (kT e52 (e50.k (e48.k (kT e47 (e45.k (e43.k (kT e42 (e40.k (e38.k (kT e37 (e35.k (kT e33 (e31.k (kT e30 (e28.k (e26.k (kT e25 (e23.k (e21.k (kT e20 (e18.k (e16.k (kT e15 (e13.k (e11.k (kT e10 (e8.k (e6.k g5 (by decide)) (by decide))) (by decide)) (by decide))) (by decide)) (by decide))) (by decide)) (by decide))) (by decide)) (by decide))) (by decide))) (by decide))) (by decide)) (by decide))) (by decide)) (by decide))) (by decide)) (by decide))) (by decide)) (by decide))) (by decide)) (by decide))) (by decide))) (by decide))) (by decide)) (by decide))) (by decide)) (by decide))) (by decide)) (by decide))) (by decide)) (by decide))) (by decide)) (by decide))) (by decide))) (by decide))) fpX12_68_13i (by first | exact Or.inl ⟨_, rfl⟩ | exact Or.inr ⟨_, rfl⟩) dX12_init_155 ?_
  have e102 := Prw.sR (h := h100) (a := p0) (k := 42) (v := some (hN h96)) Prw.rf 
  refine g_aload_n dX12_init_158 rfl rfl ?_
  refine e_bipush (v := (36 : Int32)) dX12_init_159 (by decide) ?_
  replace H := og H; obtain ⟨g103, H⟩ := H
  refine e_newa (kd := 15) rfl (by decide) la_int (by decide) (by decide) dX12_init_161 ?_
  have e104 := Prw.nw (h := (sR h100 p0 42 (some (hN h96)))) (kd := 15) (ln := (36 : Int32).toNatClampNeg) (ns := (36 : Int32).toNatClampNeg) Prw.rf g103
  replace H := obh H; obtain ⟨h105, e106, H⟩ := H
  refine e_hq e106 ?_
  refine e_putR (kT e106 (e104.k (e102.k (kT e101 (e99.k (kT e97 (e95.k (kT e94 (e92.k (e90.k (kT e89 (e87.k (e85.k (kT e84 (e82.k (e80.k (kT e79 (e77.k (e75.k (kT e74 (e72.k (e70.k (kT e69 (e67.k (kT e65 (e63.k (kT e62 (e60.k (e58.k (kT e57 (e55.k (e53.k (kT e52 (e50.k (e48.k (kT e47 (e45.k (e43.k (kT e42 (e40.k (e38.k (kT e37 (e35.k (kT e33 (e31.k (kT e30 (e28.k (e26.k (kT e25 (e23.k (e21.k (kT e20 (e18.k (e16.k (kT e15 (e13.k (e11.k (kT e10 (e8.k (e6.k g5 (by decide)) (by decide))) (by decide)) (by decide))) (by decide)) (by decide))) (by decide)) (by decide))) (by decide)) (by decide))) (by decide))) (by decide))) (by decide)) (by decide))) (by decide)) (by decide))) (by decide)) (by decide))) (by decide)) (by decide))) (by decide)) (by decide))) (by decide))) (by decide))) (by decide)) (by decide))) (by decide)) (by decide))) (by decide)) (by decide))) (by decide)) (by decide))) (by decide)) (by decide))) (by decide))) (by decide))) (by decide)) (by decide))) fpX12_71_13i (by first | exact Or.inl ⟨_, rfl⟩ | exact Or.inr ⟨_, rfl⟩) dX12_init_163 ?_
  have e107 := Prw.sR (h := h105) (a := p0) (k := 43) (v := some (hN (sR h100 p0 42 (some (hN h96))))) Prw.rf 
  refine g_aload_n dX12_init_166 rfl rfl ?_
  refine e_bipush (v := (8 : Int32)) dX12_init_167 (by decide) ?_
  replace H := og H; obtain ⟨g108, H⟩ := H
  refine e_newa (kd := 15) rfl (by decide) la_int (by decide) (by decide) dX12_init_169 ?_
  have e109 := Prw.nw (h := (sR h105 p0 43 (some (hN (sR h100 p0 42 (some (hN h96))))))) (kd := 15) (ln := (8 : Int32).toNatClampNeg) (ns := (8 : Int32).toNatClampNeg) Prw.rf g108
  replace H := obh H; obtain ⟨h110, e111, H⟩ := H
  refine e_hq e111 ?_
  refine e_putR (kT e111 (e109.k (e107.k (kT e106 (e104.k (e102.k (kT e101 (e99.k (kT e97 (e95.k (kT e94 (e92.k (e90.k (kT e89 (e87.k (e85.k (kT e84 (e82.k (e80.k (kT e79 (e77.k (e75.k (kT e74 (e72.k (e70.k (kT e69 (e67.k (kT e65 (e63.k (kT e62 (e60.k (e58.k (kT e57 (e55.k (e53.k (kT e52 (e50.k (e48.k (kT e47 (e45.k (e43.k (kT e42 (e40.k (e38.k (kT e37 (e35.k (kT e33 (e31.k (kT e30 (e28.k (e26.k (kT e25 (e23.k (e21.k (kT e20 (e18.k (e16.k (kT e15 (e13.k (e11.k (kT e10 (e8.k (e6.k g5 (by decide)) (by decide))) (by decide)) (by decide))) (by decide)) (by decide))) (by decide)) (by decide))) (by decide)) (by decide))) (by decide))) (by decide))) (by decide)) (by decide))) (by decide)) (by decide))) (by decide)) (by decide))) (by decide)) (by decide))) (by decide)) (by decide))) (by decide))) (by decide))) (by decide)) (by decide))) (by decide)) (by decide))) (by decide)) (by decide))) (by decide)) (by decide))) (by decide)) (by decide))) (by decide))) (by decide))) (by decide)) (by decide))) (by decide)) (by decide))) fpX12_74_13i (by first | exact Or.inl ⟨_, rfl⟩ | exact Or.inr ⟨_, rfl⟩) dX12_init_171 ?_
  have e112 := Prw.sR (h := h110) (a := p0) (k := 45) (v := some (hN (sR h105 p0 43 (some (hN (sR h100 p0 42 (some (hN h96)))))))) Prw.rf 
  refine g_aload_n dX12_init_174 rfl rfl ?_
  refine e_bipush (v := (8 : Int32)) dX12_init_175 (by decide) ?_
  replace H := og H; obtain ⟨g113, H⟩ := H
  refine e_newa (kd := 15) rfl (by decide) la_int (by decide) (by decide) dX12_init_177 ?_
  have e114 := Prw.nw (h := (sR h110 p0 45 (some (hN (sR h105 p0 43 (some (hN (sR h100 p0 42 (some (hN h96)))))))))) (kd := 15) (ln := (8 : Int32).toNatClampNeg) (ns := (8 : Int32).toNatClampNeg) Prw.rf g113
  replace H := obh H; obtain ⟨h115, e116, H⟩ := H
  refine e_hq e116 ?_
  refine e_putR (kT e116 (e114.k (e112.k (kT e111 (e109.k (e107.k (kT e106 (e104.k (e102.k (kT e101 (e99.k (kT e97 (e95.k (kT e94 (e92.k (e90.k (kT e89 (e87.k (e85.k (kT e84 (e82.k (e80.k (kT e79 (e77.k (e75.k (kT e74 (e72.k (e70.k (kT e69 (e67.k (kT e65 (e63.k (kT e62 (e60.k (e58.k (kT e57 (e55.k (e53.k (kT e52 (e50.k (e48.k (kT e47 (e45.k (e43.k (kT e42 (e40.k (e38.k (kT e37 (e35.k (kT e33 (e31.k (kT e30 (e28.k (e26.k (kT e25 (e23.k (e21.k (kT e20 (e18.k (e16.k (kT e15 (e13.k (e11.k (kT e10 (e8.k (e6.k g5 (by decide)) (by decide))) (by decide)) (by decide))) (by decide)) (by decide))) (by decide)) (by decide))) (by decide)) (by decide))) (by decide))) (by decide))) (by decide)) (by decide))) (by decide)) (by decide))) (by decide)) (by decide))) (by decide)) (by decide))) (by decide)) (by decide))) (by decide))) (by decide))) (by decide)) (by decide))) (by decide)) (by decide))) (by decide)) (by decide))) (by decide)) (by decide))) (by decide)) (by decide))) (by decide))) (by decide))) (by decide)) (by decide))) (by decide)) (by decide))) (by decide)) (by decide))) fpX12_77_13i (by first | exact Or.inl ⟨_, rfl⟩ | exact Or.inr ⟨_, rfl⟩) dX12_init_179 ?_
  have e117 := Prw.sR (h := h115) (a := p0) (k := 46) (v := some (hN (sR h110 p0 45 (some (hN (sR h105 p0 43 (some (hN (sR h100 p0 42 (some (hN h96))))))))))) Prw.rf 
  refine g_aload_n dX12_init_182 rfl rfl ?_
  refine e_sipush (v := (201 : Int32)) dX12_init_183 (by decide) ?_
  replace H := og H; obtain ⟨g118, H⟩ := H
  refine e_newa (kd := 15) rfl (by decide) la_int (by decide) (by decide) dX12_init_186 ?_
  have e119 := Prw.nw (h := (sR h115 p0 46 (some (hN (sR h110 p0 45 (some (hN (sR h105 p0 43 (some (hN (sR h100 p0 42 (some (hN h96))))))))))))) (kd := 15) (ln := (201 : Int32).toNatClampNeg) (ns := (201 : Int32).toNatClampNeg) Prw.rf g118
  replace H := obh H; obtain ⟨h120, e121, H⟩ := H
  refine e_hq e121 ?_
  refine e_putR (kT e121 (e119.k (e117.k (kT e116 (e114.k (e112.k (kT e111 (e109.k (e107.k (kT e106 (e104.k (e102.k (kT e101 (e99.k (kT e97 (e95.k (kT e94 (e92.k (e90.k (kT e89 (e87.k (e85.k (kT e84 (e82.k (e80.k (kT e79 (e77.k (e75.k (kT e74 (e72.k (e70.k (kT e69 (e67.k (kT e65 (e63.k (kT e62 (e60.k (e58.k (kT e57 (e55.k (e53.k (kT e52 (e50.k (e48.k (kT e47 (e45.k (e43.k (kT e42 (e40.k (e38.k (kT e37 (e35.k (kT e33 (e31.k (kT e30 (e28.k (e26.k (kT e25 (e23.k (e21.k (kT e20 (e18.k (e16.k (kT e15 (e13.k (e11.k (kT e10 (e8.k (e6.k g5 (by decide)) (by decide))) (by decide)) (by decide))) (by decide)) (by decide))) (by decide)) (by decide))) (by decide)) (by decide))) (by decide))) (by decide))) (by decide)) (by decide))) (by decide)) (by decide))) (by decide)) (by decide))) (by decide)) (by decide))) (by decide)) (by decide))) (by decide))) (by decide))) (by decide)) (by decide))) (by decide)) (by decide))) (by decide)) (by decide))) (by decide)) (by decide))) (by decide)) (by decide))) (by decide))) (by decide))) (by decide)) (by decide))) (by decide)) (by decide))) (by decide)) (by decide))) (by decide)) (by decide))) fpX12_80_13i (by first | exact Or.inl ⟨_, rfl⟩ | exact Or.inr ⟨_, rfl⟩) dX12_init_188 ?_
  have e122 := Prw.sR (h := h120) (a := p0) (k := 47) (v := some (hN (sR h115 p0 46 (some (hN (sR h110 p0 45 (some (hN (sR h105 p0 43 (some (hN (sR h100 p0 42 (some (hN h96)))))))))))))) Prw.rf 
  refine g_aload_n dX12_init_191 rfl rfl ?_
  refine e_bipush (v := (32 : Int32)) dX12_init_192 (by decide) ?_
  replace H := og H; obtain ⟨g123, H⟩ := H
  refine e_newa (kd := 15) rfl (by decide) la_int (by decide) (by decide) dX12_init_194 ?_
  have e124 := Prw.nw (h := (sR h120 p0 47 (some (hN (sR h115 p0 46 (some (hN (sR h110 p0 45 (some (hN (sR h105 p0 43 (some (hN (sR h100 p0 42 (some (hN h96)))))))))))))))) (kd := 15) (ln := (32 : Int32).toNatClampNeg) (ns := (32 : Int32).toNatClampNeg) Prw.rf g123
  replace H := obh H; obtain ⟨h125, e126, H⟩ := H
  refine e_hq e126 ?_
  refine e_putR (kT e126 (e124.k (e122.k (kT e121 (e119.k (e117.k (kT e116 (e114.k (e112.k (kT e111 (e109.k (e107.k (kT e106 (e104.k (e102.k (kT e101 (e99.k (kT e97 (e95.k (kT e94 (e92.k (e90.k (kT e89 (e87.k (e85.k (kT e84 (e82.k (e80.k (kT e79 (e77.k (e75.k (kT e74 (e72.k (e70.k (kT e69 (e67.k (kT e65 (e63.k (kT e62 (e60.k (e58.k (kT e57 (e55.k (e53.k (kT e52 (e50.k (e48.k (kT e47 (e45.k (e43.k (kT e42 (e40.k (e38.k (kT e37 (e35.k (kT e33 (e31.k (kT e30 (e28.k (e26.k (kT e25 (e23.k (e21.k (kT e20 (e18.k (e16.k (kT e15 (e13.k (e11.k (kT e10 (e8.k (e6.k g5 (by decide)) (by decide))) (by decide)) (by decide))) (by decide)) (by decide))) (by decide)) (by decide))) (by decide)) (by decide))) (by decide))) (by decide))) (by decide)) (by decide))) (by decide)) (by decide))) (by decide)) (by decide))) (by decide)) (by decide))) (by decide)) (by decide))) (by decide))) (by decide))) (by decide)) (by decide))) (by decide)) (by decide))) (by decide)) (by decide))) (by decide)) (by decide))) (by decide)) (by decide))) (by decide))) (by decide))) (by decide)) (by decide))) (by decide)) (by decide))) (by decide)) (by decide))) (by decide)) (by decide))) (by decide)) (by decide))) fpX12_83_13i (by first | exact Or.inl ⟨_, rfl⟩ | exact Or.inr ⟨_, rfl⟩) dX12_init_196 ?_
  have e127 := Prw.sR (h := h125) (a := p0) (k := 48) (v := some (hN (sR h120 p0 47 (some (hN (sR h115 p0 46 (some (hN (sR h110 p0 45 (some (hN (sR h105 p0 43 (some (hN (sR h100 p0 42 (some (hN h96))))))))))))))))) Prw.rf 
  replace H := obh H; obtain ⟨h128, e129, H⟩ := H
  refine e_hq e129 ?_
  refine g_aload_n dX12_init_199 rfl rfl ?_
  refine e_iconst (v := (4 : Int32)) dX12_init_200 (by decide) ?_
  replace H := og H; obtain ⟨g130, H⟩ := H
  refine e_newa (kd := 17) rfl (by decide) la_boolean (by decide) (by decide) dX12_init_201 ?_
  have e131 := Prw.nw (h := h128) (kd := 17) (ln := (4 : Int32).toNatClampNeg) (ns := (4 : Int32).toNatClampNeg) Prw.rf g130
  replace H := obh H; obtain ⟨h132, e133, H⟩ := H
  refine e_hq e133 ?_
  refine e_putR (kT e133 (e131.k (kT e129 (e127.k (kT e126 (e124.k (e122.k (kT e121 (e119.k (e117.k (kT e116 (e114.k (e112.k (kT e111 (e109.k (e107.k (kT e106 (e104.k (e102.k (kT e101 (e99.k (kT e97 (e95.k (kT e94 (e92.k (e90.k (kT e89 (e87.k (e85.k (kT e84 (e82.k (e80.k (kT e79 (e77.k (e75.k (kT e74 (e72.k (e70.k (kT e69 (e67.k (kT e65 (e63.k (kT e62 (e60.k (e58.k (kT e57 (e55.k (e53.k (kT e52 (e50.k (e48.k (kT e47 (e45.k (e43.k (kT e42 (e40.k (e38.k (kT e37 (e35.k (kT e33 (e31.k (kT e30 (e28.k (e26.k (kT e25 (e23.k (e21.k (kT e20 (e18.k (e16.k (kT e15 (e13.k (e11.k (kT e10 (e8.k (e6.k g5 (by decide)) (by decide))) (by decide)) (by decide))) (by decide)) (by decide))) (by decide)) (by decide))) (by decide)) (by decide))) (by decide))) (by decide))) (by decide)) (by decide))) (by decide)) (by decide))) (by decide)) (by decide))) (by decide)) (by decide))) (by decide)) (by decide))) (by decide))) (by decide))) (by decide)) (by decide))) (by decide)) (by decide))) (by decide)) (by decide))) (by decide)) (by decide))) (by decide)) (by decide))) (by decide))) (by decide))) (by decide)) (by decide))) (by decide)) (by decide))) (by decide)) (by decide))) (by decide)) (by decide))) (by decide)) (by decide))) (by decide))) (by decide))) fpX12_86_13i (by first | exact Or.inl ⟨_, rfl⟩ | exact Or.inr ⟨_, rfl⟩) dX12_init_203 ?_
  have e134 := Prw.sR (h := h132) (a := p0) (k := 53) (v := some (hN h128)) Prw.rf 
  refine g_aload_n dX12_init_206 rfl rfl ?_
  refine e_iconst (v := (4 : Int32)) dX12_init_207 (by decide) ?_
  replace H := og H; obtain ⟨g135, H⟩ := H
  refine e_newa (kd := 15) rfl (by decide) la_int (by decide) (by decide) dX12_init_208 ?_
  have e136 := Prw.nw (h := (sR h132 p0 53 (some (hN h128)))) (kd := 15) (ln := (4 : Int32).toNatClampNeg) (ns := (4 : Int32).toNatClampNeg) Prw.rf g135
  replace H := obh H; obtain ⟨h137, e138, H⟩ := H
  refine e_hq e138 ?_
  refine e_putR (kT e138 (e136.k (e134.k (kT e133 (e131.k (kT e129 (e127.k (kT e126 (e124.k (e122.k (kT e121 (e119.k (e117.k (kT e116 (e114.k (e112.k (kT e111 (e109.k (e107.k (kT e106 (e104.k (e102.k (kT e101 (e99.k (kT e97 (e95.k (kT e94 (e92.k (e90.k (kT e89 (e87.k (e85.k (kT e84 (e82.k (e80.k (kT e79 (e77.k (e75.k (kT e74 (e72.k (e70.k (kT e69 (e67.k (kT e65 (e63.k (kT e62 (e60.k (e58.k (kT e57 (e55.k (e53.k (kT e52 (e50.k (e48.k (kT e47 (e45.k (e43.k (kT e42 (e40.k (e38.k (kT e37 (e35.k (kT e33 (e31.k (kT e30 (e28.k (e26.k (kT e25 (e23.k (e21.k (kT e20 (e18.k (e16.k (kT e15 (e13.k (e11.k (kT e10 (e8.k (e6.k g5 (by decide)) (by decide))) (by decide)) (by decide))) (by decide)) (by decide))) (by decide)) (by decide))) (by decide)) (by decide))) (by decide))) (by decide))) (by decide)) (by decide))) (by decide)) (by decide))) (by decide)) (by decide))) (by decide)) (by decide))) (by decide)) (by decide))) (by decide))) (by decide))) (by decide)) (by decide))) (by decide)) (by decide))) (by decide)) (by decide))) (by decide)) (by decide))) (by decide)) (by decide))) (by decide))) (by decide))) (by decide)) (by decide))) (by decide)) (by decide))) (by decide)) (by decide))) (by decide)) (by decide))) (by decide)) (by decide))) (by decide))) (by decide))) (by decide)) (by decide))) fpX12_90_13i (by first | exact Or.inl ⟨_, rfl⟩ | exact Or.inr ⟨_, rfl⟩) dX12_init_210 ?_
  have e139 := Prw.sR (h := h137) (a := p0) (k := 54) (v := some (hN (sR h132 p0 53 (some (hN h128))))) Prw.rf 
  refine g_aload_n dX12_init_213 rfl rfl ?_
  refine e_iconst (v := (4 : Int32)) dX12_init_214 (by decide) ?_
  replace H := og H; obtain ⟨g140, H⟩ := H
  refine e_newa (kd := 15) rfl (by decide) la_int (by decide) (by decide) dX12_init_215 ?_
  have e141 := Prw.nw (h := (sR h137 p0 54 (some (hN (sR h132 p0 53 (some (hN h128))))))) (kd := 15) (ln := (4 : Int32).toNatClampNeg) (ns := (4 : Int32).toNatClampNeg) Prw.rf g140
  replace H := obh H; obtain ⟨h142, e143, H⟩ := H
  refine e_hq e143 ?_
  refine e_putR (kT e143 (e141.k (e139.k (kT e138 (e136.k (e134.k (kT e133 (e131.k (kT e129 (e127.k (kT e126 (e124.k (e122.k (kT e121 (e119.k (e117.k (kT e116 (e114.k (e112.k (kT e111 (e109.k (e107.k (kT e106 (e104.k (e102.k (kT e101 (e99.k (kT e97 (e95.k (kT e94 (e92.k (e90.k (kT e89 (e87.k (e85.k (kT e84 (e82.k (e80.k (kT e79 (e77.k (e75.k (kT e74 (e72.k (e70.k (kT e69 (e67.k (kT e65 (e63.k (kT e62 (e60.k (e58.k (kT e57 (e55.k (e53.k (kT e52 (e50.k (e48.k (kT e47 (e45.k (e43.k (kT e42 (e40.k (e38.k (kT e37 (e35.k (kT e33 (e31.k (kT e30 (e28.k (e26.k (kT e25 (e23.k (e21.k (kT e20 (e18.k (e16.k (kT e15 (e13.k (e11.k (kT e10 (e8.k (e6.k g5 (by decide)) (by decide))) (by decide)) (by decide))) (by decide)) (by decide))) (by decide)) (by decide))) (by decide)) (by decide))) (by decide))) (by decide))) (by decide)) (by decide))) (by decide)) (by decide))) (by decide)) (by decide))) (by decide)) (by decide))) (by decide)) (by decide))) (by decide))) (by decide))) (by decide)) (by decide))) (by decide)) (by decide))) (by decide)) (by decide))) (by decide)) (by decide))) (by decide)) (by decide))) (by decide))) (by decide))) (by decide)) (by decide))) (by decide)) (by decide))) (by decide)) (by decide))) (by decide)) (by decide))) (by decide)) (by decide))) (by decide))) (by decide))) (by decide)) (by decide))) (by decide)) (by decide))) fpX12_93_13i (by first | exact Or.inl ⟨_, rfl⟩ | exact Or.inr ⟨_, rfl⟩) dX12_init_217 ?_
  have e144 := Prw.sR (h := h142) (a := p0) (k := 55) (v := some (hN (sR h137 p0 54 (some (hN (sR h132 p0 53 (some (hN h128)))))))) Prw.rf 
  refine g_aload_n dX12_init_220 rfl rfl ?_
  refine e_sipush (v := (160 : Int32)) dX12_init_221 (by decide) ?_
  replace H := og H; obtain ⟨g145, H⟩ := H
  refine e_newa (kd := 15) rfl (by decide) la_int (by decide) (by decide) dX12_init_224 ?_
  have e146 := Prw.nw (h := (sR h142 p0 55 (some (hN (sR h137 p0 54 (some (hN (sR h132 p0 53 (some (hN h128)))))))))) (kd := 15) (ln := (160 : Int32).toNatClampNeg) (ns := (160 : Int32).toNatClampNeg) Prw.rf g145
  replace H := obh H; obtain ⟨h147, e148, H⟩ := H
  refine e_hq e148 ?_
  refine e_putR (kT e148 (e146.k (e144.k (kT e143 (e141.k (e139.k (kT e138 (e136.k (e134.k (kT e133 (e131.k (kT e129 (e127.k (kT e126 (e124.k (e122.k (kT e121 (e119.k (e117.k (kT e116 (e114.k (e112.k (kT e111 (e109.k (e107.k (kT e106 (e104.k (e102.k (kT e101 (e99.k (kT e97 (e95.k (kT e94 (e92.k (e90.k (kT e89 (e87.k (e85.k (kT e84 (e82.k (e80.k (kT e79 (e77.k (e75.k (kT e74 (e72.k (e70.k (kT e69 (e67.k (kT e65 (e63.k (kT e62 (e60.k (e58.k (kT e57 (e55.k (e53.k (kT e52 (e50.k (e48.k (kT e47 (e45.k (e43.k (kT e42 (e40.k (e38.k (kT e37 (e35.k (kT e33 (e31.k (kT e30 (e28.k (e26.k (kT e25 (e23.k (e21.k (kT e20 (e18.k (e16.k (kT e15 (e13.k (e11.k (kT e10 (e8.k (e6.k g5 (by decide)) (by decide))) (by decide)) (by decide))) (by decide)) (by decide))) (by decide)) (by decide))) (by decide)) (by decide))) (by decide))) (by decide))) (by decide)) (by decide))) (by decide)) (by decide))) (by decide)) (by decide))) (by decide)) (by decide))) (by decide)) (by decide))) (by decide))) (by decide))) (by decide)) (by decide))) (by decide)) (by decide))) (by decide)) (by decide))) (by decide)) (by decide))) (by decide)) (by decide))) (by decide))) (by decide))) (by decide)) (by decide))) (by decide)) (by decide))) (by decide)) (by decide))) (by decide)) (by decide))) (by decide)) (by decide))) (by decide))) (by decide))) (by decide)) (by decide))) (by decide)) (by decide))) (by decide)) (by decide))) fpX12_96_13i (by first | exact Or.inl ⟨_, rfl⟩ | exact Or.inr ⟨_, rfl⟩) dX12_init_226 ?_
  have e149 := Prw.sR (h := h147) (a := p0) (k := 56) (v := some (hN (sR h142 p0 55 (some (hN (sR h137 p0 54 (some (hN (sR h132 p0 53 (some (hN h128))))))))))) Prw.rf 
  refine g_aload_n dX12_init_229 rfl rfl ?_
  refine e_iconst (v := (0 : Int32)) dX12_init_230 (by decide) ?_
  refine e_ldc2 (v := (8100957002595857001 : Int64)) lkX12_99 dX12_init_231 ?_
  replace H := ob H; obtain ⟨q150, c151, H⟩ := H
  refine v0 (e149.k (kT e148 (e146.k (e144.k (kT e143 (e141.k (e139.k (kT e138 (e136.k (e134.k (kT e133 (e131.k (kT e129 (e127.k (kT e126 (e124.k (e122.k (kT e121 (e119.k (e117.k (kT e116 (e114.k (e112.k (kT e111 (e109.k (e107.k (kT e106 (e104.k (e102.k (kT e101 (e99.k (kT e97 (e95.k (kT e94 (e92.k (e90.k (kT e89 (e87.k (e85.k (kT e84 (e82.k (e80.k (kT e79 (e77.k (e75.k (kT e74 (e72.k (e70.k (kT e69 (e67.k (kT e65 (e63.k (kT e62 (e60.k (e58.k (kT e57 (e55.k (e53.k (kT e52 (e50.k (e48.k (kT e47 (e45.k (e43.k (kT e42 (e40.k (e38.k (kT e37 (e35.k (kT e33 (e31.k (kT e30 (e28.k (e26.k (kT e25 (e23.k (e21.k (kT e20 (e18.k (e16.k (kT e15 (e13.k (e11.k (kT e10 (e8.k (e6.k g5 (by decide)) (by decide))) (by decide)) (by decide))) (by decide)) (by decide))) (by decide)) (by decide))) (by decide)) (by decide))) (by decide))) (by decide))) (by decide)) (by decide))) (by decide)) (by decide))) (by decide)) (by decide))) (by decide)) (by decide))) (by decide)) (by decide))) (by decide))) (by decide))) (by decide)) (by decide))) (by decide)) (by decide))) (by decide)) (by decide))) (by decide)) (by decide))) (by decide)) (by decide))) (by decide))) (by decide))) (by decide)) (by decide))) (by decide)) (by decide))) (by decide)) (by decide))) (by decide)) (by decide))) (by decide)) (by decide))) (by decide))) (by decide))) (by decide)) (by decide))) (by decide)) (by decide))) (by decide)) (by decide))) (by decide)) (by decide) rfl rfl lmX12_101 liX12_spell lvX12_X12_spell msX12_spell dX12_init_234 (t_X12_spell (d + 0) c151) rfl (Nat.le_of_ble_eq_true rfl) (Nat.le_refl _) ?_
  have e153 := p_X12_spell c151
  have e152 := e153.w
  refine g_aload_n dX12_init_237 rfl rfl ?_
  refine e_bipush (v := (8 : Int32)) dX12_init_238 (by decide) ?_
  refine e_ldc2 (v := (7162166225016939620 : Int64)) lkX12_105 dX12_init_240 ?_
  replace H := ob H; obtain ⟨q154, c155, H⟩ := H
  refine v0 (e152.k (e149.k (kT e148 (e146.k (e144.k (kT e143 (e141.k (e139.k (kT e138 (e136.k (e134.k (kT e133 (e131.k (kT e129 (e127.k (kT e126 (e124.k (e122.k (kT e121 (e119.k (e117.k (kT e116 (e114.k (e112.k (kT e111 (e109.k (e107.k (kT e106 (e104.k (e102.k (kT e101 (e99.k (kT e97 (e95.k (kT e94 (e92.k (e90.k (kT e89 (e87.k (e85.k (kT e84 (e82.k (e80.k (kT e79 (e77.k (e75.k (kT e74 (e72.k (e70.k (kT e69 (e67.k (kT e65 (e63.k (kT e62 (e60.k (e58.k (kT e57 (e55.k (e53.k (kT e52 (e50.k (e48.k (kT e47 (e45.k (e43.k (kT e42 (e40.k (e38.k (kT e37 (e35.k (kT e33 (e31.k (kT e30 (e28.k (e26.k (kT e25 (e23.k (e21.k (kT e20 (e18.k (e16.k (kT e15 (e13.k (e11.k (kT e10 (e8.k (e6.k g5 (by decide)) (by decide))) (by decide)) (by decide))) (by decide)) (by decide))) (by decide)) (by decide))) (by decide)) (by decide))) (by decide))) (by decide))) (by decide)) (by decide))) (by decide)) (by decide))) (by decide)) (by decide))) (by decide)) (by decide))) (by decide)) (by decide))) (by decide))) (by decide))) (by decide)) (by decide))) (by decide)) (by decide))) (by decide)) (by decide))) (by decide)) (by decide))) (by decide)) (by decide))) (by decide))) (by decide))) (by decide)) (by decide))) (by decide)) (by decide))) (by decide)) (by decide))) (by decide)) (by decide))) (by decide)) (by decide))) (by decide))) (by decide))) (by decide)) (by decide))) (by decide)) (by decide))) (by decide)) (by decide))) (by decide)) (by decide)) (by decide) rfl rfl lmX12_101 liX12_spell lvX12_X12_spell msX12_spell dX12_init_243 (t_X12_spell (d + 0) c155) rfl (Nat.le_of_ble_eq_true rfl) (Nat.le_refl _) ?_
  have e157 := p_X12_spell c155
  have e156 := e157.w
  refine g_aload_n dX12_init_246 rfl rfl ?_
  refine e_bipush (v := (16 : Int32)) dX12_init_247 (by decide) ?_
  refine e_ldc2 (v := (8295677931991426413 : Int64)) lkX12_107 dX12_init_249 ?_
  replace H := ob H; obtain ⟨q158, c159, H⟩ := H
  refine v0 (e156.k (e152.k (e149.k (kT e148 (e146.k (e144.k (kT e143 (e141.k (e139.k (kT e138 (e136.k (e134.k (kT e133 (e131.k (kT e129 (e127.k (kT e126 (e124.k (e122.k (kT e121 (e119.k (e117.k (kT e116 (e114.k (e112.k (kT e111 (e109.k (e107.k (kT e106 (e104.k (e102.k (kT e101 (e99.k (kT e97 (e95.k (kT e94 (e92.k (e90.k (kT e89 (e87.k (e85.k (kT e84 (e82.k (e80.k (kT e79 (e77.k (e75.k (kT e74 (e72.k (e70.k (kT e69 (e67.k (kT e65 (e63.k (kT e62 (e60.k (e58.k (kT e57 (e55.k (e53.k (kT e52 (e50.k (e48.k (kT e47 (e45.k (e43.k (kT e42 (e40.k (e38.k (kT e37 (e35.k (kT e33 (e31.k (kT e30 (e28.k (e26.k (kT e25 (e23.k (e21.k (kT e20 (e18.k (e16.k (kT e15 (e13.k (e11.k (kT e10 (e8.k (e6.k g5 (by decide)) (by decide))) (by decide)) (by decide))) (by decide)) (by decide))) (by decide)) (by decide))) (by decide)) (by decide))) (by decide))) (by decide))) (by decide)) (by decide))) (by decide)) (by decide))) (by decide)) (by decide))) (by decide)) (by decide))) (by decide)) (by decide))) (by decide))) (by decide))) (by decide)) (by decide))) (by decide)) (by decide))) (by decide)) (by decide))) (by decide)) (by decide))) (by decide)) (by decide))) (by decide))) (by decide))) (by decide)) (by decide))) (by decide)) (by decide))) (by decide)) (by decide))) (by decide)) (by decide))) (by decide)) (by decide))) (by decide))) (by decide))) (by decide)) (by decide))) (by decide)) (by decide))) (by decide)) (by decide))) (by decide)) (by decide)) (by decide)) (by decide) rfl rfl lmX12_101 liX12_spell lvX12_X12_spell msX12_spell dX12_init_252 (t_X12_spell (d + 0) c159) rfl (Nat.le_of_ble_eq_true rfl) (Nat.le_refl _) ?_
  have e161 := p_X12_spell c159
  have e160 := e161.w
  refine g_aload_n dX12_init_255 rfl rfl ?_
  refine e_bipush (v := (24 : Int32)) dX12_init_256 (by decide) ?_
  refine e_ldc2 (v := (8295695524177865068 : Int64)) lkX12_109 dX12_init_258 ?_
  replace H := ob H; obtain ⟨q162, c163, H⟩ := H
  refine v0 (e160.k (e156.k (e152.k (e149.k (kT e148 (e146.k (e144.k (kT e143 (e141.k (e139.k (kT e138 (e136.k (e134.k (kT e133 (e131.k (kT e129 (e127.k (kT e126 (e124.k (e122.k (kT e121 (e119.k (e117.k (kT e116 (e114.k (e112.k (kT e111 (e109.k (e107.k (kT e106 (e104.k (e102.k (kT e101 (e99.k (kT e97 (e95.k (kT e94 (e92.k (e90.k (kT e89 (e87.k (e85.k (kT e84 (e82.k (e80.k (kT e79 (e77.k (e75.k (kT e74 (e72.k (e70.k (kT e69 (e67.k (kT e65 (e63.k (kT e62 (e60.k (e58.k (kT e57 (e55.k (e53.k (kT e52 (e50.k (e48.k (kT e47 (e45.k (e43.k (kT e42 (e40.k (e38.k (kT e37 (e35.k (kT e33 (e31.k (kT e30 (e28.k (e26.k (kT e25 (e23.k (e21.k (kT e20 (e18.k (e16.k (kT e15 (e13.k (e11.k (kT e10 (e8.k (e6.k g5 (by decide)) (by decide))) (by decide)) (by decide))) (by decide)) (by decide))) (by decide)) (by decide))) (by decide)) (by decide))) (by decide))) (by decide))) (by decide)) (by decide))) (by decide)) (by decide))) (by decide)) (by decide))) (by decide)) (by decide))) (by decide)) (by decide))) (by decide))) (by decide))) (by decide)) (by decide))) (by decide)) (by decide))) (by decide)) (by decide))) (by decide)) (by decide))) (by decide)) (by decide))) (by decide))) (by decide))) (by decide)) (by decide))) (by decide)) (by decide))) (by decide)) (by decide))) (by decide)) (by decide))) (by decide)) (by decide))) (by decide))) (by decide))) (by decide)) (by decide))) (by decide)) (by decide))) (by decide)) (by decide))) (by decide)) (by decide)) (by decide)) (by decide)) (by decide) rfl rfl lmX12_101 liX12_spell lvX12_X12_spell msX12_spell dX12_init_261 (t_X12_spell (d + 0) c163) rfl (Nat.le_of_ble_eq_true rfl) (Nat.le_refl _) ?_
  have e165 := p_X12_spell c163
  have e164 := e165.w
  refine g_aload_n dX12_init_264 rfl rfl ?_
  refine e_bipush (v := (32 : Int32)) dX12_init_265 (by decide) ?_
  refine e_ldc2 (v := (7791290272867688559 : Int64)) lkX12_111 dX12_init_267 ?_
  replace H := ob H; obtain ⟨q166, c167, H⟩ := H
  refine v0 (e164.k (e160.k (e156.k (e152.k (e149.k (kT e148 (e146.k (e144.k (kT e143 (e141.k (e139.k (kT e138 (e136.k (e134.k (kT e133 (e131.k (kT e129 (e127.k (kT e126 (e124.k (e122.k (kT e121 (e119.k (e117.k (kT e116 (e114.k (e112.k (kT e111 (e109.k (e107.k (kT e106 (e104.k (e102.k (kT e101 (e99.k (kT e97 (e95.k (kT e94 (e92.k (e90.k (kT e89 (e87.k (e85.k (kT e84 (e82.k (e80.k (kT e79 (e77.k (e75.k (kT e74 (e72.k (e70.k (kT e69 (e67.k (kT e65 (e63.k (kT e62 (e60.k (e58.k (kT e57 (e55.k (e53.k (kT e52 (e50.k (e48.k (kT e47 (e45.k (e43.k (kT e42 (e40.k (e38.k (kT e37 (e35.k (kT e33 (e31.k (kT e30 (e28.k (e26.k (kT e25 (e23.k (e21.k (kT e20 (e18.k (e16.k (kT e15 (e13.k (e11.k (kT e10 (e8.k (e6.k g5 (by decide)) (by decide))) (by decide)) (by decide))) (by decide)) (by decide))) (by decide)) (by decide))) (by decide)) (by decide))) (by decide))) (by decide))) (by decide)) (by decide))) (by decide)) (by decide))) (by decide)) (by decide))) (by decide)) (by decide))) (by decide)) (by decide))) (by decide))) (by decide))) (by decide)) (by decide))) (by decide)) (by decide))) (by decide)) (by decide))) (by decide)) (by decide))) (by decide)) (by decide))) (by decide))) (by decide))) (by decide)) (by decide))) (by decide)) (by decide))) (by decide)) (by decide))) (by decide)) (by decide))) (by decide)) (by decide))) (by decide))) (by decide))) (by decide)) (by decide))) (by decide)) (by decide))) (by decide)) (by decide))) (by decide)) (by decide)) (by decide)) (by decide)) (by decide)) (by decide) rfl rfl lmX12_101 liX12_spell lvX12_X12_spell msX12_spell dX12_init_270 (t_X12_spell (d + 0) c167) rfl (Nat.le_of_ble_eq_true rfl) (Nat.le_refl _) ?_
  have e169 := p_X12_spell c167
  have e168 := e169.w
  refine g_aload_n dX12_init_273 rfl rfl ?_
  refine e_bipush (v := (40 : Int32)) dX12_init_274 (by decide) ?_
  refine e_ldc2 (v := (7234033483731987557 : Int64)) lkX12_113 dX12_init_276 ?_
  replace H := ob H; obtain ⟨q170, c171, H⟩ := H
  refine v0 (e168.k (e164.k (e160.k (e156.k (e152.k (e149.k (kT e148 (e146.k (e144.k (kT e143 (e141.k (e139.k (kT e138 (e136.k (e134.k (kT e133 (e131.k (kT e129 (e127.k (kT e126 (e124.k (e122.k (kT e121 (e119.k (e117.k (kT e116 (e114.k (e112.k (kT e111 (e109.k (e107.k (kT e106 (e104.k (e102.k (kT e101 (e99.k (kT e97 (e95.k (kT e94 (e92.k (e90.k (kT e89 (e87.k (e85.k (kT e84 (e82.k (e80.k (kT e79 (e77.k (e75.k (kT e74 (e72.k (e70.k (kT e69 (e67.k (kT e65 (e63.k (kT e62 (e60.k (e58.k (kT e57 (e55.k (e53.k (kT e52 (e50.k (e48.k (kT e47 (e45.k (e43.k (kT e42 (e40.k (e38.k (kT e37 (e35.k (kT e33 (e31.k (kT e30 (e28.k (e26.k (kT e25 (e23.k (e21.k (kT e20 (e18.k (e16.k (kT e15 (e13.k (e11.k (kT e10 (e8.k (e6.k g5 (by decide)) (by decide))) (by decide)) (by decide))) (by decide)) (by decide))) (by decide)) (by decide))) (by decide)) (by decide))) (by decide))) (by decide))) (by decide)) (by decide))) (by decide)) (by decide))) (by decide)) (by decide))) (by decide)) (by decide))) (by decide)) (by decide))) (by decide))) (by decide))) (by decide)) (by decide))) (by decide)) (by decide))) (by decide)) (by decide))) (by decide)) (by decide))) (by decide)) (by decide))) (by decide))) (by decide))) (by decide)) (by decide))) (by decide)) (by decide))) (by decide)) (by decide))) (by decide)) (by decide))) (by decide)) (by decide))) (by decide))) (by decide))) (by decide)) (by decide))) (by decide)) (by decide))) (by decide)) (by decide))) (by decide)) (by decide)) (by decide)) (by decide)) (by decide)) (by decide)) (by decide) rfl rfl lmX12_101 liX12_spell lvX12_X12_spell msX12_spell dX12_init_279 (t_X12_spell (d + 0) c171) rfl (Nat.le_of_ble_eq_true rfl) (Nat.le_refl _) ?_
  have e173 := p_X12_spell c171
  have e172 := e173.w
  refine g_aload_n dX12_init_282 rfl rfl ?_
  refine e_bipush (v := (48 : Int32)) dX12_init_283 (by decide) ?_
  refine e_ldc2 (v := (7022911857885199136 : Int64)) lkX12_115 dX12_init_285 ?_
  replace H := ob H; obtain ⟨q174, c175, H⟩ := H
  refine v0 (e172.k (e168.k (e164.k (e160.k (e156.k (e152.k (e149.k (kT e148 (e146.k (e144.k (kT e143 (e141.k (e139.k (kT e138 (e136.k (e134.k (kT e133 (e131.k (kT e129 (e127.k (kT e126 (e124.k (e122.k (kT e121 (e119.k (e117.k (kT e116 (e114.k (e112.k (kT e111 (e109.k (e107.k (kT e106 (e104.k (e102.k (kT e101 (e99.k (kT e97 (e95.k (kT e94 (e92.k (e90.k (kT e89 (e87.k (e85.k (kT e84 (e82.k (e80.k (kT e79 (e77.k (e75.k (kT e74 (e72.k (e70.k (kT e69 (e67.k (kT e65 (e63.k (kT e62 (e60.k (e58.k (kT e57 (e55.k (e53.k (kT e52 (e50.k (e48.k (kT e47 (e45.k (e43.k (kT e42 (e40.k (e38.k (kT e37 (e35.k (kT e33 (e31.k (kT e30 (e28.k (e26.k (kT e25 (e23.k (e21.k (kT e20 (e18.k (e16.k (kT e15 (e13.k (e11.k (kT e10 (e8.k (e6.k g5 (by decide)) (by decide))) (by decide)) (by decide))) (by decide)) (by decide))) (by decide)) (by decide))) (by decide)) (by decide))) (by decide))) (by decide))) (by decide)) (by decide))) (by decide)) (by decide))) (by decide)) (by decide))) (by decide)) (by decide))) (by decide)) (by decide))) (by decide))) (by decide))) (by decide)) (by decide))) (by decide)) (by decide))) (by decide)) (by decide))) (by decide)) (by decide))) (by decide)) (by decide))) (by decide))) (by decide))) (by decide)) (by decide))) (by decide)) (by decide))) (by decide)) (by decide))) (by decide)) (by decide))) (by decide)) (by decide))) (by decide))) (by decide))) (by decide)) (by decide))) (by decide)) (by decide))) (by decide)) (by decide))) (by decide)) (by decide)) (by decide)) (by decide)) (by decide)) (by decide)) (by decide)) (by decide) rfl rfl lmX12_101 liX12_spell lvX12_X12_spell msX12_spell dX12_init_288 (t_X12_spell (d + 0) c175) rfl (Nat.le_of_ble_eq_true rfl) (Nat.le_refl _) ?_
  have e177 := p_X12_spell c175
  have e176 := e177.w
  refine g_aload_n dX12_init_291 rfl rfl ?_
  replace H := oom H; obtain ⟨-, H⟩ | ⟨b178, e179, H⟩ := H
  · exact nz H
  refine e_getR (e176.k (e172.k (e168.k (e164.k (e160.k (e156.k (e152.k (e149.k (kT e148 (e146.k (e144.k (kT e143 (e141.k (e139.k (kT e138 (e136.k (e134.k (kT e133 (e131.k (kT e129 (e127.k (kT e126 (e124.k (e122.k (kT e121 (e119.k (e117.k (kT e116 (e114.k (e112.k (kT e111 (e109.k (e107.k (kT e106 (e104.k (e102.k (kT e101 (e99.k (kT e97 (e95.k (kT e94 (e92.k (e90.k (kT e89 (e87.k (e85.k (kT e84 (e82.k (e80.k (kT e79 (e77.k (e75.k (kT e74 (e72.k (e70.k (kT e69 (e67.k (kT e65 (e63.k (kT e62 (e60.k (e58.k (kT e57 (e55.k (e53.k (kT e52 (e50.k (e48.k (kT e47 (e45.k (e43.k (kT e42 (e40.k (e38.k (kT e37 (e35.k (kT e33 (e31.k (kT e30 (e28.k (e26.k (kT e25 (e23.k (e21.k (kT e20 (e18.k (e16.k (kT e15 (e13.k (e11.k (kT e10 (e8.k (e6.k g5 (by decide)) (by decide))) (by decide)) (by decide))) (by decide)) (by decide))) (by decide)) (by decide))) (by decide)) (by decide))) (by decide))) (by decide))) (by decide)) (by decide))) (by decide)) (by decide))) (by decide)) (by decide))) (by decide)) (by decide))) (by decide)) (by decide))) (by decide))) (by decide))) (by decide)) (by decide))) (by decide)) (by decide))) (by decide)) (by decide))) (by decide)) (by decide))) (by decide)) (by decide))) (by decide))) (by decide))) (by decide)) (by decide))) (by decide)) (by decide))) (by decide)) (by decide))) (by decide)) (by decide))) (by decide)) (by decide))) (by decide))) (by decide))) (by decide)) (by decide))) (by decide)) (by decide))) (by decide)) (by decide))) (by decide)) (by decide)) (by decide)) (by decide)) (by decide)) (by decide)) (by decide)) (by decide)) flX12_17_13 dX12_init_292 rfl e179 ?_
  refine e_iconst (v := (0 : Int32)) dX12_init_295 (by decide) ?_
  refine e_bipush (v := (56 : Int32)) dX12_init_296 (by decide) ?_
  replace H := og H; obtain ⟨g180, H⟩ := H
  replace H := og H; obtain ⟨g181, H⟩ := H
  refine e_iast g180 (ixb_y rfl g181) dX12_init_298 ?_
  refine g_aload_n dX12_init_299 rfl rfl ?_
  refine e_iconst (v := (1 : Int32)) dX12_init_300 (by decide) ?_
  refine e_putI (e176.k (e172.k (e168.k (e164.k (e160.k (e156.k (e152.k (e149.k (kT e148 (e146.k (e144.k (kT e143 (e141.k (e139.k (kT e138 (e136.k (e134.k (kT e133 (e131.k (kT e129 (e127.k (kT e126 (e124.k (e122.k (kT e121 (e119.k (e117.k (kT e116 (e114.k (e112.k (kT e111 (e109.k (e107.k (kT e106 (e104.k (e102.k (kT e101 (e99.k (kT e97 (e95.k (kT e94 (e92.k (e90.k (kT e89 (e87.k (e85.k (kT e84 (e82.k (e80.k (kT e79 (e77.k (e75.k (kT e74 (e72.k (e70.k (kT e69 (e67.k (kT e65 (e63.k (kT e62 (e60.k (e58.k (kT e57 (e55.k (e53.k (kT e52 (e50.k (e48.k (kT e47 (e45.k (e43.k (kT e42 (e40.k (e38.k (kT e37 (e35.k (kT e33 (e31.k (kT e30 (e28.k (e26.k (kT e25 (e23.k (e21.k (kT e20 (e18.k (e16.k (kT e15 (e13.k (e11.k (kT e10 (e8.k (e6.k g5 (by decide)) (by decide))) (by decide)) (by decide))) (by decide)) (by decide))) (by decide)) (by decide))) (by decide)) (by decide))) (by decide))) (by decide))) (by decide)) (by decide))) (by decide)) (by decide))) (by decide)) (by decide))) (by decide)) (by decide))) (by decide)) (by decide))) (by decide))) (by decide))) (by decide)) (by decide))) (by decide)) (by decide))) (by decide)) (by decide))) (by decide)) (by decide))) (by decide)) (by decide))) (by decide))) (by decide))) (by decide)) (by decide))) (by decide)) (by decide))) (by decide)) (by decide))) (by decide)) (by decide))) (by decide)) (by decide))) (by decide))) (by decide))) (by decide)) (by decide))) (by decide)) (by decide))) (by decide)) (by decide))) (by decide)) (by decide)) (by decide)) (by decide)) (by decide)) (by decide)) (by decide)) (by decide)) fpX12_117_13i rfl dX12_init_301 ?_
  obtain rfl := Option.some.inj H
  exact z_vret rfl dX12_init_304 rfl rfl
-- X12_isStall
def f_X12_isStall (p1 : Int32) (h : HS) : Option Bool := (Option.bind (f_X12_in p1.toInt64 (0 : Int64) ((hI h 60 14) - (1 : Int32)).toInt64) (fun q1 => (some q1)))
set_option maxHeartbeats 4000000 in
set_option maxRecDepth 20000 in
theorem t_X12_isStall {G : GE} (d : Nat) {p1 : Int32} {h : HS} {q : Bool} (hY : LY TM h) (H : f_X12_isStall p1 h = some q) : CE G (d + 1) yX12_isStall miX12_isStall [.ref 60, .int p1] h (some (.int (b2i q))) (h) := by
  unfold f_X12_isStall at H
  refine ce_of rfl (by decide) (fun q => by first | rfl | cases q) (Nat.le_of_ble_eq_true rfl) rfl ?_
  refine e_iload_n dX12_isStall_0 rfl ?_
  refine e_i2l dX12_isStall_1 ?_
  refine e_lconst (v := (0 : Int64)) dX12_isStall_2 (by decide) ?_
  refine g_aload_n dX12_isStall_3 rfl rfl ?_
  refine e_getI (hY.t 0 rfl) flX12_122_13 dX12_isStall_4 rfl ?_
  refine e_iconst (v := (1 : Int32)) dX12_isStall_7 (by decide) ?_
  refine e_isub dX12_isStall_8 ?_
  refine e_i2l dX12_isStall_9 ?_
  replace H := ob H; obtain ⟨q1, c2, H⟩ := H
  refine s1 lmX12_125 lsX12_in msX12_in dX12_isStall_10 (t_X12_in (d + 0) c2) rfl (Nat.le_of_ble_eq_true rfl) (Nat.le_refl _) ?_
  obtain rfl := Option.some.inj H
  exact z_bret rfl dX12_isStall_13 rfl rfl
-- X12_isHand
def f_X12_isHand (p1 : Int32) (h : HS) : Option Bool := (Option.bind (f_X12_in p1.toInt64 (0 : Int64) ((hI h 60 18) - (1 : Int32)).toInt64) (fun q1 => (some q1)))
set_option maxHeartbeats 4000000 in
set_option maxRecDepth 20000 in
theorem t_X12_isHand {G : GE} (d : Nat) {p1 : Int32} {h : HS} {q : Bool} (hY : LY TM h) (H : f_X12_isHand p1 h = some q) : CE G (d + 1) yX12_isHand miX12_isHand [.ref 60, .int p1] h (some (.int (b2i q))) (h) := by
  unfold f_X12_isHand at H
  refine ce_of rfl (by decide) (fun q => by first | rfl | cases q) (Nat.le_of_ble_eq_true rfl) rfl ?_
  refine e_iload_n dX12_isHand_0 rfl ?_
  refine e_i2l dX12_isHand_1 ?_
  refine e_lconst (v := (0 : Int64)) dX12_isHand_2 (by decide) ?_
  refine g_aload_n dX12_isHand_3 rfl rfl ?_
  refine e_getI (hY.t 0 rfl) flX12_129_13 dX12_isHand_4 rfl ?_
  refine e_iconst (v := (1 : Int32)) dX12_isHand_7 (by decide) ?_
  refine e_isub dX12_isHand_8 ?_
  refine e_i2l dX12_isHand_9 ?_
  replace H := ob H; obtain ⟨q1, c2, H⟩ := H
  refine s1 lmX12_125 lsX12_in msX12_in dX12_isHand_10 (t_X12_in (d + 0) c2) rfl (Nat.le_of_ble_eq_true rfl) (Nat.le_refl _) ?_
  obtain rfl := Option.some.inj H
  exact z_bret rfl dX12_isHand_13 rfl rfl
-- X12_isPlace
def f_X12_isPlace (p0 : Int32) : Option Bool := (if p0 < 0 then (some false) else (if (20 : Int32) ≤ (p0 / (100 : Int32)) then (some false) else (if (20 : Int32) ≤ (p0 - p0 / (100 : Int32) * (100 : Int32)) then (some false) else (some true))))
set_option maxHeartbeats 4000000 in
set_option maxRecDepth 20000 in
theorem t_X12_isPlace {G : GE} (d : Nat) {p0 : Int32} {h : HS} {q : Bool} (H : f_X12_isPlace p0 = some q) : CE G (d + 0) yX12_isPlace miX12_isPlace [.int p0] h (some (.int (b2i q))) (h) := by
  unfold f_X12_isPlace at H
  refine ce_of rfl (by decide) (fun q => by first | rfl | cases q) (Nat.le_of_ble_eq_true rfl) rfl ?_
  refine e_iload_n dX12_isPlace_0 rfl ?_
  refine e_if_lt (tgt := 26) dX12_isPlace_1 (by decide) (fun c1 => ?_) (fun c1 => ?_)
  · replace H := ot c1 H
    refine e_iconst (v := (0 : Int32)) dX12_isPlace_26 (by decide) ?_
    obtain rfl := Option.some.inj H
    exact z_iret rfl rfl dX12_isPlace_27 rfl rfl
  · replace H := of_ c1 H
    refine e_iload_n dX12_isPlace_4 rfl ?_
    refine e_bipush (v := (100 : Int32)) dX12_isPlace_5 (by decide) ?_
    refine e_idiv dX12_isPlace_7 (by decide) ?_
    refine e_bipush (v := (20 : Int32)) dX12_isPlace_8 (by decide) ?_
    refine e_icmp_ge (tgt := 26) dX12_isPlace_10 (by decide) (fun c2 => ?_) (fun c2 => ?_)
    · replace H := ot c2 H
      refine e_iconst (v := (0 : Int32)) dX12_isPlace_26 (by decide) ?_
      obtain rfl := Option.some.inj H
      exact z_iret rfl rfl dX12_isPlace_27 rfl rfl
    · replace H := of_ c2 H
      refine e_iload_n dX12_isPlace_13 rfl ?_
      refine e_bipush (v := (100 : Int32)) dX12_isPlace_14 (by decide) ?_
      refine e_irem dX12_isPlace_16 (by decide) ?_
      refine e_bipush (v := (20 : Int32)) dX12_isPlace_17 (by decide) ?_
      refine e_icmp_ge (tgt := 26) dX12_isPlace_19 (by decide) (fun c3 => ?_) (fun c3 => ?_)
      · replace H := ot c3 H
        refine e_iconst (v := (0 : Int32)) dX12_isPlace_26 (by decide) ?_
        obtain rfl := Option.some.inj H
        exact z_iret rfl rfl dX12_isPlace_27 rfl rfl
      · replace H := of_ c3 H
        refine e_iconst (v := (1 : Int32)) dX12_isPlace_22 (by decide) ?_
        refine e_goto (tgt := 27) dX12_isPlace_23 (by decide) ?_
        obtain rfl := Option.some.inj H
        exact z_iret rfl rfl dX12_isPlace_27 rfl rfl
-- X12_stall
def f_X12_stall (p1 : Int32) (p2 : Int32) (p3 : Int32) (p4 : Int32) (h : HS) : Option (Int32 × HS) := (Option.bind (f_X12_in p1.toInt64 (0 : Int64) (5 : Int64)) (fun q1 => (if q1 = true then (Option.bind (f_X12_isPlace p2) (fun q4 => (if q4 = true then (Option.bind (f_X12_in p3.toInt64 (0 : Int64) (9 : Int64)) (fun q7 => (if q7 = true then (Option.bind (f_X12_in p4.toInt64 (1 : Int64) (99 : Int64)) (fun q10 => (if q10 = true then (if (hI h 60 14) = (8 : Int32) then (some ((-4 : Int32), h)) else (if ixb (hI h 60 14) 8 = true then (if ixb (hI (sI h 64 (hI h 60 14).toNatClampNeg p1) 60 14) 8 = true then (if ixb (hI (sI (sI h 64 (hI h 60 14).toNatClampNeg p1) 65 (hI (sI h 64 (hI h 60 14).toNatClampNeg p1) 60 14).toNatClampNeg p2) 60 14) 8 = true then (bh (sI (sI (sI h 64 (hI h 60 14).toNatClampNeg p1) 65 (hI (sI h 64 (hI h 60 14).toNatClampNeg p1) 60 14).toNatClampNeg p2) 66 (hI (sI (sI h 64 (hI h 60 14).toNatClampNeg p1) 65 (hI (sI h 64 (hI h 60 14).toNatClampNeg p1) 60 14).toNatClampNeg p2) 60 14).toNatClampNeg p3) (fun h17 => (if ixb (hI h17 60 14) 8 = true then (if ixb (hI (sI h17 67 (hI h17 60 14).toNatClampNeg p4) 60 14) 8 = true then (if ixb (hI (sI (sI h17 67 (hI h17 60 14).toNatClampNeg p4) 68 (hI (sI h17 67 (hI h17 60 14).toNatClampNeg p4) 60 14).toNatClampNeg (0 : Int32)) 60 14) 8 = true then (bh (sI (sI (sI h17 67 (hI h17 60 14).toNatClampNeg p4) 68 (hI (sI h17 67 (hI h17 60 14).toNatClampNeg p4) 60 14).toNatClampNeg (0 : Int32)) 69 (hI (sI (sI h17 67 (hI h17 60 14).toNatClampNeg p4) 68 (hI (sI h17 67 (hI h17 60 14).toNatClampNeg p4) 60 14).toNatClampNeg (0 : Int32)) 60 14).toNatClampNeg (0 : Int32)) (fun h23 => (if ixb (hI h23 60 14) 8 = true then (some (((hI (sI (sI h23 70 (hI h23 60 14).toNatClampNeg (0 : Int32)) 60 14 ((hI (sI h23 70 (hI h23 60 14).toNatClampNeg (0 : Int32)) 60 14) + (1 : Int32))) 60 14) - (1 : Int32)), (sI (sI h23 70 (hI h23 60 14).toNatClampNeg (0 : Int32)) 60 14 ((hI (sI h23 70 (hI h23 60 14).toNatClampNeg (0 : Int32)) 60 14) + (1 : Int32))))) else none))) else none) else none) else none))) else none) else none) else none)) else (some ((-2 : Int32), h))))) else (some ((-2 : Int32), h))))) else (some ((-2 : Int32), h))))) else (some ((-2 : Int32), h)))))
set_option maxHeartbeats 4000000 in
set_option maxRecDepth 20000 in
theorem p_X12_stall {p1 : Int32} {p2 : Int32} {p3 : Int32} {p4 : Int32} {h : HS} {q : (Int32 × HS)} (H : f_X12_stall p1 p2 p3 p4 h = some q) : Pr h q.2 := by
  unfold f_X12_stall at H
  replace H := ob H; obtain ⟨q1, c2, H⟩ := H
  replace H := oi H; obtain ⟨c3, H⟩ | ⟨c3, H⟩ := H
  · replace H := ob H; obtain ⟨q4, c5, H⟩ := H
    replace H := oi H; obtain ⟨c6, H⟩ | ⟨c6, H⟩ := H
    · replace H := ob H; obtain ⟨q7, c8, H⟩ := H
      replace H := oi H; obtain ⟨c9, H⟩ | ⟨c9, H⟩ := H
      · replace H := ob H; obtain ⟨q10, c11, H⟩ := H
        replace H := oi H; obtain ⟨c12, H⟩ | ⟨c12, H⟩ := H
        · replace H := oi H; obtain ⟨c13, H⟩ | ⟨c13, H⟩ := H
          · obtain rfl := Option.some.inj H
            exact Pr.rf
          · replace H := og H; obtain ⟨g14, H⟩ := H
            replace H := og H; obtain ⟨g15, H⟩ := H
            replace H := og H; obtain ⟨g16, H⟩ := H
            replace H := obh H; obtain ⟨h17, e18, H⟩ := H
            replace H := og H; obtain ⟨g20, H⟩ := H
            replace H := og H; obtain ⟨g21, H⟩ := H
            replace H := og H; obtain ⟨g22, H⟩ := H
            replace H := obh H; obtain ⟨h23, e24, H⟩ := H
            replace H := og H; obtain ⟨g26, H⟩ := H
            obtain rfl := Option.some.inj H
            exact (kP e24 (kP e18 Pr.rf))
        · obtain rfl := Option.some.inj H
          exact Pr.rf
      · obtain rfl := Option.some.inj H
        exact Pr.rf
    · obtain rfl := Option.some.inj H
      exact Pr.rf
  · obtain rfl := Option.some.inj H
    exact Pr.rf
set_option maxHeartbeats 4000000 in
set_option maxRecDepth 20000 in
theorem t_X12_stall {G : GE} (d : Nat) {p1 : Int32} {p2 : Int32} {p3 : Int32} {p4 : Int32} {h : HS} {q : (Int32 × HS)} (hY : LY TM h) (H : f_X12_stall p1 p2 p3 p4 h = some q) : CE G (d + 1) yX12_stall miX12_stall [.ref 60, .int p1, .int p2, .int p3, .int p4] h (some (.int q.1)) (q.2) := by
  unfold f_X12_stall at H
  refine ce_of rfl (by decide) (fun q => by first | rfl | cases q) (Nat.le_of_ble_eq_true rfl) rfl ?_
  refine e_iload_n dX12_stall_0 rfl ?_
  refine e_i2l dX12_stall_1 ?_
  refine e_lconst (v := (0 : Int64)) dX12_stall_2 (by decide) ?_
  refine e_ldc2 (v := (5 : Int64)) lkX12_132 dX12_stall_3 ?_
  replace H := ob H; obtain ⟨q1, c2, H⟩ := H
  refine s1 lmX12_125 lsX12_in msX12_in dX12_stall_6 (t_X12_in (d + 0) c2) rfl (Nat.le_of_ble_eq_true rfl) (Nat.le_refl _) ?_
  refine e_ifB_eq (tgt := 44) dX12_stall_9 (by decide) (fun c3 => ?_) (fun c3 => ?_)
  · replace H := of_ (nb c3) H
    refine e_bipush (v := (-2 : Int32)) dX12_stall_44 (by decide) ?_
    obtain rfl := Option.some.inj H
    exact z_iret rfl rfl dX12_stall_46 rfl rfl
  · replace H := ot c3 H
    refine e_iload_n dX12_stall_12 rfl ?_
    replace H := ob H; obtain ⟨q4, c5, H⟩ := H
    refine s1 lmX12_134 lsX12_isPlace msX12_isPlace dX12_stall_13 (t_X12_isPlace (d + 0) c5) rfl (Nat.le_of_ble_eq_true rfl) (Nat.le_refl _) ?_
    refine e_ifB_eq (tgt := 44) dX12_stall_16 (by decide) (fun c6 => ?_) (fun c6 => ?_)
    · replace H := of_ (nb c6) H
      refine e_bipush (v := (-2 : Int32)) dX12_stall_44 (by decide) ?_
      obtain rfl := Option.some.inj H
      exact z_iret rfl rfl dX12_stall_46 rfl rfl
    · replace H := ot c6 H
      refine e_iload_n dX12_stall_19 rfl ?_
      refine e_i2l dX12_stall_20 ?_
      refine e_lconst (v := (0 : Int64)) dX12_stall_21 (by decide) ?_
      refine e_ldc2 (v := (9 : Int64)) lkX12_138 dX12_stall_22 ?_
      replace H := ob H; obtain ⟨q7, c8, H⟩ := H
      refine s1 lmX12_125 lsX12_in msX12_in dX12_stall_25 (t_X12_in (d + 0) c8) rfl (Nat.le_of_ble_eq_true rfl) (Nat.le_refl _) ?_
      refine e_ifB_eq (tgt := 44) dX12_stall_28 (by decide) (fun c9 => ?_) (fun c9 => ?_)
      · replace H := of_ (nb c9) H
        refine e_bipush (v := (-2 : Int32)) dX12_stall_44 (by decide) ?_
        obtain rfl := Option.some.inj H
        exact z_iret rfl rfl dX12_stall_46 rfl rfl
      · replace H := ot c9 H
        refine e_iload dX12_stall_31 rfl ?_
        refine e_i2l dX12_stall_33 ?_
        refine e_lconst (v := (1 : Int64)) dX12_stall_34 (by decide) ?_
        refine e_ldc2 (v := (99 : Int64)) lkX12_140 dX12_stall_35 ?_
        replace H := ob H; obtain ⟨q10, c11, H⟩ := H
        refine s1 lmX12_125 lsX12_in msX12_in dX12_stall_38 (t_X12_in (d + 0) c11) rfl (Nat.le_of_ble_eq_true rfl) (Nat.le_refl _) ?_
        refine e_ifB_ne (tgt := 47) dX12_stall_41 (by decide) (fun c12 => ?_) (fun c12 => ?_)
        · replace H := ot c12 H
          refine g_aload_n dX12_stall_47 rfl rfl ?_
          refine e_getI (hY.t 0 rfl) flX12_122_13 dX12_stall_48 rfl ?_
          refine e_bipush (v := (8 : Int32)) dX12_stall_51 (by decide) ?_
          refine e_icmp_ne (tgt := 59) dX12_stall_53 (by decide) (fun c13 => ?_) (fun c13 => ?_)
          · replace H := of_ c13 H
            refine g_aload_n dX12_stall_59 rfl rfl ?_
            refine e_getR (hY.t 0 rfl) flX12_23_13 dX12_stall_60 rfl (hY.r 3 rfl) ?_
            refine g_aload_n dX12_stall_63 rfl rfl ?_
            refine e_getI (hY.t 0 rfl) flX12_122_13 dX12_stall_64 rfl ?_
            refine e_iload_n dX12_stall_67 rfl ?_
            replace H := og H; obtain ⟨g14, H⟩ := H
            refine e_iast (hY.t 4 rfl) (ixb_y (hY.n 4 rfl) g14) dX12_stall_68 ?_
            refine g_aload_n dX12_stall_69 rfl rfl ?_
            refine e_getR (hY.t 0 rfl) flX12_26_13 dX12_stall_70 rfl (hY.r 4 rfl) ?_
            refine g_aload_n dX12_stall_73 rfl rfl ?_
            refine e_getI (hY.t 0 rfl) flX12_122_13 dX12_stall_74 rfl ?_
            refine e_iload_n dX12_stall_77 rfl ?_
            replace H := og H; obtain ⟨g15, H⟩ := H
            refine e_iast (hY.t 5 rfl) (ixb_y (hY.n 5 rfl) g15) dX12_stall_78 ?_
            refine g_aload_n dX12_stall_79 rfl rfl ?_
            refine e_getR (hY.t 0 rfl) flX12_29_13 dX12_stall_80 rfl (hY.r 5 rfl) ?_
            refine g_aload_n dX12_stall_83 rfl rfl ?_
            refine e_getI (hY.t 0 rfl) flX12_122_13 dX12_stall_84 rfl ?_
            refine e_iload_n dX12_stall_87 rfl ?_
            replace H := og H; obtain ⟨g16, H⟩ := H
            refine e_iast (hY.t 6 rfl) (ixb_y (hY.n 6 rfl) g16) dX12_stall_88 ?_
            replace H := obh H; obtain ⟨h17, e18, H⟩ := H
            refine e_hq e18 ?_
            have hY19 := kY e18 hY
            refine g_aload_n dX12_stall_89 rfl rfl ?_
            refine e_getR (hY19.t 0 rfl) flX12_32_13 dX12_stall_90 rfl (hY19.r 6 rfl) ?_
            refine g_aload_n dX12_stall_93 rfl rfl ?_
            refine e_getI (hY19.t 0 rfl) flX12_122_13 dX12_stall_94 rfl ?_
            refine e_iload dX12_stall_97 rfl ?_
            replace H := og H; obtain ⟨g20, H⟩ := H
            refine e_iast (hY19.t 7 rfl) (ixb_y (hY19.n 7 rfl) g20) dX12_stall_99 ?_
            refine g_aload_n dX12_stall_100 rfl rfl ?_
            refine e_getR (hY19.t 0 rfl) flX12_35_13 dX12_stall_101 rfl (hY19.r 7 rfl) ?_
            refine g_aload_n dX12_stall_104 rfl rfl ?_
            refine e_getI (hY19.t 0 rfl) flX12_122_13 dX12_stall_105 rfl ?_
            refine e_iconst (v := (0 : Int32)) dX12_stall_108 (by decide) ?_
            replace H := og H; obtain ⟨g21, H⟩ := H
            refine e_iast (hY19.t 8 rfl) (ixb_y (hY19.n 8 rfl) g21) dX12_stall_109 ?_
            refine g_aload_n dX12_stall_110 rfl rfl ?_
            refine e_getR (hY19.t 0 rfl) flX12_38_13 dX12_stall_111 rfl (hY19.r 8 rfl) ?_
            refine g_aload_n dX12_stall_114 rfl rfl ?_
            refine e_getI (hY19.t 0 rfl) flX12_122_13 dX12_stall_115 rfl ?_
            refine e_iconst (v := (0 : Int32)) dX12_stall_118 (by decide) ?_
            replace H := og H; obtain ⟨g22, H⟩ := H
            refine e_iast (hY19.t 9 rfl) (ixb_y (hY19.n 9 rfl) g22) dX12_stall_119 ?_
            replace H := obh H; obtain ⟨h23, e24, H⟩ := H
            refine e_hq e24 ?_
            have hY25 := kY e24 hY19
            refine g_aload_n dX12_stall_120 rfl rfl ?_
            refine e_getR (hY25.t 0 rfl) flX12_41_13 dX12_stall_121 rfl (hY25.r 9 rfl) ?_
            refine g_aload_n dX12_stall_124 rfl rfl ?_
            refine e_getI (hY25.t 0 rfl) flX12_122_13 dX12_stall_125 rfl ?_
            refine e_iconst (v := (0 : Int32)) dX12_stall_128 (by decide) ?_
            replace H := og H; obtain ⟨g26, H⟩ := H
            refine e_iast (hY25.t 10 rfl) (ixb_y (hY25.n 10 rfl) g26) dX12_stall_129 ?_
            refine g_aload_n dX12_stall_130 rfl rfl ?_
            refine e_dup dX12_stall_131 rfl ?_
            refine e_getI (hY25.t 0 rfl) flX12_122_13 dX12_stall_132 rfl ?_
            refine e_iconst (v := (1 : Int32)) dX12_stall_135 (by decide) ?_
            refine e_iadd dX12_stall_136 ?_
            refine e_putI (hY25.t 0 rfl) fpX12_122_13 rfl dX12_stall_137 ?_
            refine g_aload_n dX12_stall_140 rfl rfl ?_
            refine e_getI (hY25.t 0 rfl) flX12_122_13 dX12_stall_141 rfl ?_
            refine e_iconst (v := (1 : Int32)) dX12_stall_144 (by decide) ?_
            refine e_isub dX12_stall_145 ?_
            obtain rfl := Option.some.inj H
            exact z_iret rfl rfl dX12_stall_146 rfl rfl
          · replace H := ot c13 H
            refine e_bipush (v := (-4 : Int32)) dX12_stall_56 (by decide) ?_
            obtain rfl := Option.some.inj H
            exact z_iret rfl rfl dX12_stall_58 rfl rfl
        · replace H := of_ (nb c12) H
          refine e_bipush (v := (-2 : Int32)) dX12_stall_44 (by decide) ?_
          obtain rfl := Option.some.inj H
          exact z_iret rfl rfl dX12_stall_46 rfl rfl
-- X12_set
def f_X12_set (p1 : Int32) (p2 : Int32) (p3 : Int32) (h : HS) : Option (Int32 × HS) := (Option.bind (f_X12_isStall p1 h) (fun q1 => (if q1 = true then (Option.bind (f_X12_in p2.toInt64 (0 : Int64) (3 : Int64)) (fun q4 => (if q4 = true then (Option.bind (if p2 = 0 then (some (1 : Int64)) else (some (0 : Int64))) (fun q8 => (Option.bind (if p2 = 0 then (some (99 : Int64)) else (if p2 = (3 : Int32) then (some (1 : Int64)) else (some (999 : Int64)))) (fun q12 => (Option.bind (f_X12_in p3.toInt64 q8 q12) (fun q16 => (if q16 = true then (Option.bind (if p2 = 0 then (if ixb p1 8 = true then (some (hI h 67 p1.toNatClampNeg)) else none) else (if p2 = (1 : Int32) then (if ixb p1 8 = true then (some (hI h 68 p1.toNatClampNeg)) else none) else (if p2 = (2 : Int32) then (if ixb p1 8 = true then (some (hI h 69 p1.toNatClampNeg)) else none) else (if ixb p1 8 = true then (some (hI h 70 p1.toNatClampNeg)) else none)))) (fun q20 => (Option.bind (if p2 = 0 then (if ixb p1 8 = true then (some (sI h 67 p1.toNatClampNeg p3)) else none) else (some h)) (fun q30 => (Option.bind (if p2 = (1 : Int32) then (if ixb p1 8 = true then (some (sI q30 68 p1.toNatClampNeg p3)) else none) else (some q30)) (fun q37 => (Option.bind (if p2 = (2 : Int32) then (if ixb p1 8 = true then (some (sI q37 69 p1.toNatClampNeg p3)) else none) else (some q37)) (fun q44 => (if p2 = (3 : Int32) then (if ixb p1 8 = true then (some (q20, (sI q44 70 p1.toNatClampNeg p3))) else none) else (some (q20, q44))))))))))) else (some ((-5 : Int32), h))))))))) else (some ((-5 : Int32), h))))) else (some ((-5 : Int32), h)))))
set_option maxHeartbeats 4000000 in
set_option maxRecDepth 20000 in
theorem p_X12_set {p1 : Int32} {p2 : Int32} {p3 : Int32} {h : HS} {q : (Int32 × HS)} (H : f_X12_set p1 p2 p3 h = some q) : Pr h q.2 := by
  unfold f_X12_set at H
  replace H := ob H; obtain ⟨q1, c2, H⟩ := H
  replace H := oi H; obtain ⟨c3, H⟩ | ⟨c3, H⟩ := H
  · replace H := ob H; obtain ⟨q4, c5, H⟩ := H
    replace H := oi H; obtain ⟨c6, H⟩ | ⟨c6, H⟩ := H
    · replace H := ob H; obtain ⟨q8, c10, H⟩ := H
      replace H := ob H; obtain ⟨q12, c15, H⟩ := H
      replace H := ob H; obtain ⟨q16, c17, H⟩ := H
      replace H := oi H; obtain ⟨c18, H⟩ | ⟨c18, H⟩ := H
      · replace H := ob H; obtain ⟨q20, c28, H⟩ := H
        replace H := ob H; obtain ⟨q30, c33, H⟩ := H
        have e34 : Pr h q30 := by
          replace H := c33
          replace H := oi H; obtain ⟨c29, H⟩ | ⟨c29, H⟩ := H
          · replace H := og H; obtain ⟨g32, H⟩ := H
            obtain rfl := Option.some.inj H
            exact Pr.rf
          · obtain rfl := Option.some.inj H
            exact Pr.rf
        replace H := ob H; obtain ⟨q37, c40, H⟩ := H
        have e41 : Pr q30 q37 := by
          replace H := c40
          replace H := oi H; obtain ⟨c36, H⟩ | ⟨c36, H⟩ := H
          · replace H := og H; obtain ⟨g39, H⟩ := H
            obtain rfl := Option.some.inj H
            exact Pr.rf
          · obtain rfl := Option.some.inj H
            exact Pr.rf
        replace H := ob H; obtain ⟨q44, c47, H⟩ := H
        have e48 : Pr q37 q44 := by
          replace H := c47
          replace H := oi H; obtain ⟨c43, H⟩ | ⟨c43, H⟩ := H
          · replace H := og H; obtain ⟨g46, H⟩ := H
            obtain rfl := Option.some.inj H
            exact Pr.rf
          · obtain rfl := Option.some.inj H
            exact Pr.rf
        replace H := oi H; obtain ⟨c50, H⟩ | ⟨c50, H⟩ := H
        · replace H := og H; obtain ⟨g51, H⟩ := H
          obtain rfl := Option.some.inj H
          exact ((e34.tr e41).tr e48)
        · obtain rfl := Option.some.inj H
          exact ((e34.tr e41).tr e48)
      · obtain rfl := Option.some.inj H
        exact Pr.rf
    · obtain rfl := Option.some.inj H
      exact Pr.rf
  · obtain rfl := Option.some.inj H
    exact Pr.rf
set_option maxHeartbeats 4000000 in
set_option maxRecDepth 20000 in
theorem t_X12_set {G : GE} (d : Nat) {p1 : Int32} {p2 : Int32} {p3 : Int32} {h : HS} {q : (Int32 × HS)} (hY : LY TM h) (H : f_X12_set p1 p2 p3 h = some q) : CE G (d + 2) yX12_set miX12_set [.ref 60, .int p1, .int p2, .int p3] h (some (.int q.1)) (q.2) := by
  unfold f_X12_set at H
  refine ce_of rfl (by decide) (fun q => by first | rfl | cases q) (Nat.le_of_ble_eq_true rfl) rfl ?_
  refine g_aload_n dX12_set_0 rfl rfl ?_
  refine e_iload_n dX12_set_1 rfl ?_
  replace H := ob H; obtain ⟨q1, c2, H⟩ := H
  refine v1 (hY.t 0 rfl) (by decide) rfl rfl lmX12_142 liX12_isStall lvX12_X12_isStall msX12_isStall dX12_set_2 (t_X12_isStall (d + 0) hY c2) rfl (Nat.le_of_ble_eq_true rfl) (Nat.le_refl _) ?_
  refine e_ifB_eq (tgt := 59) dX12_set_5 (by decide) (fun c3 => ?_) (fun c3 => ?_)
  · replace H := of_ (nb c3) H
    refine e_bipush (v := (-5 : Int32)) dX12_set_59 (by decide) ?_
    obtain rfl := Option.some.inj H
    exact z_iret rfl rfl dX12_set_61 rfl rfl
  · replace H := ot c3 H
    refine e_iload_n dX12_set_8 rfl ?_
    refine e_i2l dX12_set_9 ?_
    refine e_lconst (v := (0 : Int64)) dX12_set_10 (by decide) ?_
    refine e_ldc2 (v := (3 : Int64)) lkX12_145 dX12_set_11 ?_
    replace H := ob H; obtain ⟨q4, c5, H⟩ := H
    refine s1 lmX12_125 lsX12_in msX12_in dX12_set_14 (t_X12_in (d + 1) c5) rfl (Nat.le_of_ble_eq_true rfl) (Nat.le_refl _) ?_
    refine e_ifB_eq (tgt := 59) dX12_set_17 (by decide) (fun c6 => ?_) (fun c6 => ?_)
    · replace H := of_ (nb c6) H
      refine e_bipush (v := (-5 : Int32)) dX12_set_59 (by decide) ?_
      obtain rfl := Option.some.inj H
      exact z_iret rfl rfl dX12_set_61 rfl rfl
    · replace H := ot c6 H
      refine e_iload_n dX12_set_20 rfl ?_
      refine e_i2l dX12_set_21 ?_
      refine e_iload_n dX12_set_22 rfl ?_
      replace H := ob H; obtain ⟨q8, c10, H⟩ := H
      have k9 : En G (d + 2) miX12_set 31 [.ref 60, .int p1, .int p2, .int p3, dum] [.long q8, .long p3.toInt64] h (some (.int q.1)) (q.2) := by
        refine e_iload_n dX12_set_31 rfl ?_
        replace H := ob H; obtain ⟨q12, c15, H⟩ := H
        have k13 : En G (d + 2) miX12_set 53 [.ref 60, .int p1, .int p2, .int p3, dum] [.long q12, .long q8, .long p3.toInt64] h (some (.int q.1)) (q.2) := by
          replace H := ob H; obtain ⟨q16, c17, H⟩ := H
          refine s1 lmX12_125 lsX12_in msX12_in dX12_set_53 (t_X12_in (d + 1) c17) rfl (Nat.le_of_ble_eq_true rfl) (Nat.le_refl _) ?_
          refine e_ifB_ne (tgt := 62) dX12_set_56 (by decide) (fun c18 => ?_) (fun c18 => ?_)
          · replace H := ot c18 H
            refine e_iload_n dX12_set_62 rfl ?_
            replace H := ob H; obtain ⟨q20, c28, H⟩ := H
            have k21 : En G (d + 2) miX12_set 109 [.ref 60, .int p1, .int p2, .int p3, dum] [.int q20] h (some (.int q.1)) (q.2) := by
              refine e_istore dX12_set_109 (Nat.le_of_ble_eq_true rfl) rfl rfl ?_
              refine e_iload_n dX12_set_111 rfl ?_
              replace H := ob H; obtain ⟨q30, c33, H⟩ := H
              have e34 : Pr h q30 := by
                replace H := c33
                replace H := oi H; obtain ⟨c29, H⟩ | ⟨c29, H⟩ := H
                · replace H := og H; obtain ⟨g32, H⟩ := H
                  obtain rfl := Option.some.inj H
                  exact Pr.rf
                · obtain rfl := Option.some.inj H
                  exact Pr.rf
              have hY35 := hY.pr okM e34
              have k31 : En G (d + 2) miX12_set 122 [.ref 60, .int p1, .int p2, .int p3, .int q20] [] q30 (some (.int q.1)) (q.2) := by
                refine e_iload_n dX12_set_122 rfl ?_
                refine e_iconst (v := (1 : Int32)) dX12_set_123 (by decide) ?_
                replace H := ob H; obtain ⟨q37, c40, H⟩ := H
                have e41 : Pr q30 q37 := by
                  replace H := c40
                  replace H := oi H; obtain ⟨c36, H⟩ | ⟨c36, H⟩ := H
                  · replace H := og H; obtain ⟨g39, H⟩ := H
                    obtain rfl := Option.some.inj H
                    exact Pr.rf
                  · obtain rfl := Option.some.inj H
                    exact Pr.rf
                have hY42 := hY35.pr okM e41
                have k38 : En G (d + 2) miX12_set 134 [.ref 60, .int p1, .int p2, .int p3, .int q20] [] q37 (some (.int q.1)) (q.2) := by
                  refine e_iload_n dX12_set_134 rfl ?_
                  refine e_iconst (v := (2 : Int32)) dX12_set_135 (by decide) ?_
                  replace H := ob H; obtain ⟨q44, c47, H⟩ := H
                  have e48 : Pr q37 q44 := by
                    replace H := c47
                    replace H := oi H; obtain ⟨c43, H⟩ | ⟨c43, H⟩ := H
                    · replace H := og H; obtain ⟨g46, H⟩ := H
                      obtain rfl := Option.some.inj H
                      exact Pr.rf
                    · obtain rfl := Option.some.inj H
                      exact Pr.rf
                  have hY49 := hY42.pr okM e48
                  have k45 : En G (d + 2) miX12_set 146 [.ref 60, .int p1, .int p2, .int p3, .int q20] [] q44 (some (.int q.1)) (q.2) := by
                    refine e_iload_n dX12_set_146 rfl ?_
                    refine e_iconst (v := (3 : Int32)) dX12_set_147 (by decide) ?_
                    refine e_icmp_ne (tgt := 158) dX12_set_148 (by decide) (fun c50 => ?_) (fun c50 => ?_)
                    · replace H := of_ c50 H
                      refine e_iload dX12_set_158 rfl ?_
                      obtain rfl := Option.some.inj H
                      exact z_iret rfl rfl dX12_set_160 rfl rfl
                    · replace H := ot c50 H
                      refine g_aload_n dX12_set_151 rfl rfl ?_
                      refine e_getR (hY49.t 0 rfl) flX12_41_13 dX12_set_152 rfl (hY49.r 9 rfl) ?_
                      refine e_iload_n dX12_set_155 rfl ?_
                      refine e_iload_n dX12_set_156 rfl ?_
                      replace H := og H; obtain ⟨g51, H⟩ := H
                      refine e_iast (hY49.t 10 rfl) (ixb_y (hY49.n 10 rfl) g51) dX12_set_157 ?_
                      refine e_iload dX12_set_158 rfl ?_
                      obtain rfl := Option.some.inj H
                      exact z_iret rfl rfl dX12_set_160 rfl rfl
                  replace H := c47
                  refine e_icmp_ne (tgt := 146) dX12_set_136 (by decide) (fun c43 => ?_) (fun c43 => ?_)
                  · replace H := of_ c43 H
                    obtain rfl := Option.some.inj H
                    exact e_wk (lk1 (lk1 (lk1 (lk1 (lk1 lkn))))) k45
                  · replace H := ot c43 H
                    refine g_aload_n dX12_set_139 rfl rfl ?_
                    refine e_getR (hY42.t 0 rfl) flX12_38_13 dX12_set_140 rfl (hY42.r 8 rfl) ?_
                    refine e_iload_n dX12_set_143 rfl ?_
                    refine e_iload_n dX12_set_144 rfl ?_
                    replace H := og H; obtain ⟨g46, H⟩ := H
                    refine e_iast (hY42.t 9 rfl) (ixb_y (hY42.n 9 rfl) g46) dX12_set_145 ?_
                    obtain rfl := Option.some.inj H
                    exact e_wk (lk1 (lk1 (lk1 (lk1 (lk1 lkn))))) k45
                replace H := c40
                refine e_icmp_ne (tgt := 134) dX12_set_124 (by decide) (fun c36 => ?_) (fun c36 => ?_)
                · replace H := of_ c36 H
                  obtain rfl := Option.some.inj H
                  exact e_wk (lk1 (lk1 (lk1 (lk1 (lk1 lkn))))) k38
                · replace H := ot c36 H
                  refine g_aload_n dX12_set_127 rfl rfl ?_
                  refine e_getR (hY35.t 0 rfl) flX12_35_13 dX12_set_128 rfl (hY35.r 7 rfl) ?_
                  refine e_iload_n dX12_set_131 rfl ?_
                  refine e_iload_n dX12_set_132 rfl ?_
                  replace H := og H; obtain ⟨g39, H⟩ := H
                  refine e_iast (hY35.t 8 rfl) (ixb_y (hY35.n 8 rfl) g39) dX12_set_133 ?_
                  obtain rfl := Option.some.inj H
                  exact e_wk (lk1 (lk1 (lk1 (lk1 (lk1 lkn))))) k38
              replace H := c33
              refine e_if_ne (tgt := 122) dX12_set_112 (by decide) (fun c29 => ?_) (fun c29 => ?_)
              · replace H := of_ c29 H
                obtain rfl := Option.some.inj H
                exact e_wk (lk1 (lk1 (lk1 (lk1 (lk1 lkn))))) k31
              · replace H := ot c29 H
                refine g_aload_n dX12_set_115 rfl rfl ?_
                refine e_getR (hY.t 0 rfl) flX12_32_13 dX12_set_116 rfl (hY.r 6 rfl) ?_
                refine e_iload_n dX12_set_119 rfl ?_
                refine e_iload_n dX12_set_120 rfl ?_
                replace H := og H; obtain ⟨g32, H⟩ := H
                refine e_iast (hY.t 7 rfl) (ixb_y (hY.n 7 rfl) g32) dX12_set_121 ?_
                obtain rfl := Option.some.inj H
                exact e_wk (lk1 (lk1 (lk1 (lk1 (lk1 lkn))))) k31
            replace H := c28
            refine e_if_ne (tgt := 75) dX12_set_63 (by decide) (fun c19 => ?_) (fun c19 => ?_)
            · replace H := of_ c19 H
              refine e_iload_n dX12_set_75 rfl ?_
              refine e_iconst (v := (1 : Int32)) dX12_set_76 (by decide) ?_
              refine e_icmp_ne (tgt := 89) dX12_set_77 (by decide) (fun c22 => ?_) (fun c22 => ?_)
              · replace H := of_ c22 H
                refine e_iload_n dX12_set_89 rfl ?_
                refine e_iconst (v := (2 : Int32)) dX12_set_90 (by decide) ?_
                refine e_icmp_ne (tgt := 103) dX12_set_91 (by decide) (fun c23 => ?_) (fun c23 => ?_)
                · replace H := of_ c23 H
                  refine g_aload_n dX12_set_103 rfl rfl ?_
                  refine e_getR (hY.t 0 rfl) flX12_41_13 dX12_set_104 rfl (hY.r 9 rfl) ?_
                  refine e_iload_n dX12_set_107 rfl ?_
                  replace H := og H; obtain ⟨g24, H⟩ := H
                  refine e_iald (hY.t 10 rfl) (ixb_y (hY.n 10 rfl) g24) dX12_set_108 ?_
                  obtain rfl := Option.some.inj H
                  exact e_wk (lk1 (lk1 (lk1 (lk1 (lk1 lkn))))) k21
                · replace H := ot c23 H
                  refine g_aload_n dX12_set_94 rfl rfl ?_
                  refine e_getR (hY.t 0 rfl) flX12_38_13 dX12_set_95 rfl (hY.r 8 rfl) ?_
                  refine e_iload_n dX12_set_98 rfl ?_
                  replace H := og H; obtain ⟨g25, H⟩ := H
                  refine e_iald (hY.t 9 rfl) (ixb_y (hY.n 9 rfl) g25) dX12_set_99 ?_
                  refine e_goto (tgt := 109) dX12_set_100 (by decide) ?_
                  obtain rfl := Option.some.inj H
                  exact e_wk (lk1 (lk1 (lk1 (lk1 (lk1 lkn))))) k21
              · replace H := ot c22 H
                refine g_aload_n dX12_set_80 rfl rfl ?_
                refine e_getR (hY.t 0 rfl) flX12_35_13 dX12_set_81 rfl (hY.r 7 rfl) ?_
                refine e_iload_n dX12_set_84 rfl ?_
                replace H := og H; obtain ⟨g26, H⟩ := H
                refine e_iald (hY.t 8 rfl) (ixb_y (hY.n 8 rfl) g26) dX12_set_85 ?_
                refine e_goto (tgt := 109) dX12_set_86 (by decide) ?_
                obtain rfl := Option.some.inj H
                exact e_wk (lk1 (lk1 (lk1 (lk1 (lk1 lkn))))) k21
            · replace H := ot c19 H
              refine g_aload_n dX12_set_66 rfl rfl ?_
              refine e_getR (hY.t 0 rfl) flX12_32_13 dX12_set_67 rfl (hY.r 6 rfl) ?_
              refine e_iload_n dX12_set_70 rfl ?_
              replace H := og H; obtain ⟨g27, H⟩ := H
              refine e_iald (hY.t 7 rfl) (ixb_y (hY.n 7 rfl) g27) dX12_set_71 ?_
              refine e_goto (tgt := 109) dX12_set_72 (by decide) ?_
              obtain rfl := Option.some.inj H
              exact e_wk (lk1 (lk1 (lk1 (lk1 (lk1 lkn))))) k21
          · replace H := of_ (nb c18) H
            refine e_bipush (v := (-5 : Int32)) dX12_set_59 (by decide) ?_
            obtain rfl := Option.some.inj H
            exact z_iret rfl rfl dX12_set_61 rfl rfl
        replace H := c15
        refine e_if_ne (tgt := 41) dX12_set_32 (by decide) (fun c11 => ?_) (fun c11 => ?_)
        · replace H := of_ c11 H
          refine e_iload_n dX12_set_41 rfl ?_
          refine e_iconst (v := (3 : Int32)) dX12_set_42 (by decide) ?_
          refine e_icmp_ne (tgt := 50) dX12_set_43 (by decide) (fun c14 => ?_) (fun c14 => ?_)
          · replace H := of_ c14 H
            refine e_ldc2 (v := (999 : Int64)) lkX12_147 dX12_set_50 ?_
            obtain rfl := Option.some.inj H
            exact e_wk (lk1 (lk1 (lk1 (lk1 (lk1 lkn))))) k13
          · replace H := ot c14 H
            refine e_lconst (v := (1 : Int64)) dX12_set_46 (by decide) ?_
            refine e_goto (tgt := 53) dX12_set_47 (by decide) ?_
            obtain rfl := Option.some.inj H
            exact e_wk (lk1 (lk1 (lk1 (lk1 (lk1 lkn))))) k13
        · replace H := ot c11 H
          refine e_ldc2 (v := (99 : Int64)) lkX12_140 dX12_set_35 ?_
          refine e_goto (tgt := 53) dX12_set_38 (by decide) ?_
          obtain rfl := Option.some.inj H
          exact e_wk (lk1 (lk1 (lk1 (lk1 (lk1 lkn))))) k13
      replace H := c10
      refine e_if_ne (tgt := 30) dX12_set_23 (by decide) (fun c7 => ?_) (fun c7 => ?_)
      · replace H := of_ c7 H
        refine e_lconst (v := (0 : Int64)) dX12_set_30 (by decide) ?_
        obtain rfl := Option.some.inj H
        exact e_wk (lk1 (lk1 (lk1 (lk1 (lk1 lkn))))) k9
      · replace H := ot c7 H
        refine e_lconst (v := (1 : Int64)) dX12_set_26 (by decide) ?_
        refine e_goto (tgt := 31) dX12_set_27 (by decide) ?_
        obtain rfl := Option.some.inj H
        exact e_wk (lk1 (lk1 (lk1 (lk1 (lk1 lkn))))) k9
-- X12_seenOf
def f_X12_seenOf (p1 : Int32) (h : HS) : Option Int32 := (if ixb p1 8 = true then (if (hI h 64 p1.toNatClampNeg) = (0 : Int32) then (some (0 : Int32)) else (if (hI h 64 p1.toNatClampNeg) = (3 : Int32) then (some (2 : Int32)) else (if (hI h 64 p1.toNatClampNeg) = (5 : Int32) then (if ixb p1 8 = true then (some ((2 : Int32) + (hI h 70 p1.toNatClampNeg))) else none) else (some (1 : Int32))))) else none)
set_option maxHeartbeats 4000000 in
set_option maxRecDepth 20000 in
theorem t_X12_seenOf {G : GE} (d : Nat) {p1 : Int32} {h : HS} {q : Int32} (hY : LY TM h) (H : f_X12_seenOf p1 h = some q) : CE G (d + 0) yX12_seenOf miX12_seenOf [.ref 60, .int p1] h (some (.int q)) (h) := by
  unfold f_X12_seenOf at H
  refine ce_of rfl (by decide) (fun q => by first | rfl | cases q) (Nat.le_of_ble_eq_true rfl) rfl ?_
  refine g_aload_n dX12_seenOf_0 rfl rfl ?_
  refine e_getR (hY.t 0 rfl) flX12_23_13 dX12_seenOf_1 rfl (hY.r 3 rfl) ?_
  refine e_iload_n dX12_seenOf_4 rfl ?_
  replace H := og H; obtain ⟨g1, H⟩ := H
  refine e_iald (hY.t 4 rfl) (ixb_y (hY.n 4 rfl) g1) dX12_seenOf_5 ?_
  by_cases k2 : (hI h 64 p1.toNatClampNeg) = (0 : Int32)
  · replace H := ot k2 H
    refine e_lookup (off := 34) (tgt := 40) dX12_seenOf_6 (by decide) (by rw [k2]; decide) (by decide) ?_
    refine e_iconst (v := (0 : Int32)) dX12_seenOf_40 (by decide) ?_
    obtain rfl := Option.some.inj H
    exact z_iret rfl rfl dX12_seenOf_41 rfl rfl
  · replace H := of_ k2 H
    by_cases k3 : (hI h 64 p1.toNatClampNeg) = (3 : Int32)
    · replace H := ot k3 H
      refine e_lookup (off := 36) (tgt := 42) dX12_seenOf_6 (by decide) (by rw [k3]; decide) (by decide) ?_
      refine e_iconst (v := (2 : Int32)) dX12_seenOf_42 (by decide) ?_
      obtain rfl := Option.some.inj H
      exact z_iret rfl rfl dX12_seenOf_43 rfl rfl
    · replace H := of_ k3 H
      by_cases k4 : (hI h 64 p1.toNatClampNeg) = (5 : Int32)
      · replace H := ot k4 H
        refine e_lookup (off := 38) (tgt := 44) dX12_seenOf_6 (by decide) (by rw [k4]; decide) (by decide) ?_
        refine e_iconst (v := (2 : Int32)) dX12_seenOf_44 (by decide) ?_
        refine g_aload_n dX12_seenOf_45 rfl rfl ?_
        refine e_getR (hY.t 0 rfl) flX12_41_13 dX12_seenOf_46 rfl (hY.r 9 rfl) ?_
        refine e_iload_n dX12_seenOf_49 rfl ?_
        replace H := og H; obtain ⟨g5, H⟩ := H
        refine e_iald (hY.t 10 rfl) (ixb_y (hY.n 10 rfl) g5) dX12_seenOf_50 ?_
        refine e_iadd dX12_seenOf_51 ?_
        obtain rfl := Option.some.inj H
        exact z_iret rfl rfl dX12_seenOf_52 rfl rfl
      · replace H := of_ k4 H
        refine e_lookup (off := 47) (tgt := 53) dX12_seenOf_6 (by decide) (by have q0 := i32_ne k2; have q3 := i32_ne k3; have q5 := i32_ne k4; simp [Op.lookupswitch.offset, *]) (by decide) ?_
        refine e_iconst (v := (1 : Int32)) dX12_seenOf_53 (by decide) ?_
        obtain rfl := Option.some.inj H
        exact z_iret rfl rfl dX12_seenOf_54 rfl rfl
-- X12_byteAt
def f_X12_byteAt (p1 : Int32) (h : HS) : Option Int32 := (if (hI h 60 27) ≤ p1 then (some (-1 : Int32)) else (if ixb ((hI h 60 26) + p1) 960 = true then (some (hI h 61 ((hI h 60 26) + p1).toNatClampNeg)) else none))
set_option maxHeartbeats 4000000 in
set_option maxRecDepth 20000 in
theorem t_X12_byteAt {G : GE} (d : Nat) {p1 : Int32} {h : HS} {q : Int32} (hY : LY TM h) (H : f_X12_byteAt p1 h = some q) : CE G (d + 0) yX12_byteAt miX12_byteAt [.ref 60, .int p1] h (some (.int q)) (h) := by
  unfold f_X12_byteAt at H
  refine ce_of rfl (by decide) (fun q => by first | rfl | cases q) (Nat.le_of_ble_eq_true rfl) rfl ?_
  refine e_iload_n dX12_byteAt_0 rfl ?_
  refine g_aload_n dX12_byteAt_1 rfl rfl ?_
  refine e_getI (hY.t 0 rfl) flX12_245_13 dX12_byteAt_2 rfl ?_
  refine e_icmp_ge (tgt := 22) dX12_byteAt_5 (by decide) (fun c1 => ?_) (fun c1 => ?_)
  · replace H := ot c1 H
    refine e_iconst (v := (-1 : Int32)) dX12_byteAt_22 (by decide) ?_
    obtain rfl := Option.some.inj H
    exact z_iret rfl rfl dX12_byteAt_23 rfl rfl
  · replace H := of_ c1 H
    refine g_aload_n dX12_byteAt_8 rfl rfl ?_
    refine e_getR (hY.t 0 rfl) flX12_13_13 dX12_byteAt_9 rfl (hY.r 0 rfl) ?_
    refine g_aload_n dX12_byteAt_12 rfl rfl ?_
    refine e_getI (hY.t 0 rfl) flX12_248_13 dX12_byteAt_13 rfl ?_
    refine e_iload_n dX12_byteAt_16 rfl ?_
    refine e_iadd dX12_byteAt_17 ?_
    replace H := og H; obtain ⟨g2, H⟩ := H
    refine e_iald (hY.t 1 rfl) (ixb_y (hY.n 1 rfl) g2) dX12_byteAt_18 ?_
    refine e_goto (tgt := 23) dX12_byteAt_19 (by decide) ?_
    obtain rfl := Option.some.inj H
    exact z_iret rfl rfl dX12_byteAt_23 rfl rfl
-- X12_next
def l_X12_next_0  : Nat → HS → Option HS
  | 0, _ => none
  | n + 1, h => (Option.bind (f_X12_byteAt (hI h 60 31) h) (fun q7 => (if q7 = (32 : Int32) then (l_X12_next_0  n (sI h 60 31 ((hI h 60 31) + (1 : Int32)))) else (Option.bind (f_X12_byteAt (hI h 60 31) h) (fun q10 => (if q10 = (10 : Int32) then (l_X12_next_0  n (sI h 60 31 ((hI h 60 31) + (1 : Int32)))) else (some h)))))))
set_option maxHeartbeats 4000000 in
set_option maxRecDepth 20000 in
theorem p_X12_next_0  : ∀ (n : Nat)  {h : HS} {q : HS}, l_X12_next_0  n h = some q → Pr h q := by
  intro n
  induction n with
  | zero => intro h q H; exact nz H
  | succ n ih =>
    intro h q H
    unfold l_X12_next_0 at H
    replace H := ob H; obtain ⟨q7, c8, H⟩ := H
    replace H := oi H; obtain ⟨c9, H⟩ | ⟨c9, H⟩ := H
    · exact id (ih H)
    · replace H := ob H; obtain ⟨q10, c11, H⟩ := H
      replace H := oi H; obtain ⟨c12, H⟩ | ⟨c12, H⟩ := H
      · exact id (ih H)
      · obtain rfl := Option.some.inj H
        exact Pr.rf
set_option maxHeartbeats 4000000 in
set_option maxRecDepth 20000 in
theorem w_X12_next_0 {G : GE} (d : Nat)  {r : Option Value} {h' : HS}  : ∀ (n : Nat)  {h : HS} {q : HS}, LY TM h → l_X12_next_0  n h = some q → En G (d + 1) miX12_next 39 [.ref 60, dum, dum] [] q r h' → En G (d + 1) miX12_next 0 [.ref 60, dum, dum] [] h r h' := by
  intro n
  induction n with
  | zero => intro h q hYTM H kE; exact nz H
  | succ n ih =>
    intro h q hYTM H kE
    unfold l_X12_next_0 at H
    refine g_aload_n dX12_next_0 rfl rfl ?_
    refine g_aload_n dX12_next_1 rfl rfl ?_
    refine e_getI (hYTM.t 0 rfl) flX12_251_13 dX12_next_2 rfl ?_
    replace H := ob H; obtain ⟨q7, c8, H⟩ := H
    refine v1 (hYTM.t 0 rfl) (by decide) rfl rfl lmX12_254 liX12_byteAt lvX12_X12_byteAt msX12_byteAt dX12_next_5 (t_X12_byteAt (d + 0) hYTM c8) rfl (Nat.le_of_ble_eq_true rfl) (Nat.le_refl _) ?_
    refine e_bipush (v := (32 : Int32)) dX12_next_8 (by decide) ?_
    refine e_icmp_eq (tgt := 26) dX12_next_10 (by decide) (fun c9 => ?_) (fun c9 => ?_)
    · replace H := ot c9 H
      refine g_aload_n dX12_next_26 rfl rfl ?_
      refine e_dup dX12_next_27 rfl ?_
      refine e_getI (hYTM.t 0 rfl) flX12_251_13 dX12_next_28 rfl ?_
      refine e_iconst (v := (1 : Int32)) dX12_next_31 (by decide) ?_
      refine e_iadd dX12_next_32 ?_
      refine e_putI (hYTM.t 0 rfl) fpX12_251_13 rfl dX12_next_33 ?_
      refine e_goto (tgt := 0) dX12_next_36 (by decide) ?_
      exact e_wk (lk1 (lk1 (lk1 lkn))) (ih hYTM H kE)
    · replace H := of_ c9 H
      refine g_aload_n dX12_next_13 rfl rfl ?_
      refine g_aload_n dX12_next_14 rfl rfl ?_
      refine e_getI (hYTM.t 0 rfl) flX12_251_13 dX12_next_15 rfl ?_
      replace H := ob H; obtain ⟨q10, c11, H⟩ := H
      refine v1 (hYTM.t 0 rfl) (by decide) rfl rfl lmX12_254 liX12_byteAt lvX12_X12_byteAt msX12_byteAt dX12_next_18 (t_X12_byteAt (d + 0) hYTM c11) rfl (Nat.le_of_ble_eq_true rfl) (Nat.le_refl _) ?_
      refine e_bipush (v := (10 : Int32)) dX12_next_21 (by decide) ?_
      refine e_icmp_ne (tgt := 39) dX12_next_23 (by decide) (fun c12 => ?_) (fun c12 => ?_)
      · replace H := of_ c12 H
        obtain rfl := Option.some.inj H
        exact e_wk (lk1 (lk1 (lk1 lkn))) kE
      · replace H := ot c12 H
        refine g_aload_n dX12_next_26 rfl rfl ?_
        refine e_dup dX12_next_27 rfl ?_
        refine e_getI (hYTM.t 0 rfl) flX12_251_13 dX12_next_28 rfl ?_
        refine e_iconst (v := (1 : Int32)) dX12_next_31 (by decide) ?_
        refine e_iadd dX12_next_32 ?_
        refine e_putI (hYTM.t 0 rfl) fpX12_251_13 rfl dX12_next_33 ?_
        refine e_goto (tgt := 0) dX12_next_36 (by decide) ?_
        exact e_wk (lk1 (lk1 (lk1 lkn))) (ih hYTM H kE)
def l_X12_next_211  : Nat → Int32 → HS → Option (Int32 × HS)
  | 0, _, _ => none
  | n + 1, x2, h => (Option.bind (f_X12_byteAt (hI h 60 31) h) (fun q69 => (Option.bind (f_X12_in q69.toInt64 (48 : Int64) (57 : Int64)) (fun q71 => (if q71 = true then (Option.bind (if (4 : Int32) ≤ x2 then (some (hL h 60 30)) else (Option.bind (f_X12_byteAt (hI h 60 31) h) (fun q77 => (some ((((10 : Int64) * (hL h 60 30)) + q77.toInt64) - (48 : Int64)))))) (fun q75 => (l_X12_next_211  n (x2 + (1 : Int32)) (sI (sL h 60 30 q75) 60 31 ((hI (sL h 60 30 q75) 60 31) + (1 : Int32)))))) else (some (x2, h)))))))
set_option maxHeartbeats 4000000 in
set_option maxRecDepth 20000 in
theorem p_X12_next_211  : ∀ (n : Nat) {x2 : Int32} {h : HS} {q : (Int32 × HS)}, l_X12_next_211  n x2 h = some q → Pr h q.2 := by
  intro n
  induction n with
  | zero => intro x2 h q H; exact nz H
  | succ n ih =>
    intro x2 h q H
    unfold l_X12_next_211 at H
    replace H := ob H; obtain ⟨q69, c70, H⟩ := H
    replace H := ob H; obtain ⟨q71, c72, H⟩ := H
    replace H := oi H; obtain ⟨c73, H⟩ | ⟨c73, H⟩ := H
    · replace H := ob H; obtain ⟨q75, c79, H⟩ := H
      exact id (ih H)
    · obtain rfl := Option.some.inj H
      exact Pr.rf
set_option maxHeartbeats 4000000 in
set_option maxRecDepth 20000 in
theorem w_X12_next_211 {G : GE} (d : Nat)  {r : Option Value} {h' : HS}  : ∀ (n : Nat) {x2 : Int32} {h : HS} {q : (Int32 × HS)}, LY TM h → l_X12_next_211  n x2 h = some q → En G (d + 1) miX12_next 286 [.ref 60, dum, .int q.1] [] q.2 r h' → En G (d + 1) miX12_next 211 [.ref 60, dum, .int x2] [] h r h' := by
  intro n
  induction n with
  | zero => intro x2 h q hYTM H kE; exact nz H
  | succ n ih =>
    intro x2 h q hYTM H kE
    unfold l_X12_next_211 at H
    refine g_aload_n dX12_next_211 rfl rfl ?_
    refine g_aload_n dX12_next_212 rfl rfl ?_
    refine e_getI (hYTM.t 0 rfl) flX12_251_13 dX12_next_213 rfl ?_
    replace H := ob H; obtain ⟨q69, c70, H⟩ := H
    refine v1 (hYTM.t 0 rfl) (by decide) rfl rfl lmX12_254 liX12_byteAt lvX12_X12_byteAt msX12_byteAt dX12_next_216 (t_X12_byteAt (d + 0) hYTM c70) rfl (Nat.le_of_ble_eq_true rfl) (Nat.le_refl _) ?_
    refine e_i2l dX12_next_219 ?_
    refine e_ldc2 (v := (48 : Int64)) lkX12_277 dX12_next_220 ?_
    refine e_ldc2 (v := (57 : Int64)) lkX12_279 dX12_next_223 ?_
    replace H := ob H; obtain ⟨q71, c72, H⟩ := H
    refine s1 lmX12_125 lsX12_in msX12_in dX12_next_226 (t_X12_in (d + 0) c72) rfl (Nat.le_of_ble_eq_true rfl) (Nat.le_refl _) ?_
    refine e_ifB_eq (tgt := 286) dX12_next_229 (by decide) (fun c73 => ?_) (fun c73 => ?_)
    · replace H := of_ (nb c73) H
      obtain rfl := Option.some.inj H
      exact e_wk (lk1 (lk1 (lk1 lkn))) kE
    · replace H := ot c73 H
      refine g_aload_n dX12_next_232 rfl rfl ?_
      refine e_iload_n dX12_next_233 rfl ?_
      refine e_iconst (v := (4 : Int32)) dX12_next_234 (by decide) ?_
      replace H := ob H; obtain ⟨q75, c79, H⟩ := H
      have k76 : En G (d + 1) miX12_next 267 [.ref 60, dum, .int x2] [.long q75, .ref 60] h r h' := by
        refine e_putL (hYTM.t 0 rfl) fpX12_267_13 rfl dX12_next_267 ?_
        refine e_iinc dX12_next_270 rfl (ii_ (by decide : Int32.ofInt (1) = (1 : Int32))) (Nat.le_of_ble_eq_true rfl) rfl rfl ?_
        refine g_aload_n dX12_next_273 rfl rfl ?_
        refine e_dup dX12_next_274 rfl ?_
        refine e_getI (hYTM.t 0 rfl) flX12_251_13 dX12_next_275 rfl ?_
        refine e_iconst (v := (1 : Int32)) dX12_next_278 (by decide) ?_
        refine e_iadd dX12_next_279 ?_
        refine e_putI (hYTM.t 0 rfl) fpX12_251_13 rfl dX12_next_280 ?_
        refine e_goto (tgt := 211) dX12_next_283 (by decide) ?_
        exact e_wk (lk1 (lk1 (lk1 lkn))) (ih hYTM H kE)
      replace H := c79
      refine e_icmp_ge (tgt := 263) dX12_next_235 (by decide) (fun c74 => ?_) (fun c74 => ?_)
      · replace H := ot c74 H
        refine g_aload_n dX12_next_263 rfl rfl ?_
        refine e_getL (hYTM.t 0 rfl) flX12_267_13 dX12_next_264 rfl ?_
        obtain rfl := Option.some.inj H
        exact e_wk (lk1 (lk1 (lk1 lkn))) k76
      · replace H := of_ c74 H
        refine e_ldc2 (v := (10 : Int64)) lkX12_281 dX12_next_238 ?_
        refine g_aload_n dX12_next_241 rfl rfl ?_
        refine e_getL (hYTM.t 0 rfl) flX12_267_13 dX12_next_242 rfl ?_
        refine e_lmul dX12_next_245 ?_
        refine g_aload_n dX12_next_246 rfl rfl ?_
        refine g_aload_n dX12_next_247 rfl rfl ?_
        refine e_getI (hYTM.t 0 rfl) flX12_251_13 dX12_next_248 rfl ?_
        replace H := ob H; obtain ⟨q77, c78, H⟩ := H
        refine v1 (hYTM.t 0 rfl) (by decide) rfl rfl lmX12_254 liX12_byteAt lvX12_X12_byteAt msX12_byteAt dX12_next_251 (t_X12_byteAt (d + 0) hYTM c78) rfl (Nat.le_of_ble_eq_true rfl) (Nat.le_refl _) ?_
        refine e_i2l dX12_next_254 ?_
        refine e_ladd dX12_next_255 ?_
        refine e_ldc2 (v := (48 : Int64)) lkX12_277 dX12_next_256 ?_
        refine e_lsub dX12_next_259 ?_
        refine e_goto (tgt := 267) dX12_next_260 (by decide) ?_
        obtain rfl := Option.some.inj H
        exact e_wk (lk1 (lk1 (lk1 lkn))) k76
def l_X12_next_107  : Nat → Int32 → HS → Option HS
  | 0, _, _ => none
  | n + 1, x2, h => (Option.bind (f_X12_byteAt (hI h 60 31) h) (fun q96 => (Option.bind (f_X12_in q96.toInt64 (97 : Int64) (122 : Int64)) (fun q98 => (if q98 = true then (Option.bind (if (8 : Int32) ≤ x2 then (some (-1 : Int64)) else (Option.bind (f_X12_byteAt (hI h 60 31) h) (fun q104 => (some ((((27 : Int64) * (hL h 60 30)) + q104.toInt64) - (96 : Int64)))))) (fun q102 => (l_X12_next_107  n (x2 + (1 : Int32)) (sI (sL h 60 30 q102) 60 31 ((hI (sL h 60 30 q102) 60 31) + (1 : Int32)))))) else (some h))))))
set_option maxHeartbeats 4000000 in
set_option maxRecDepth 20000 in
theorem p_X12_next_107  : ∀ (n : Nat) {x2 : Int32} {h : HS} {q : HS}, l_X12_next_107  n x2 h = some q → Pr h q := by
  intro n
  induction n with
  | zero => intro x2 h q H; exact nz H
  | succ n ih =>
    intro x2 h q H
    unfold l_X12_next_107 at H
    replace H := ob H; obtain ⟨q96, c97, H⟩ := H
    replace H := ob H; obtain ⟨q98, c99, H⟩ := H
    replace H := oi H; obtain ⟨c100, H⟩ | ⟨c100, H⟩ := H
    · replace H := ob H; obtain ⟨q102, c106, H⟩ := H
      exact id (ih H)
    · obtain rfl := Option.some.inj H
      exact Pr.rf
set_option maxHeartbeats 4000000 in
set_option maxRecDepth 20000 in
theorem w_X12_next_107 {G : GE} (d : Nat)  {r : Option Value} {h' : HS}  : ∀ (n : Nat) {x2 : Int32} {h : HS} {q : HS}, LY TM h → l_X12_next_107  n x2 h = some q → En G (d + 1) miX12_next 182 [dum, dum, dum] [] q r h' → En G (d + 1) miX12_next 107 [.ref 60, dum, .int x2] [] h r h' := by
  intro n
  induction n with
  | zero => intro x2 h q hYTM H kE; exact nz H
  | succ n ih =>
    intro x2 h q hYTM H kE
    unfold l_X12_next_107 at H
    refine g_aload_n dX12_next_107 rfl rfl ?_
    refine g_aload_n dX12_next_108 rfl rfl ?_
    refine e_getI (hYTM.t 0 rfl) flX12_251_13 dX12_next_109 rfl ?_
    replace H := ob H; obtain ⟨q96, c97, H⟩ := H
    refine v1 (hYTM.t 0 rfl) (by decide) rfl rfl lmX12_254 liX12_byteAt lvX12_X12_byteAt msX12_byteAt dX12_next_112 (t_X12_byteAt (d + 0) hYTM c97) rfl (Nat.le_of_ble_eq_true rfl) (Nat.le_refl _) ?_
    refine e_i2l dX12_next_115 ?_
    refine e_ldc2 (v := (97 : Int64)) lkX12_263 dX12_next_116 ?_
    refine e_ldc2 (v := (122 : Int64)) lkX12_265 dX12_next_119 ?_
    replace H := ob H; obtain ⟨q98, c99, H⟩ := H
    refine s1 lmX12_125 lsX12_in msX12_in dX12_next_122 (t_X12_in (d + 0) c99) rfl (Nat.le_of_ble_eq_true rfl) (Nat.le_refl _) ?_
    refine e_ifB_eq (tgt := 182) dX12_next_125 (by decide) (fun c100 => ?_) (fun c100 => ?_)
    · replace H := of_ (nb c100) H
      obtain rfl := Option.some.inj H
      exact e_wk (lk0 (lk1 (lk0 lkn))) kE
    · replace H := ot c100 H
      refine g_aload_n dX12_next_128 rfl rfl ?_
      refine e_iload_n dX12_next_129 rfl ?_
      refine e_bipush (v := (8 : Int32)) dX12_next_130 (by decide) ?_
      replace H := ob H; obtain ⟨q102, c106, H⟩ := H
      have k103 : En G (d + 1) miX12_next 163 [.ref 60, dum, .int x2] [.long q102, .ref 60] h r h' := by
        refine e_putL (hYTM.t 0 rfl) fpX12_267_13 rfl dX12_next_163 ?_
        refine e_iinc dX12_next_166 rfl (ii_ (by decide : Int32.ofInt (1) = (1 : Int32))) (Nat.le_of_ble_eq_true rfl) rfl rfl ?_
        refine g_aload_n dX12_next_169 rfl rfl ?_
        refine e_dup dX12_next_170 rfl ?_
        refine e_getI (hYTM.t 0 rfl) flX12_251_13 dX12_next_171 rfl ?_
        refine e_iconst (v := (1 : Int32)) dX12_next_174 (by decide) ?_
        refine e_iadd dX12_next_175 ?_
        refine e_putI (hYTM.t 0 rfl) fpX12_251_13 rfl dX12_next_176 ?_
        refine e_goto (tgt := 107) dX12_next_179 (by decide) ?_
        exact e_wk (lk1 (lk1 (lk1 lkn))) (ih hYTM H kE)
      replace H := c106
      refine e_icmp_ge (tgt := 160) dX12_next_132 (by decide) (fun c101 => ?_) (fun c101 => ?_)
      · replace H := ot c101 H
        refine e_ldc2 (v := (-1 : Int64)) lkX12_275 dX12_next_160 ?_
        obtain rfl := Option.some.inj H
        exact e_wk (lk1 (lk1 (lk1 lkn))) k103
      · replace H := of_ c101 H
        refine e_ldc2 (v := (27 : Int64)) lkX12_271 dX12_next_135 ?_
        refine g_aload_n dX12_next_138 rfl rfl ?_
        refine e_getL (hYTM.t 0 rfl) flX12_267_13 dX12_next_139 rfl ?_
        refine e_lmul dX12_next_142 ?_
        refine g_aload_n dX12_next_143 rfl rfl ?_
        refine g_aload_n dX12_next_144 rfl rfl ?_
        refine e_getI (hYTM.t 0 rfl) flX12_251_13 dX12_next_145 rfl ?_
        replace H := ob H; obtain ⟨q104, c105, H⟩ := H
        refine v1 (hYTM.t 0 rfl) (by decide) rfl rfl lmX12_254 liX12_byteAt lvX12_X12_byteAt msX12_byteAt dX12_next_148 (t_X12_byteAt (d + 0) hYTM c105) rfl (Nat.le_of_ble_eq_true rfl) (Nat.le_refl _) ?_
        refine e_i2l dX12_next_151 ?_
        refine e_ladd dX12_next_152 ?_
        refine e_ldc2 (v := (96 : Int64)) lkX12_273 dX12_next_153 ?_
        refine e_lsub dX12_next_156 ?_
        refine e_goto (tgt := 163) dX12_next_157 (by decide) ?_
        obtain rfl := Option.some.inj H
        exact e_wk (lk1 (lk1 (lk1 lkn))) k103
def f_X12_next  (h : HS) : Option HS := (Option.bind (l_X12_next_0  1000 h) (fun q13 => (Option.bind (f_X12_byteAt (hI (sI q13 60 29 (hI q13 60 31)) 60 31) (sI q13 60 29 (hI q13 60 31))) (fun q17 => (if 0 ≤ q17 then (Option.bind (f_X12_in q17.toInt64 (97 : Int64) (122 : Int64)) (fun q20 => (if q20 = true then (Option.bind (l_X12_next_107  1000 (0 : Int32) (sL (sI (sI (sI q13 60 29 (hI q13 60 31)) 60 28 (4 : Int32)) 60 28 (1 : Int32)) 60 30 (0 : Int64))) (fun q107 => (some q107))) else (Option.bind (f_X12_in q17.toInt64 (48 : Int64) (57 : Int64)) (fun q23 => (if q23 = true then (Option.bind (l_X12_next_211  1000 (0 : Int32) (sL (sI (sI (sI q13 60 29 (hI q13 60 31)) 60 28 (4 : Int32)) 60 28 (2 : Int32)) 60 30 (0 : Int64))) (fun q80 => (if q80.1 ≤ (4 : Int32) then (some (sI q80.2 60 28 (2 : Int32))) else (some (sI q80.2 60 28 (4 : Int32)))))) else (if q17 = (40 : Int32) then (bh (sI (sL (sI (sI (sI q13 60 29 (hI q13 60 31)) 60 28 (4 : Int32)) 60 28 (3 : Int32)) 60 30 q17.toInt64) 60 31 ((hI (sL (sI (sI (sI q13 60 29 (hI q13 60 31)) 60 28 (4 : Int32)) 60 28 (3 : Int32)) 60 30 q17.toInt64) 60 31) + (1 : Int32))) (fun h27 => (some h27))) else (if q17 = (41 : Int32) then (bh (sI (sL (sI (sI (sI q13 60 29 (hI q13 60 31)) 60 28 (4 : Int32)) 60 28 (3 : Int32)) 60 30 q17.toInt64) 60 31 ((hI (sL (sI (sI (sI q13 60 29 (hI q13 60 31)) 60 28 (4 : Int32)) 60 28 (3 : Int32)) 60 30 q17.toInt64) 60 31) + (1 : Int32))) (fun h31 => (some h31))) else (if q17 = (59 : Int32) then (bh (sI (sL (sI (sI (sI q13 60 29 (hI q13 60 31)) 60 28 (4 : Int32)) 60 28 (3 : Int32)) 60 30 q17.toInt64) 60 31 ((hI (sL (sI (sI (sI q13 60 29 (hI q13 60 31)) 60 28 (4 : Int32)) 60 28 (3 : Int32)) 60 30 q17.toInt64) 60 31) + (1 : Int32))) (fun h35 => (some h35))) else (if q17 = (43 : Int32) then (bh (sI (sL (sI (sI (sI q13 60 29 (hI q13 60 31)) 60 28 (4 : Int32)) 60 28 (3 : Int32)) 60 30 q17.toInt64) 60 31 ((hI (sL (sI (sI (sI q13 60 29 (hI q13 60 31)) 60 28 (4 : Int32)) 60 28 (3 : Int32)) 60 30 q17.toInt64) 60 31) + (1 : Int32))) (fun h39 => (some h39))) else (if q17 = (45 : Int32) then (bh (sI (sL (sI (sI (sI q13 60 29 (hI q13 60 31)) 60 28 (4 : Int32)) 60 28 (3 : Int32)) 60 30 q17.toInt64) 60 31 ((hI (sL (sI (sI (sI q13 60 29 (hI q13 60 31)) 60 28 (4 : Int32)) 60 28 (3 : Int32)) 60 30 q17.toInt64) 60 31) + (1 : Int32))) (fun h43 => (some h43))) else (if q17 = (42 : Int32) then (bh (sI (sL (sI (sI (sI q13 60 29 (hI q13 60 31)) 60 28 (4 : Int32)) 60 28 (3 : Int32)) 60 30 q17.toInt64) 60 31 ((hI (sL (sI (sI (sI q13 60 29 (hI q13 60 31)) 60 28 (4 : Int32)) 60 28 (3 : Int32)) 60 30 q17.toInt64) 60 31) + (1 : Int32))) (fun h47 => (some h47))) else (if q17 = (60 : Int32) then (bh (sI (sL (sI (sI (sI q13 60 29 (hI q13 60 31)) 60 28 (4 : Int32)) 60 28 (3 : Int32)) 60 30 q17.toInt64) 60 31 ((hI (sL (sI (sI (sI q13 60 29 (hI q13 60 31)) 60 28 (4 : Int32)) 60 28 (3 : Int32)) 60 30 q17.toInt64) 60 31) + (1 : Int32))) (fun h51 => (some h51))) else (if q17 = (61 : Int32) then (bh (sI (sL (sI (sI (sI q13 60 29 (hI q13 60 31)) 60 28 (4 : Int32)) 60 28 (3 : Int32)) 60 30 q17.toInt64) 60 31 ((hI (sL (sI (sI (sI q13 60 29 (hI q13 60 31)) 60 28 (4 : Int32)) 60 28 (3 : Int32)) 60 30 q17.toInt64) 60 31) + (1 : Int32))) (fun h55 => (some h55))) else (some (sI (sI q13 60 29 (hI q13 60 31)) 60 28 (4 : Int32))))))))))))))))) else (bh (sI (sI (sI (sI q13 60 29 (hI q13 60 31)) 60 28 (4 : Int32)) 60 28 (0 : Int32)) 60 29 (hI (sI (sI (sI q13 60 29 (hI q13 60 31)) 60 28 (4 : Int32)) 60 28 (0 : Int32)) 60 27)) (fun h111 => (some h111))))))))
set_option maxHeartbeats 4000000 in
set_option maxRecDepth 20000 in
theorem p_X12_next  {h : HS} {q : HS} (H : f_X12_next h = some q) : Pr h q := by
  unfold f_X12_next at H
  replace H := ob H; obtain ⟨q13, c14, H⟩ := H
  have e15 := p_X12_next_0 1000 c14
  replace H := ob H; obtain ⟨q17, c18, H⟩ := H
  replace H := oi H; obtain ⟨c19, H⟩ | ⟨c19, H⟩ := H
  · replace H := ob H; obtain ⟨q20, c21, H⟩ := H
    replace H := oi H; obtain ⟨c22, H⟩ | ⟨c22, H⟩ := H
    · replace H := ob H; obtain ⟨q107, c108, H⟩ := H
      have e109 := p_X12_next_107 1000 c108
      obtain rfl := Option.some.inj H
      exact (e15.tr e109)
    · replace H := ob H; obtain ⟨q23, c24, H⟩ := H
      replace H := oi H; obtain ⟨c25, H⟩ | ⟨c25, H⟩ := H
      · replace H := ob H; obtain ⟨q80, c81, H⟩ := H
        have e82 := p_X12_next_211 1000 c81
        replace H := oi H; obtain ⟨c84, H⟩ | ⟨c84, H⟩ := H
        · obtain rfl := Option.some.inj H
          exact (e15.tr e82)
        · obtain rfl := Option.some.inj H
          exact (e15.tr e82)
      · replace H := oi H; obtain ⟨c26, H⟩ | ⟨c26, H⟩ := H
        · replace H := obh H; obtain ⟨h27, e28, H⟩ := H
          obtain rfl := Option.some.inj H
          exact (kP e28 e15)
        · replace H := oi H; obtain ⟨c30, H⟩ | ⟨c30, H⟩ := H
          · replace H := obh H; obtain ⟨h31, e32, H⟩ := H
            obtain rfl := Option.some.inj H
            exact (kP e32 e15)
          · replace H := oi H; obtain ⟨c34, H⟩ | ⟨c34, H⟩ := H
            · replace H := obh H; obtain ⟨h35, e36, H⟩ := H
              obtain rfl := Option.some.inj H
              exact (kP e36 e15)
            · replace H := oi H; obtain ⟨c38, H⟩ | ⟨c38, H⟩ := H
              · replace H := obh H; obtain ⟨h39, e40, H⟩ := H
                obtain rfl := Option.some.inj H
                exact (kP e40 e15)
              · replace H := oi H; obtain ⟨c42, H⟩ | ⟨c42, H⟩ := H
                · replace H := obh H; obtain ⟨h43, e44, H⟩ := H
                  obtain rfl := Option.some.inj H
                  exact (kP e44 e15)
                · replace H := oi H; obtain ⟨c46, H⟩ | ⟨c46, H⟩ := H
                  · replace H := obh H; obtain ⟨h47, e48, H⟩ := H
                    obtain rfl := Option.some.inj H
                    exact (kP e48 e15)
                  · replace H := oi H; obtain ⟨c50, H⟩ | ⟨c50, H⟩ := H
                    · replace H := obh H; obtain ⟨h51, e52, H⟩ := H
                      obtain rfl := Option.some.inj H
                      exact (kP e52 e15)
                    · replace H := oi H; obtain ⟨c54, H⟩ | ⟨c54, H⟩ := H
                      · replace H := obh H; obtain ⟨h55, e56, H⟩ := H
                        obtain rfl := Option.some.inj H
                        exact (kP e56 e15)
                      · obtain rfl := Option.some.inj H
                        exact e15
  · replace H := obh H; obtain ⟨h111, e112, H⟩ := H
    obtain rfl := Option.some.inj H
    exact (kP e112 e15)
set_option maxHeartbeats 4000000 in
set_option maxRecDepth 20000 in
theorem t_X12_next {G : GE} (d : Nat)  {h : HS} {q : HS} (hY : LY TM h) (H : f_X12_next h = some q) : CE G (d + 1) yX12_next miX12_next [.ref 60] h (none) (q) := by
  unfold f_X12_next at H
  refine ce_of rfl (by decide) (fun q => by first | rfl | cases q) (Nat.le_of_ble_eq_true rfl) rfl ?_
  replace H := ob H; obtain ⟨q13, c14, H⟩ := H
  have e15 := p_X12_next_0 1000 c14
  have hY16 := hY.pr okM e15
  refine e_wk (lk1 (lk1 (lk1 lkn))) (w_X12_next_0 d 1000 hY c14 ?_)
  refine g_aload_n dX12_next_39 rfl rfl ?_
  refine g_aload_n dX12_next_40 rfl rfl ?_
  refine e_getI (hY16.t 0 rfl) flX12_251_13 dX12_next_41 rfl ?_
  refine e_putI (hY16.t 0 rfl) fpX12_257_13 rfl dX12_next_44 ?_
  refine g_aload_n dX12_next_47 rfl rfl ?_
  refine g_aload_n dX12_next_48 rfl rfl ?_
  refine e_getI (hY16.t 0 rfl) flX12_251_13 dX12_next_49 rfl ?_
  replace H := ob H; obtain ⟨q17, c18, H⟩ := H
  refine v1 (hY16.t 0 rfl) (by decide) rfl rfl lmX12_254 liX12_byteAt lvX12_X12_byteAt msX12_byteAt dX12_next_52 (t_X12_byteAt (d + 0) hY16 c18) rfl (Nat.le_of_ble_eq_true rfl) (Nat.le_refl _) ?_
  refine e_istore_n dX12_next_55 (Nat.le_of_ble_eq_true rfl) rfl rfl ?_
  refine g_aload_n dX12_next_56 rfl rfl ?_
  refine e_iconst (v := (4 : Int32)) dX12_next_57 (by decide) ?_
  refine e_putI (hY16.t 0 rfl) fpX12_260_13 rfl dX12_next_58 ?_
  refine e_iload_n dX12_next_61 rfl ?_
  refine e_if_ge (tgt := 81) dX12_next_62 (by decide) (fun c19 => ?_) (fun c19 => ?_)
  · replace H := ot c19 H
    refine e_iload_n dX12_next_81 rfl ?_
    refine e_i2l dX12_next_82 ?_
    refine e_ldc2 (v := (97 : Int64)) lkX12_263 dX12_next_83 ?_
    refine e_ldc2 (v := (122 : Int64)) lkX12_265 dX12_next_86 ?_
    replace H := ob H; obtain ⟨q20, c21, H⟩ := H
    refine s1 lmX12_125 lsX12_in msX12_in dX12_next_89 (t_X12_in (d + 0) c21) rfl (Nat.le_of_ble_eq_true rfl) (Nat.le_refl _) ?_
    refine e_ifB_eq (tgt := 185) dX12_next_92 (by decide) (fun c22 => ?_) (fun c22 => ?_)
    · replace H := of_ (nb c22) H
      refine e_iload_n dX12_next_185 rfl ?_
      refine e_i2l dX12_next_186 ?_
      refine e_ldc2 (v := (48 : Int64)) lkX12_277 dX12_next_187 ?_
      refine e_ldc2 (v := (57 : Int64)) lkX12_279 dX12_next_190 ?_
      replace H := ob H; obtain ⟨q23, c24, H⟩ := H
      refine s1 lmX12_125 lsX12_in msX12_in dX12_next_193 (t_X12_in (d + 0) c24) rfl (Nat.le_of_ble_eq_true rfl) (Nat.le_refl _) ?_
      refine e_ifB_eq (tgt := 303) dX12_next_196 (by decide) (fun c25 => ?_) (fun c25 => ?_)
      · replace H := of_ (nb c25) H
        refine e_iload_n dX12_next_303 rfl ?_
        refine e_bipush (v := (40 : Int32)) dX12_next_304 (by decide) ?_
        refine e_icmp_eq (tgt := 351) dX12_next_306 (by decide) (fun c26 => ?_) (fun c26 => ?_)
        · replace H := ot c26 H
          refine g_aload_n dX12_next_351 rfl rfl ?_
          refine e_iconst (v := (3 : Int32)) dX12_next_352 (by decide) ?_
          refine e_putI (hY16.t 0 rfl) fpX12_260_13 rfl dX12_next_353 ?_
          refine g_aload_n dX12_next_356 rfl rfl ?_
          refine e_iload_n dX12_next_357 rfl ?_
          refine e_i2l dX12_next_358 ?_
          refine e_putL (hY16.t 0 rfl) fpX12_267_13 rfl dX12_next_359 ?_
          refine g_aload_n dX12_next_362 rfl rfl ?_
          refine e_dup dX12_next_363 rfl ?_
          refine e_getI (hY16.t 0 rfl) flX12_251_13 dX12_next_364 rfl ?_
          refine e_iconst (v := (1 : Int32)) dX12_next_367 (by decide) ?_
          refine e_iadd dX12_next_368 ?_
          refine e_putI (hY16.t 0 rfl) fpX12_251_13 rfl dX12_next_369 ?_
          replace H := obh H; obtain ⟨h27, e28, H⟩ := H
          refine e_hq e28 ?_
          have hY29 := kY e28 hY16
          obtain rfl := Option.some.inj H
          exact z_vret rfl dX12_next_372 rfl rfl
        · replace H := of_ c26 H
          refine e_iload_n dX12_next_309 rfl ?_
          refine e_bipush (v := (41 : Int32)) dX12_next_310 (by decide) ?_
          refine e_icmp_eq (tgt := 351) dX12_next_312 (by decide) (fun c30 => ?_) (fun c30 => ?_)
          · replace H := ot c30 H
            refine g_aload_n dX12_next_351 rfl rfl ?_
            refine e_iconst (v := (3 : Int32)) dX12_next_352 (by decide) ?_
            refine e_putI (hY16.t 0 rfl) fpX12_260_13 rfl dX12_next_353 ?_
            refine g_aload_n dX12_next_356 rfl rfl ?_
            refine e_iload_n dX12_next_357 rfl ?_
            refine e_i2l dX12_next_358 ?_
            refine e_putL (hY16.t 0 rfl) fpX12_267_13 rfl dX12_next_359 ?_
            refine g_aload_n dX12_next_362 rfl rfl ?_
            refine e_dup dX12_next_363 rfl ?_
            refine e_getI (hY16.t 0 rfl) flX12_251_13 dX12_next_364 rfl ?_
            refine e_iconst (v := (1 : Int32)) dX12_next_367 (by decide) ?_
            refine e_iadd dX12_next_368 ?_
            refine e_putI (hY16.t 0 rfl) fpX12_251_13 rfl dX12_next_369 ?_
            replace H := obh H; obtain ⟨h31, e32, H⟩ := H
            refine e_hq e32 ?_
            have hY33 := kY e32 hY16
            obtain rfl := Option.some.inj H
            exact z_vret rfl dX12_next_372 rfl rfl
          · replace H := of_ c30 H
            refine e_iload_n dX12_next_315 rfl ?_
            refine e_bipush (v := (59 : Int32)) dX12_next_316 (by decide) ?_
            refine e_icmp_eq (tgt := 351) dX12_next_318 (by decide) (fun c34 => ?_) (fun c34 => ?_)
            · replace H := ot c34 H
              refine g_aload_n dX12_next_351 rfl rfl ?_
              refine e_iconst (v := (3 : Int32)) dX12_next_352 (by decide) ?_
              refine e_putI (hY16.t 0 rfl) fpX12_260_13 rfl dX12_next_353 ?_
              refine g_aload_n dX12_next_356 rfl rfl ?_
              refine e_iload_n dX12_next_357 rfl ?_
              refine e_i2l dX12_next_358 ?_
              refine e_putL (hY16.t 0 rfl) fpX12_267_13 rfl dX12_next_359 ?_
              refine g_aload_n dX12_next_362 rfl rfl ?_
              refine e_dup dX12_next_363 rfl ?_
              refine e_getI (hY16.t 0 rfl) flX12_251_13 dX12_next_364 rfl ?_
              refine e_iconst (v := (1 : Int32)) dX12_next_367 (by decide) ?_
              refine e_iadd dX12_next_368 ?_
              refine e_putI (hY16.t 0 rfl) fpX12_251_13 rfl dX12_next_369 ?_
              replace H := obh H; obtain ⟨h35, e36, H⟩ := H
              refine e_hq e36 ?_
              have hY37 := kY e36 hY16
              obtain rfl := Option.some.inj H
              exact z_vret rfl dX12_next_372 rfl rfl
            · replace H := of_ c34 H
              refine e_iload_n dX12_next_321 rfl ?_
              refine e_bipush (v := (43 : Int32)) dX12_next_322 (by decide) ?_
              refine e_icmp_eq (tgt := 351) dX12_next_324 (by decide) (fun c38 => ?_) (fun c38 => ?_)
              · replace H := ot c38 H
                refine g_aload_n dX12_next_351 rfl rfl ?_
                refine e_iconst (v := (3 : Int32)) dX12_next_352 (by decide) ?_
                refine e_putI (hY16.t 0 rfl) fpX12_260_13 rfl dX12_next_353 ?_
                refine g_aload_n dX12_next_356 rfl rfl ?_
                refine e_iload_n dX12_next_357 rfl ?_
                refine e_i2l dX12_next_358 ?_
                refine e_putL (hY16.t 0 rfl) fpX12_267_13 rfl dX12_next_359 ?_
                refine g_aload_n dX12_next_362 rfl rfl ?_
                refine e_dup dX12_next_363 rfl ?_
                refine e_getI (hY16.t 0 rfl) flX12_251_13 dX12_next_364 rfl ?_
                refine e_iconst (v := (1 : Int32)) dX12_next_367 (by decide) ?_
                refine e_iadd dX12_next_368 ?_
                refine e_putI (hY16.t 0 rfl) fpX12_251_13 rfl dX12_next_369 ?_
                replace H := obh H; obtain ⟨h39, e40, H⟩ := H
                refine e_hq e40 ?_
                have hY41 := kY e40 hY16
                obtain rfl := Option.some.inj H
                exact z_vret rfl dX12_next_372 rfl rfl
              · replace H := of_ c38 H
                refine e_iload_n dX12_next_327 rfl ?_
                refine e_bipush (v := (45 : Int32)) dX12_next_328 (by decide) ?_
                refine e_icmp_eq (tgt := 351) dX12_next_330 (by decide) (fun c42 => ?_) (fun c42 => ?_)
                · replace H := ot c42 H
                  refine g_aload_n dX12_next_351 rfl rfl ?_
                  refine e_iconst (v := (3 : Int32)) dX12_next_352 (by decide) ?_
                  refine e_putI (hY16.t 0 rfl) fpX12_260_13 rfl dX12_next_353 ?_
                  refine g_aload_n dX12_next_356 rfl rfl ?_
                  refine e_iload_n dX12_next_357 rfl ?_
                  refine e_i2l dX12_next_358 ?_
                  refine e_putL (hY16.t 0 rfl) fpX12_267_13 rfl dX12_next_359 ?_
                  refine g_aload_n dX12_next_362 rfl rfl ?_
                  refine e_dup dX12_next_363 rfl ?_
                  refine e_getI (hY16.t 0 rfl) flX12_251_13 dX12_next_364 rfl ?_
                  refine e_iconst (v := (1 : Int32)) dX12_next_367 (by decide) ?_
                  refine e_iadd dX12_next_368 ?_
                  refine e_putI (hY16.t 0 rfl) fpX12_251_13 rfl dX12_next_369 ?_
                  replace H := obh H; obtain ⟨h43, e44, H⟩ := H
                  refine e_hq e44 ?_
                  have hY45 := kY e44 hY16
                  obtain rfl := Option.some.inj H
                  exact z_vret rfl dX12_next_372 rfl rfl
                · replace H := of_ c42 H
                  refine e_iload_n dX12_next_333 rfl ?_
                  refine e_bipush (v := (42 : Int32)) dX12_next_334 (by decide) ?_
                  refine e_icmp_eq (tgt := 351) dX12_next_336 (by decide) (fun c46 => ?_) (fun c46 => ?_)
                  · replace H := ot c46 H
                    refine g_aload_n dX12_next_351 rfl rfl ?_
                    refine e_iconst (v := (3 : Int32)) dX12_next_352 (by decide) ?_
                    refine e_putI (hY16.t 0 rfl) fpX12_260_13 rfl dX12_next_353 ?_
                    refine g_aload_n dX12_next_356 rfl rfl ?_
                    refine e_iload_n dX12_next_357 rfl ?_
                    refine e_i2l dX12_next_358 ?_
                    refine e_putL (hY16.t 0 rfl) fpX12_267_13 rfl dX12_next_359 ?_
                    refine g_aload_n dX12_next_362 rfl rfl ?_
                    refine e_dup dX12_next_363 rfl ?_
                    refine e_getI (hY16.t 0 rfl) flX12_251_13 dX12_next_364 rfl ?_
                    refine e_iconst (v := (1 : Int32)) dX12_next_367 (by decide) ?_
                    refine e_iadd dX12_next_368 ?_
                    refine e_putI (hY16.t 0 rfl) fpX12_251_13 rfl dX12_next_369 ?_
                    replace H := obh H; obtain ⟨h47, e48, H⟩ := H
                    refine e_hq e48 ?_
                    have hY49 := kY e48 hY16
                    obtain rfl := Option.some.inj H
                    exact z_vret rfl dX12_next_372 rfl rfl
                  · replace H := of_ c46 H
                    refine e_iload_n dX12_next_339 rfl ?_
                    refine e_bipush (v := (60 : Int32)) dX12_next_340 (by decide) ?_
                    refine e_icmp_eq (tgt := 351) dX12_next_342 (by decide) (fun c50 => ?_) (fun c50 => ?_)
                    · replace H := ot c50 H
                      refine g_aload_n dX12_next_351 rfl rfl ?_
                      refine e_iconst (v := (3 : Int32)) dX12_next_352 (by decide) ?_
                      refine e_putI (hY16.t 0 rfl) fpX12_260_13 rfl dX12_next_353 ?_
                      refine g_aload_n dX12_next_356 rfl rfl ?_
                      refine e_iload_n dX12_next_357 rfl ?_
                      refine e_i2l dX12_next_358 ?_
                      refine e_putL (hY16.t 0 rfl) fpX12_267_13 rfl dX12_next_359 ?_
                      refine g_aload_n dX12_next_362 rfl rfl ?_
                      refine e_dup dX12_next_363 rfl ?_
                      refine e_getI (hY16.t 0 rfl) flX12_251_13 dX12_next_364 rfl ?_
                      refine e_iconst (v := (1 : Int32)) dX12_next_367 (by decide) ?_
                      refine e_iadd dX12_next_368 ?_
                      refine e_putI (hY16.t 0 rfl) fpX12_251_13 rfl dX12_next_369 ?_
                      replace H := obh H; obtain ⟨h51, e52, H⟩ := H
                      refine e_hq e52 ?_
                      have hY53 := kY e52 hY16
                      obtain rfl := Option.some.inj H
                      exact z_vret rfl dX12_next_372 rfl rfl
                    · replace H := of_ c50 H
                      refine e_iload_n dX12_next_345 rfl ?_
                      refine e_bipush (v := (61 : Int32)) dX12_next_346 (by decide) ?_
                      refine e_icmp_ne (tgt := 372) dX12_next_348 (by decide) (fun c54 => ?_) (fun c54 => ?_)
                      · replace H := of_ c54 H
                        obtain rfl := Option.some.inj H
                        exact z_vret rfl dX12_next_372 rfl rfl
                      · replace H := ot c54 H
                        refine g_aload_n dX12_next_351 rfl rfl ?_
                        refine e_iconst (v := (3 : Int32)) dX12_next_352 (by decide) ?_
                        refine e_putI (hY16.t 0 rfl) fpX12_260_13 rfl dX12_next_353 ?_
                        refine g_aload_n dX12_next_356 rfl rfl ?_
                        refine e_iload_n dX12_next_357 rfl ?_
                        refine e_i2l dX12_next_358 ?_
                        refine e_putL (hY16.t 0 rfl) fpX12_267_13 rfl dX12_next_359 ?_
                        refine g_aload_n dX12_next_362 rfl rfl ?_
                        refine e_dup dX12_next_363 rfl ?_
                        refine e_getI (hY16.t 0 rfl) flX12_251_13 dX12_next_364 rfl ?_
                        refine e_iconst (v := (1 : Int32)) dX12_next_367 (by decide) ?_
                        refine e_iadd dX12_next_368 ?_
                        refine e_putI (hY16.t 0 rfl) fpX12_251_13 rfl dX12_next_369 ?_
                        replace H := obh H; obtain ⟨h55, e56, H⟩ := H
                        refine e_hq e56 ?_
                        have hY57 := kY e56 hY16
                        obtain rfl := Option.some.inj H
                        exact z_vret rfl dX12_next_372 rfl rfl
      · replace H := ot c25 H
        refine g_aload_n dX12_next_199 rfl rfl ?_
        refine e_iconst (v := (2 : Int32)) dX12_next_200 (by decide) ?_
        refine e_putI (hY16.t 0 rfl) fpX12_260_13 rfl dX12_next_201 ?_
        refine g_aload_n dX12_next_204 rfl rfl ?_
        refine e_lconst (v := (0 : Int64)) dX12_next_205 (by decide) ?_
        refine e_putL (hY16.t 0 rfl) fpX12_267_13 rfl dX12_next_206 ?_
        refine e_iconst (v := (0 : Int32)) dX12_next_209 (by decide) ?_
        refine e_istore_n dX12_next_210 (Nat.le_of_ble_eq_true rfl) rfl rfl ?_
        replace H := ob H; obtain ⟨q80, c81, H⟩ := H
        have e82 := p_X12_next_211 1000 c81
        have hY83 := hY16.pr okM e82
        refine e_wk (lk1 (lk0 (lk1 lkn))) (w_X12_next_211 d 1000 hY16 c81 ?_)
        refine g_aload_n dX12_next_286 rfl rfl ?_
        refine e_iload_n dX12_next_287 rfl ?_
        refine e_iconst (v := (4 : Int32)) dX12_next_288 (by decide) ?_
        refine e_icmp_le (tgt := 296) dX12_next_289 (by decide) (fun c84 => ?_) (fun c84 => ?_)
        · replace H := ot c84 H
          refine e_iconst (v := (2 : Int32)) dX12_next_296 (by decide) ?_
          refine e_putI (hY83.t 0 rfl) fpX12_260_13 rfl dX12_next_297 ?_
          refine e_goto (tgt := 372) dX12_next_300 (by decide) ?_
          obtain rfl := Option.some.inj H
          exact z_vret rfl dX12_next_372 rfl rfl
        · replace H := of_ c84 H
          refine e_iconst (v := (4 : Int32)) dX12_next_292 (by decide) ?_
          refine e_goto (tgt := 297) dX12_next_293 (by decide) ?_
          refine e_putI (hY83.t 0 rfl) fpX12_260_13 rfl dX12_next_297 ?_
          refine e_goto (tgt := 372) dX12_next_300 (by decide) ?_
          obtain rfl := Option.some.inj H
          exact z_vret rfl dX12_next_372 rfl rfl
    · replace H := ot c22 H
      refine g_aload_n dX12_next_95 rfl rfl ?_
      refine e_iconst (v := (1 : Int32)) dX12_next_96 (by decide) ?_
      refine e_putI (hY16.t 0 rfl) fpX12_260_13 rfl dX12_next_97 ?_
      refine g_aload_n dX12_next_100 rfl rfl ?_
      refine e_lconst (v := (0 : Int64)) dX12_next_101 (by decide) ?_
      refine e_putL (hY16.t 0 rfl) fpX12_267_13 rfl dX12_next_102 ?_
      refine e_iconst (v := (0 : Int32)) dX12_next_105 (by decide) ?_
      refine e_istore_n dX12_next_106 (Nat.le_of_ble_eq_true rfl) rfl rfl ?_
      replace H := ob H; obtain ⟨q107, c108, H⟩ := H
      have e109 := p_X12_next_107 1000 c108
      have hY110 := hY16.pr okM e109
      refine e_wk (lk1 (lk0 (lk1 lkn))) (w_X12_next_107 d 1000 hY16 c108 ?_)
      refine e_goto (tgt := 372) dX12_next_182 (by decide) ?_
      obtain rfl := Option.some.inj H
      exact z_vret rfl dX12_next_372 rfl rfl
  · replace H := of_ c19 H
    refine g_aload_n dX12_next_65 rfl rfl ?_
    refine e_iconst (v := (0 : Int32)) dX12_next_66 (by decide) ?_
    refine e_putI (hY16.t 0 rfl) fpX12_260_13 rfl dX12_next_67 ?_
    refine g_aload_n dX12_next_70 rfl rfl ?_
    refine g_aload_n dX12_next_71 rfl rfl ?_
    refine e_getI (hY16.t 0 rfl) flX12_245_13 dX12_next_72 rfl ?_
    refine e_putI (hY16.t 0 rfl) fpX12_257_13 rfl dX12_next_75 ?_
    replace H := obh H; obtain ⟨h111, e112, H⟩ := H
    refine e_hq e112 ?_
    have hY113 := kY e112 hY16
    refine e_goto (tgt := 372) dX12_next_78 (by decide) ?_
    obtain rfl := Option.some.inj H
    exact z_vret rfl dX12_next_372 rfl rfl
