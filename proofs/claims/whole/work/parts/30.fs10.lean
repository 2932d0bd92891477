-- X11_triesWon
def l_X11_triesWon_4 (h : HS)  : Nat → Int32 → Int32 → Option Int32
  | 0, _, _ => none
  | n + 1, x1, x2 => (if (hI h 32 5) ≤ x2 then (some x1) else (Option.bind (f_X11_tryField x2 (3 : Int32) h) (fun q6 => (if q6 = (1 : Int32) then (l_X11_triesWon_4 h n (x1 + (1 : Int32)) (x2 + (1 : Int32))) else (l_X11_triesWon_4 h n (x1 + (0 : Int32)) (x2 + (1 : Int32)))))))
set_option maxHeartbeats 4000000 in
set_option maxRecDepth 20000 in
theorem w_X11_triesWon_4 {G : GE} (d : Nat)  {h : HS} {r : Option Value} {h' : HS} (hYTX : LY TX h) : ∀ (n : Nat) {x1 : Int32} {x2 : Int32} {q : Int32}, l_X11_triesWon_4 h n x1 x2 = some q → En G (d + 2) miX11_triesWon 36 [dum, .int q, dum] [] h r h' → En G (d + 2) miX11_triesWon 4 [.ref 32, .int x1, .int x2] [] h r h' := by
  intro n
  induction n with
  | zero => intro x1 x2 q H kE; exact nz H
  | succ n ih =>
    intro x1 x2 q H kE
    unfold l_X11_triesWon_4 at H
    refine e_iload_n dX11_triesWon_4 rfl ?_
    refine g_aload_n dX11_triesWon_5 rfl rfl ?_
    refine e_getI (hYTX.t 0 rfl) flX11_30_12 dX11_triesWon_6 rfl ?_
    refine e_icmp_ge (tgt := 36) dX11_triesWon_9 (by decide) (fun c5 => ?_) (fun c5 => ?_)
    · replace H := ot c5 H
      obtain rfl := Option.some.inj H
      exact e_wk (lk0 (lk1 (lk0 lkn))) kE
    · replace H := of_ c5 H
      refine e_iload_n dX11_triesWon_12 rfl ?_
      refine g_aload_n dX11_triesWon_13 rfl rfl ?_
      refine e_iload_n dX11_triesWon_14 rfl ?_
      refine e_iconst (v := (3 : Int32)) dX11_triesWon_15 (by decide) ?_
      replace H := ob H; obtain ⟨q6, c7, H⟩ := H
      refine v1 (hYTX.t 0 rfl) (by decide) rfl rfl lmX11_246 liX11_tryField lvX11_X11_tryField msX11_tryField dX11_triesWon_16 (t_X11_tryField (d + 0) hYTX c7) rfl (Nat.le_of_ble_eq_true rfl) (Nat.le_refl _) ?_
      refine e_iconst (v := (1 : Int32)) dX11_triesWon_19 (by decide) ?_
      refine e_icmp_ne (tgt := 27) dX11_triesWon_20 (by decide) (fun c8 => ?_) (fun c8 => ?_)
      · replace H := of_ c8 H
        refine e_iconst (v := (0 : Int32)) dX11_triesWon_27 (by decide) ?_
        refine e_iadd dX11_triesWon_28 ?_
        refine e_istore_n dX11_triesWon_29 (Nat.le_of_ble_eq_true rfl) rfl rfl ?_
        refine e_iinc dX11_triesWon_30 rfl (ii_ (by decide : Int32.ofInt (1) = (1 : Int32))) (Nat.le_of_ble_eq_true rfl) rfl rfl ?_
        refine e_goto (tgt := 4) dX11_triesWon_33 (by decide) ?_
        exact e_wk (lk1 (lk1 (lk1 lkn))) (ih H kE)
      · replace H := ot c8 H
        refine e_iconst (v := (1 : Int32)) dX11_triesWon_23 (by decide) ?_
        refine e_goto (tgt := 28) dX11_triesWon_24 (by decide) ?_
        refine e_iadd dX11_triesWon_28 ?_
        refine e_istore_n dX11_triesWon_29 (Nat.le_of_ble_eq_true rfl) rfl rfl ?_
        refine e_iinc dX11_triesWon_30 rfl (ii_ (by decide : Int32.ofInt (1) = (1 : Int32))) (Nat.le_of_ble_eq_true rfl) rfl rfl ?_
        refine e_goto (tgt := 4) dX11_triesWon_33 (by decide) ?_
        exact e_wk (lk1 (lk1 (lk1 lkn))) (ih H kE)
def f_X11_triesWon  (h : HS) : Option Int32 := (Option.bind (l_X11_triesWon_4 h 1000 (0 : Int32) (0 : Int32)) (fun q9 => (some q9)))
set_option maxHeartbeats 4000000 in
set_option maxRecDepth 20000 in
theorem t_X11_triesWon {G : GE} (d : Nat)  {h : HS} {q : Int32} (hY : LY TX h) (H : f_X11_triesWon h = some q) : CE G (d + 2) yX11_triesWon miX11_triesWon [.ref 32] h (some (.int q)) (h) := by
  unfold f_X11_triesWon at H
  refine ce_of rfl (by decide) (fun q => by first | rfl | cases q) (Nat.le_of_ble_eq_true rfl) rfl ?_
  refine e_iconst (v := (0 : Int32)) dX11_triesWon_0 (by decide) ?_
  refine e_istore_n dX11_triesWon_1 (Nat.le_of_ble_eq_true rfl) rfl rfl ?_
  refine e_iconst (v := (0 : Int32)) dX11_triesWon_2 (by decide) ?_
  refine e_istore_n dX11_triesWon_3 (Nat.le_of_ble_eq_true rfl) rfl rfl ?_
  replace H := ob H; obtain ⟨q9, c10, H⟩ := H
  refine e_wk (lk1 (lk1 (lk1 lkn))) (w_X11_triesWon_4 d hY 1000 c10 ?_)
  refine e_iload_n dX11_triesWon_36 rfl ?_
  obtain rfl := Option.some.inj H
  exact z_iret rfl rfl dX11_triesWon_37 rfl rfl
-- X11_count
def f_X11_count (p1 : Int32) (h : HS) : Option Int32 := (if p1 = (0 : Int32) then (if hT h 33 = 1 then (Option.bind (f_Jx4a65c_size_8abf5 33 h) (fun q17 => (some q17))) else none) else (if p1 = (1 : Int32) then (if hT h 34 = 1 then (Option.bind (f_Jx4a65c_size_8abf5 34 h) (fun q14 => (some q14))) else none) else (if p1 = (2 : Int32) then (some (hI h 32 5)) else (if p1 = (3 : Int32) then (some (hI h 32 8)) else (if p1 = (4 : Int32) then (if hT h 35 = 1 then (Option.bind (f_Jx4a65c_size_8abf5 35 h) (fun q11 => (some q11))) else none) else (if p1 = (5 : Int32) then (some (hI h 39 1)) else (if p1 = (6 : Int32) then (some (hI h 32 3)) else (if p1 = (7 : Int32) then (Option.bind (f_X11_triesWon h) (fun q9 => (some q9))) else (some (-2 : Int32))))))))))
set_option maxHeartbeats 4000000 in
set_option maxRecDepth 20000 in
theorem t_X11_count {G : GE} (d : Nat) {p1 : Int32} {h : HS} {q : Int32} (hY : LY TX h) (H : f_X11_count p1 h = some q) : CE G (d + 3) yX11_count miX11_count [.ref 32, .int p1] h (some (.int q)) (h) := by
  unfold f_X11_count at H
  refine ce_of rfl (by decide) (fun q => by first | rfl | cases q) (Nat.le_of_ble_eq_true rfl) rfl ?_
  refine e_iload_n dX11_count_0 rfl ?_
  by_cases k1 : p1 = (0 : Int32)
  · replace H := ot k1 H
    refine e_tableIn (off := 47) (tgt := 48) dX11_count_1 (by rw [k1]; decide) (by rw [k1]; decide) (by rw [k1]; rfl) (by decide) ?_
    refine g_aload_n dX11_count_48 rfl rfl ?_
    refine e_getR (hY.t 0 rfl) flX11_12_12 dX11_count_49 rfl (hY.r 0 rfl) ?_
    replace H := og H; obtain ⟨g19, H⟩ := H
    replace H := ob H; obtain ⟨q17, c18, H⟩ := H
    refine v1 (hY.t 1 rfl) (by decide) rfl rfl lmX11_114 liJx4a65c_size_8abf5 lvJx4a65c_Jx4a65c_size_8abf5 msJx4a65c_size_8abf5 dX11_count_52 (t_Jx4a65c_size_8abf5 (d + 2) c18) rfl (Nat.le_of_ble_eq_true rfl) (Nat.le_refl _) ?_
    obtain rfl := Option.some.inj H
    exact z_iret rfl rfl dX11_count_55 rfl rfl
  · replace H := of_ k1 H
    by_cases k2 : p1 = (1 : Int32)
    · replace H := ot k2 H
      refine e_tableIn (off := 55) (tgt := 56) dX11_count_1 (by rw [k2]; decide) (by rw [k2]; decide) (by rw [k2]; rfl) (by decide) ?_
      refine g_aload_n dX11_count_56 rfl rfl ?_
      refine e_getR (hY.t 0 rfl) flX11_16_12 dX11_count_57 rfl (hY.r 1 rfl) ?_
      replace H := og H; obtain ⟨g16, H⟩ := H
      replace H := ob H; obtain ⟨q14, c15, H⟩ := H
      refine v1 (hY.t 2 rfl) (by decide) rfl rfl lmX11_114 liJx4a65c_size_8abf5 lvJx4a65c_Jx4a65c_size_8abf5 msJx4a65c_size_8abf5 dX11_count_60 (t_Jx4a65c_size_8abf5 (d + 2) c15) rfl (Nat.le_of_ble_eq_true rfl) (Nat.le_refl _) ?_
      obtain rfl := Option.some.inj H
      exact z_iret rfl rfl dX11_count_63 rfl rfl
    · replace H := of_ k2 H
      by_cases k3 : p1 = (2 : Int32)
      · replace H := ot k3 H
        refine e_tableIn (off := 63) (tgt := 64) dX11_count_1 (by rw [k3]; decide) (by rw [k3]; decide) (by rw [k3]; rfl) (by decide) ?_
        refine g_aload_n dX11_count_64 rfl rfl ?_
        refine e_getI (hY.t 0 rfl) flX11_30_12 dX11_count_65 rfl ?_
        obtain rfl := Option.some.inj H
        exact z_iret rfl rfl dX11_count_68 rfl rfl
      · replace H := of_ k3 H
        by_cases k4 : p1 = (3 : Int32)
        · replace H := ot k4 H
          refine e_tableIn (off := 68) (tgt := 69) dX11_count_1 (by rw [k4]; decide) (by rw [k4]; decide) (by rw [k4]; rfl) (by decide) ?_
          refine g_aload_n dX11_count_69 rfl rfl ?_
          refine e_getI (hY.t 0 rfl) flX11_39_12 dX11_count_70 rfl ?_
          obtain rfl := Option.some.inj H
          exact z_iret rfl rfl dX11_count_73 rfl rfl
        · replace H := of_ k4 H
          by_cases k5 : p1 = (4 : Int32)
          · replace H := ot k5 H
            refine e_tableIn (off := 73) (tgt := 74) dX11_count_1 (by rw [k5]; decide) (by rw [k5]; decide) (by rw [k5]; rfl) (by decide) ?_
            refine g_aload_n dX11_count_74 rfl rfl ?_
            refine e_getR (hY.t 0 rfl) flX11_19_12 dX11_count_75 rfl (hY.r 2 rfl) ?_
            replace H := og H; obtain ⟨g13, H⟩ := H
            replace H := ob H; obtain ⟨q11, c12, H⟩ := H
            refine v1 (hY.t 3 rfl) (by decide) rfl rfl lmX11_114 liJx4a65c_size_8abf5 lvJx4a65c_Jx4a65c_size_8abf5 msJx4a65c_size_8abf5 dX11_count_78 (t_Jx4a65c_size_8abf5 (d + 2) c12) rfl (Nat.le_of_ble_eq_true rfl) (Nat.le_refl _) ?_
            obtain rfl := Option.some.inj H
            exact z_iret rfl rfl dX11_count_81 rfl rfl
          · replace H := of_ k5 H
            by_cases k6 : p1 = (5 : Int32)
            · replace H := ot k6 H
              refine e_tableIn (off := 81) (tgt := 82) dX11_count_1 (by rw [k6]; decide) (by rw [k6]; decide) (by rw [k6]; rfl) (by decide) ?_
              refine g_aload_n dX11_count_82 rfl rfl ?_
              refine e_getR (hY.t 0 rfl) flX11_45_12 dX11_count_83 rfl (hY.r 6 rfl) ?_
              refine e_getI (hY.t 7 rfl) flX11_284_7 dX11_count_86 rfl ?_
              obtain rfl := Option.some.inj H
              exact z_iret rfl rfl dX11_count_89 rfl rfl
            · replace H := of_ k6 H
              by_cases k7 : p1 = (6 : Int32)
              · replace H := ot k7 H
                refine e_tableIn (off := 89) (tgt := 90) dX11_count_1 (by rw [k7]; decide) (by rw [k7]; decide) (by rw [k7]; rfl) (by decide) ?_
                refine g_aload_n dX11_count_90 rfl rfl ?_
                refine e_getI (hY.t 0 rfl) flX11_22_12 dX11_count_91 rfl ?_
                obtain rfl := Option.some.inj H
                exact z_iret rfl rfl dX11_count_94 rfl rfl
              · replace H := of_ k7 H
                by_cases k8 : p1 = (7 : Int32)
                · replace H := ot k8 H
                  refine e_tableIn (off := 94) (tgt := 95) dX11_count_1 (by rw [k8]; decide) (by rw [k8]; decide) (by rw [k8]; rfl) (by decide) ?_
                  refine g_aload_n dX11_count_95 rfl rfl ?_
                  replace H := ob H; obtain ⟨q9, c10, H⟩ := H
                  refine v1 (hY.t 0 rfl) (by decide) rfl rfl lmX11_391 liX11_triesWon lvX11_X11_triesWon msX11_triesWon dX11_count_96 (t_X11_triesWon (d + 0) hY c10) rfl (Nat.le_of_ble_eq_true rfl) (Nat.le_refl _) ?_
                  obtain rfl := Option.some.inj H
                  exact z_iret rfl rfl dX11_count_99 rfl rfl
                · replace H := of_ k8 H
                  refine e_tableOut (tgt := 100) dX11_count_1 (by have q0 : p1.toInt ≠ 0 := i32_ne k1; have q1 : p1.toInt ≠ 1 := i32_ne k2; have q2 : p1.toInt ≠ 2 := i32_ne k3; have q3 : p1.toInt ≠ 3 := i32_ne k4; have q4 : p1.toInt ≠ 4 := i32_ne k5; have q5 : p1.toInt ≠ 5 := i32_ne k6; have q6 : p1.toInt ≠ 6 := i32_ne k7; have q7 : p1.toInt ≠ 7 := i32_ne k8; omega) (by decide) ?_
                  refine e_bipush (v := (-2 : Int32)) dX11_count_100 (by decide) ?_
                  obtain rfl := Option.some.inj H
                  exact z_iret rfl rfl dX11_count_102 rfl rfl
-- X11_isSheet
def f_X11_isSheet (p0 : Int32) : Option Bool := (Option.bind (f_X11_isIn p0 (0 : Int32) (3 : Int32)) (fun q1 => (some q1)))
set_option maxHeartbeats 4000000 in
set_option maxRecDepth 20000 in
theorem t_X11_isSheet {G : GE} (d : Nat) {p0 : Int32} {h : HS} {q : Bool} (H : f_X11_isSheet p0 = some q) : CE G (d + 1) yX11_isSheet miX11_isSheet [.int p0] h (some (.int (b2i q))) (h) := by
  unfold f_X11_isSheet at H
  refine ce_of rfl (by decide) (fun q => by first | rfl | cases q) (Nat.le_of_ble_eq_true rfl) rfl ?_
  refine e_iload_n dX11_isSheet_0 rfl ?_
  refine e_iconst (v := (0 : Int32)) dX11_isSheet_1 (by decide) ?_
  refine e_iconst (v := (3 : Int32)) dX11_isSheet_2 (by decide) ?_
  replace H := ob H; obtain ⟨q1, c2, H⟩ := H
  refine s1 lmX11_106 lsX11_isIn msX11_isIn dX11_isSheet_3 (t_X11_isIn (d + 0) c2) rfl (Nat.le_of_ble_eq_true rfl) (Nat.le_refl _) ?_
  obtain rfl := Option.some.inj H
  exact z_bret rfl dX11_isSheet_6 rfl rfl
-- X11_sheet
def f_X11_sheet (p1 : Int32) (p2 : Int32) (p3 : Int32) (h : HS) : Option (Int32 × HS) := (Option.bind (f_X11_isSheet p1) (fun q1 => (if q1 = true then (Option.bind (f_X11_isIn p2 (-1 : Int32) (2 : Int32)) (fun q4 => (if q4 = true then (if p2 < 0 then (if p2 < 0 then (if p2 < 0 then (if ixb p1 4 = true then (if ixb p1 4 = true then (some ((1 : Int32), (sI (sR h 46 p1.toNatClampNeg none) 47 p1.toNatClampNeg p2))) else none) else none) else (if nab p3 = true then (if hT h (hN h) = 0 then (bh (hNew h 15 p3.toNatClampNeg p3.toNatClampNeg) (fun h18 => (if ixb p1 4 = true then (if ixb p1 4 = true then (some ((1 : Int32), (sI (sR h18 46 p1.toNatClampNeg (some (hN h))) 47 p1.toNatClampNeg p2))) else none) else none))) else none) else none)) else (if 0 ≤ p3 then (if p2 < 0 then (if ixb p1 4 = true then (if ixb p1 4 = true then (some ((1 : Int32), (sI (sR h 46 p1.toNatClampNeg none) 47 p1.toNatClampNeg p2))) else none) else none) else (if nab p3 = true then (if hT h (hN h) = 0 then (bh (hNew h 15 p3.toNatClampNeg p3.toNatClampNeg) (fun h37 => (if ixb p1 4 = true then (if ixb p1 4 = true then (some ((1 : Int32), (sI (sR h37 46 p1.toNatClampNeg (some (hN h))) 47 p1.toNatClampNeg p2))) else none) else none))) else none) else none)) else (some ((-14 : Int32), h)))) else (if p3 ≤ (40 : Int32) then (if p2 < 0 then (if p2 < 0 then (if ixb p1 4 = true then (if ixb p1 4 = true then (some ((1 : Int32), (sI (sR h 46 p1.toNatClampNeg none) 47 p1.toNatClampNeg p2))) else none) else none) else (if nab p3 = true then (if hT h (hN h) = 0 then (bh (hNew h 15 p3.toNatClampNeg p3.toNatClampNeg) (fun h57 => (if ixb p1 4 = true then (if ixb p1 4 = true then (some ((1 : Int32), (sI (sR h57 46 p1.toNatClampNeg (some (hN h))) 47 p1.toNatClampNeg p2))) else none) else none))) else none) else none)) else (if 0 ≤ p3 then (if p2 < 0 then (if ixb p1 4 = true then (if ixb p1 4 = true then (some ((1 : Int32), (sI (sR h 46 p1.toNatClampNeg none) 47 p1.toNatClampNeg p2))) else none) else none) else (if nab p3 = true then (if hT h (hN h) = 0 then (bh (hNew h 15 p3.toNatClampNeg p3.toNatClampNeg) (fun h76 => (if ixb p1 4 = true then (if ixb p1 4 = true then (some ((1 : Int32), (sI (sR h76 46 p1.toNatClampNeg (some (hN h))) 47 p1.toNatClampNeg p2))) else none) else none))) else none) else none)) else (some ((-14 : Int32), h)))) else (some ((-2 : Int32), h)))) else (some ((-2 : Int32), h))))) else (some ((-2 : Int32), h)))))
set_option maxHeartbeats 4000000 in
set_option maxRecDepth 20000 in
theorem p_X11_sheet {p1 : Int32} {p2 : Int32} {p3 : Int32} {h : HS} {q : (Int32 × HS)} (H : f_X11_sheet p1 p2 p3 h = some q) : Pr h q.2 := by
  unfold f_X11_sheet at H
  replace H := ob H; obtain ⟨q1, c2, H⟩ := H
  replace H := oi H; obtain ⟨c3, H⟩ | ⟨c3, H⟩ := H
  · replace H := ob H; obtain ⟨q4, c5, H⟩ := H
    replace H := oi H; obtain ⟨c6, H⟩ | ⟨c6, H⟩ := H
    · replace H := oi H; obtain ⟨c7, H⟩ | ⟨c7, H⟩ := H
      · replace H := oi H; obtain ⟨c8, H⟩ | ⟨c8, H⟩ := H
        · replace H := oi H; obtain ⟨c9, H⟩ | ⟨c9, H⟩ := H
          · replace H := og H; obtain ⟨g10, H⟩ := H
            have e11 := Pr.sR (h := h) (a := 46) (k := p1.toNatClampNeg) (v := none) Pr.rf (fixR_no (by decide))
            replace H := og H; obtain ⟨g13, H⟩ := H
            obtain rfl := Option.some.inj H
            exact (e11.sI)
          · replace H := og H; obtain ⟨g14, H⟩ := H
            replace H := og H; obtain ⟨g15, H⟩ := H
            have e16 := Pr.nw (h := h) (kd := 15) (ln := p3.toNatClampNeg) (ns := p3.toNatClampNeg) Pr.rf g15
            replace H := obh H; obtain ⟨h18, e19, H⟩ := H
            replace H := og H; obtain ⟨g22, H⟩ := H
            have e23 := Pr.sR (h := h18) (a := 46) (k := p1.toNatClampNeg) (v := (some (hN h))) Pr.rf (fixR_no (by decide))
            replace H := og H; obtain ⟨g26, H⟩ := H
            obtain rfl := Option.some.inj H
            exact (((kP e19 e16).tr e23).sI)
        · replace H := oi H; obtain ⟨c27, H⟩ | ⟨c27, H⟩ := H
          · replace H := oi H; obtain ⟨c28, H⟩ | ⟨c28, H⟩ := H
            · replace H := og H; obtain ⟨g29, H⟩ := H
              have e30 := Pr.sR (h := h) (a := 46) (k := p1.toNatClampNeg) (v := none) Pr.rf (fixR_no (by decide))
              replace H := og H; obtain ⟨g32, H⟩ := H
              obtain rfl := Option.some.inj H
              exact (e30.sI)
            · replace H := og H; obtain ⟨g33, H⟩ := H
              replace H := og H; obtain ⟨g34, H⟩ := H
              have e35 := Pr.nw (h := h) (kd := 15) (ln := p3.toNatClampNeg) (ns := p3.toNatClampNeg) Pr.rf g34
              replace H := obh H; obtain ⟨h37, e38, H⟩ := H
              replace H := og H; obtain ⟨g41, H⟩ := H
              have e42 := Pr.sR (h := h37) (a := 46) (k := p1.toNatClampNeg) (v := (some (hN h))) Pr.rf (fixR_no (by decide))
              replace H := og H; obtain ⟨g45, H⟩ := H
              obtain rfl := Option.some.inj H
              exact (((kP e38 e35).tr e42).sI)
          · obtain rfl := Option.some.inj H
            exact Pr.rf
      · replace H := oi H; obtain ⟨c46, H⟩ | ⟨c46, H⟩ := H
        · replace H := oi H; obtain ⟨c47, H⟩ | ⟨c47, H⟩ := H
          · replace H := oi H; obtain ⟨c48, H⟩ | ⟨c48, H⟩ := H
            · replace H := og H; obtain ⟨g49, H⟩ := H
              have e50 := Pr.sR (h := h) (a := 46) (k := p1.toNatClampNeg) (v := none) Pr.rf (fixR_no (by decide))
              replace H := og H; obtain ⟨g52, H⟩ := H
              obtain rfl := Option.some.inj H
              exact (e50.sI)
            · replace H := og H; obtain ⟨g53, H⟩ := H
              replace H := og H; obtain ⟨g54, H⟩ := H
              have e55 := Pr.nw (h := h) (kd := 15) (ln := p3.toNatClampNeg) (ns := p3.toNatClampNeg) Pr.rf g54
              replace H := obh H; obtain ⟨h57, e58, H⟩ := H
              replace H := og H; obtain ⟨g61, H⟩ := H
              have e62 := Pr.sR (h := h57) (a := 46) (k := p1.toNatClampNeg) (v := (some (hN h))) Pr.rf (fixR_no (by decide))
              replace H := og H; obtain ⟨g65, H⟩ := H
              obtain rfl := Option.some.inj H
              exact (((kP e58 e55).tr e62).sI)
          · replace H := oi H; obtain ⟨c66, H⟩ | ⟨c66, H⟩ := H
            · replace H := oi H; obtain ⟨c67, H⟩ | ⟨c67, H⟩ := H
              · replace H := og H; obtain ⟨g68, H⟩ := H
                have e69 := Pr.sR (h := h) (a := 46) (k := p1.toNatClampNeg) (v := none) Pr.rf (fixR_no (by decide))
                replace H := og H; obtain ⟨g71, H⟩ := H
                obtain rfl := Option.some.inj H
                exact (e69.sI)
              · replace H := og H; obtain ⟨g72, H⟩ := H
                replace H := og H; obtain ⟨g73, H⟩ := H
                have e74 := Pr.nw (h := h) (kd := 15) (ln := p3.toNatClampNeg) (ns := p3.toNatClampNeg) Pr.rf g73
                replace H := obh H; obtain ⟨h76, e77, H⟩ := H
                replace H := og H; obtain ⟨g80, H⟩ := H
                have e81 := Pr.sR (h := h76) (a := 46) (k := p1.toNatClampNeg) (v := (some (hN h))) Pr.rf (fixR_no (by decide))
                replace H := og H; obtain ⟨g84, H⟩ := H
                obtain rfl := Option.some.inj H
                exact (((kP e77 e74).tr e81).sI)
            · obtain rfl := Option.some.inj H
              exact Pr.rf
        · obtain rfl := Option.some.inj H
          exact Pr.rf
    · obtain rfl := Option.some.inj H
      exact Pr.rf
  · obtain rfl := Option.some.inj H
    exact Pr.rf
set_option maxHeartbeats 4000000 in
set_option maxRecDepth 20000 in
theorem t_X11_sheet {G : GE} (d : Nat) {p1 : Int32} {p2 : Int32} {p3 : Int32} {h : HS} {q : (Int32 × HS)} (hY : LY TX h) (H : f_X11_sheet p1 p2 p3 h = some q) : CE G (d + 2) yX11_sheet miX11_sheet [.ref 32, .int p1, .int p2, .int p3] h (some (.int q.1)) (q.2) := by
  unfold f_X11_sheet at H
  refine ce_of rfl (by decide) (fun q => by first | rfl | cases q) (Nat.le_of_ble_eq_true rfl) rfl ?_
  refine e_iload_n dX11_sheet_0 rfl ?_
  replace H := ob H; obtain ⟨q1, c2, H⟩ := H
  refine s1 lmX11_410 lsX11_isSheet msX11_isSheet dX11_sheet_1 (t_X11_isSheet (d + 0) c2) rfl (Nat.le_of_ble_eq_true rfl) (Nat.le_refl _) ?_
  refine e_ifB_eq (tgt := 26) dX11_sheet_4 (by decide) (fun c3 => ?_) (fun c3 => ?_)
  · replace H := of_ (nb c3) H
    refine e_bipush (v := (-2 : Int32)) dX11_sheet_26 (by decide) ?_
    obtain rfl := Option.some.inj H
    exact z_iret rfl rfl dX11_sheet_28 rfl rfl
  · replace H := ot c3 H
    refine e_iload_n dX11_sheet_7 rfl ?_
    refine e_iconst (v := (-1 : Int32)) dX11_sheet_8 (by decide) ?_
    refine e_iconst (v := (2 : Int32)) dX11_sheet_9 (by decide) ?_
    replace H := ob H; obtain ⟨q4, c5, H⟩ := H
    refine s1 lmX11_106 lsX11_isIn msX11_isIn dX11_sheet_10 (t_X11_isIn (d + 1) c5) rfl (Nat.le_of_ble_eq_true rfl) (Nat.le_refl _) ?_
    refine e_ifB_eq (tgt := 26) dX11_sheet_13 (by decide) (fun c6 => ?_) (fun c6 => ?_)
    · replace H := of_ (nb c6) H
      refine e_bipush (v := (-2 : Int32)) dX11_sheet_26 (by decide) ?_
      obtain rfl := Option.some.inj H
      exact z_iret rfl rfl dX11_sheet_28 rfl rfl
    · replace H := ot c6 H
      refine e_iload_n dX11_sheet_16 rfl ?_
      refine e_if_lt (tgt := 29) dX11_sheet_17 (by decide) (fun c7 => ?_) (fun c7 => ?_)
      · replace H := ot c7 H
        refine e_iload_n dX11_sheet_29 rfl ?_
        refine e_if_lt (tgt := 40) dX11_sheet_30 (by decide) (fun c8 => ?_) (fun c8 => ?_)
        · replace H := ot c8 H
          refine g_aload_n dX11_sheet_40 rfl rfl ?_
          refine e_getR (hY.t 0 rfl) flX11_57_12 dX11_sheet_41 rfl (hY.r 8 rfl) ?_
          refine e_iload_n dX11_sheet_44 rfl ?_
          refine e_iload_n dX11_sheet_45 rfl ?_
          refine e_if_lt (tgt := 55) dX11_sheet_46 (by decide) (fun c9 => ?_) (fun c9 => ?_)
          · replace H := ot c9 H
            refine e_null dX11_sheet_55 ?_
            replace H := og H; obtain ⟨g10, H⟩ := H
            refine e_aastN (hY.t 14 rfl) rfl (ixb_y (hY.n 14 rfl) g10) dX11_sheet_56 ?_
            have e11 := Pr.sR (h := h) (a := 46) (k := p1.toNatClampNeg) (v := none) Pr.rf (fixR_no (by decide))
            have hY12 := hY.pr okX e11
            refine g_aload_n dX11_sheet_57 rfl rfl ?_
            refine e_getR (hY12.t 0 rfl) flX11_61_12 dX11_sheet_58 rfl (hY12.r 9 rfl) ?_
            refine e_iload_n dX11_sheet_61 rfl ?_
            refine e_iload_n dX11_sheet_62 rfl ?_
            replace H := og H; obtain ⟨g13, H⟩ := H
            refine e_iast (hY12.t 15 rfl) (ixb_y (hY12.n 15 rfl) g13) dX11_sheet_63 ?_
            refine e_iconst (v := (1 : Int32)) dX11_sheet_64 (by decide) ?_
            obtain rfl := Option.some.inj H
            exact z_iret rfl rfl dX11_sheet_65 rfl rfl
          · replace H := of_ c9 H
            refine e_iload_n dX11_sheet_49 rfl ?_
            replace H := og H; obtain ⟨g14, H⟩ := H
            replace H := og H; obtain ⟨g15, H⟩ := H
            refine e_newa (atype := .int) (kd := 15) rfl (by decide) la_int (nab_t g14).1 (nab_t g14).2 dX11_sheet_50 ?_
            have e16 := Pr.nw (h := h) (kd := 15) (ln := p3.toNatClampNeg) (ns := p3.toNatClampNeg) Pr.rf g15
            have hY17 := hY.pr okX e16
            replace H := obh H; obtain ⟨h18, e19, H⟩ := H
            refine e_hq e19 ?_
            have hY20 := kY e19 hY17
            have f21 := kT e19 hT_new
            refine e_goto (tgt := 56) dX11_sheet_52 (by decide) ?_
            replace H := og H; obtain ⟨g22, H⟩ := H
            refine e_aastI (hY20.t 14 rfl) rfl (ixb_y (hY20.n 14 rfl) g22) f21 dX11_sheet_56 ?_
            have e23 := Pr.sR (h := h18) (a := 46) (k := p1.toNatClampNeg) (v := (some (hN h))) Pr.rf (fixR_no (by decide))
            have hY24 := hY20.pr okX e23
            have f25 := e23.k f21 (by decide)
            refine g_aload_n dX11_sheet_57 rfl rfl ?_
            refine e_getR (hY24.t 0 rfl) flX11_61_12 dX11_sheet_58 rfl (hY24.r 9 rfl) ?_
            refine e_iload_n dX11_sheet_61 rfl ?_
            refine e_iload_n dX11_sheet_62 rfl ?_
            replace H := og H; obtain ⟨g26, H⟩ := H
            refine e_iast (hY24.t 15 rfl) (ixb_y (hY24.n 15 rfl) g26) dX11_sheet_63 ?_
            refine e_iconst (v := (1 : Int32)) dX11_sheet_64 (by decide) ?_
            obtain rfl := Option.some.inj H
            exact z_iret rfl rfl dX11_sheet_65 rfl rfl
        · replace H := of_ c8 H
          refine e_iload_n dX11_sheet_33 rfl ?_
          refine e_if_ge (tgt := 40) dX11_sheet_34 (by decide) (fun c27 => ?_) (fun c27 => ?_)
          · replace H := ot c27 H
            refine g_aload_n dX11_sheet_40 rfl rfl ?_
            refine e_getR (hY.t 0 rfl) flX11_57_12 dX11_sheet_41 rfl (hY.r 8 rfl) ?_
            refine e_iload_n dX11_sheet_44 rfl ?_
            refine e_iload_n dX11_sheet_45 rfl ?_
            refine e_if_lt (tgt := 55) dX11_sheet_46 (by decide) (fun c28 => ?_) (fun c28 => ?_)
            · replace H := ot c28 H
              refine e_null dX11_sheet_55 ?_
              replace H := og H; obtain ⟨g29, H⟩ := H
              refine e_aastN (hY.t 14 rfl) rfl (ixb_y (hY.n 14 rfl) g29) dX11_sheet_56 ?_
              have e30 := Pr.sR (h := h) (a := 46) (k := p1.toNatClampNeg) (v := none) Pr.rf (fixR_no (by decide))
              have hY31 := hY.pr okX e30
              refine g_aload_n dX11_sheet_57 rfl rfl ?_
              refine e_getR (hY31.t 0 rfl) flX11_61_12 dX11_sheet_58 rfl (hY31.r 9 rfl) ?_
              refine e_iload_n dX11_sheet_61 rfl ?_
              refine e_iload_n dX11_sheet_62 rfl ?_
              replace H := og H; obtain ⟨g32, H⟩ := H
              refine e_iast (hY31.t 15 rfl) (ixb_y (hY31.n 15 rfl) g32) dX11_sheet_63 ?_
              refine e_iconst (v := (1 : Int32)) dX11_sheet_64 (by decide) ?_
              obtain rfl := Option.some.inj H
              exact z_iret rfl rfl dX11_sheet_65 rfl rfl
            · replace H := of_ c28 H
              refine e_iload_n dX11_sheet_49 rfl ?_
              replace H := og H; obtain ⟨g33, H⟩ := H
              replace H := og H; obtain ⟨g34, H⟩ := H
              refine e_newa (atype := .int) (kd := 15) rfl (by decide) la_int (nab_t g33).1 (nab_t g33).2 dX11_sheet_50 ?_
              have e35 := Pr.nw (h := h) (kd := 15) (ln := p3.toNatClampNeg) (ns := p3.toNatClampNeg) Pr.rf g34
              have hY36 := hY.pr okX e35
              replace H := obh H; obtain ⟨h37, e38, H⟩ := H
              refine e_hq e38 ?_
              have hY39 := kY e38 hY36
              have f40 := kT e38 hT_new
              refine e_goto (tgt := 56) dX11_sheet_52 (by decide) ?_
              replace H := og H; obtain ⟨g41, H⟩ := H
              refine e_aastI (hY39.t 14 rfl) rfl (ixb_y (hY39.n 14 rfl) g41) f40 dX11_sheet_56 ?_
              have e42 := Pr.sR (h := h37) (a := 46) (k := p1.toNatClampNeg) (v := (some (hN h))) Pr.rf (fixR_no (by decide))
              have hY43 := hY39.pr okX e42
              have f44 := e42.k f40 (by decide)
              refine g_aload_n dX11_sheet_57 rfl rfl ?_
              refine e_getR (hY43.t 0 rfl) flX11_61_12 dX11_sheet_58 rfl (hY43.r 9 rfl) ?_
              refine e_iload_n dX11_sheet_61 rfl ?_
              refine e_iload_n dX11_sheet_62 rfl ?_
              replace H := og H; obtain ⟨g45, H⟩ := H
              refine e_iast (hY43.t 15 rfl) (ixb_y (hY43.n 15 rfl) g45) dX11_sheet_63 ?_
              refine e_iconst (v := (1 : Int32)) dX11_sheet_64 (by decide) ?_
              obtain rfl := Option.some.inj H
              exact z_iret rfl rfl dX11_sheet_65 rfl rfl
          · replace H := of_ c27 H
            refine e_bipush (v := (-14 : Int32)) dX11_sheet_37 (by decide) ?_
            obtain rfl := Option.some.inj H
            exact z_iret rfl rfl dX11_sheet_39 rfl rfl
      · replace H := of_ c7 H
        refine e_iload_n dX11_sheet_20 rfl ?_
        refine e_bipush (v := (40 : Int32)) dX11_sheet_21 (by decide) ?_
        refine e_icmp_le (tgt := 29) dX11_sheet_23 (by decide) (fun c46 => ?_) (fun c46 => ?_)
        · replace H := ot c46 H
          refine e_iload_n dX11_sheet_29 rfl ?_
          refine e_if_lt (tgt := 40) dX11_sheet_30 (by decide) (fun c47 => ?_) (fun c47 => ?_)
          · replace H := ot c47 H
            refine g_aload_n dX11_sheet_40 rfl rfl ?_
            refine e_getR (hY.t 0 rfl) flX11_57_12 dX11_sheet_41 rfl (hY.r 8 rfl) ?_
            refine e_iload_n dX11_sheet_44 rfl ?_
            refine e_iload_n dX11_sheet_45 rfl ?_
            refine e_if_lt (tgt := 55) dX11_sheet_46 (by decide) (fun c48 => ?_) (fun c48 => ?_)
            · replace H := ot c48 H
              refine e_null dX11_sheet_55 ?_
              replace H := og H; obtain ⟨g49, H⟩ := H
              refine e_aastN (hY.t 14 rfl) rfl (ixb_y (hY.n 14 rfl) g49) dX11_sheet_56 ?_
              have e50 := Pr.sR (h := h) (a := 46) (k := p1.toNatClampNeg) (v := none) Pr.rf (fixR_no (by decide))
              have hY51 := hY.pr okX e50
              refine g_aload_n dX11_sheet_57 rfl rfl ?_
              refine e_getR (hY51.t 0 rfl) flX11_61_12 dX11_sheet_58 rfl (hY51.r 9 rfl) ?_
              refine e_iload_n dX11_sheet_61 rfl ?_
              refine e_iload_n dX11_sheet_62 rfl ?_
              replace H := og H; obtain ⟨g52, H⟩ := H
              refine e_iast (hY51.t 15 rfl) (ixb_y (hY51.n 15 rfl) g52) dX11_sheet_63 ?_
              refine e_iconst (v := (1 : Int32)) dX11_sheet_64 (by decide) ?_
              obtain rfl := Option.some.inj H
              exact z_iret rfl rfl dX11_sheet_65 rfl rfl
            · replace H := of_ c48 H
              refine e_iload_n dX11_sheet_49 rfl ?_
              replace H := og H; obtain ⟨g53, H⟩ := H
              replace H := og H; obtain ⟨g54, H⟩ := H
              refine e_newa (atype := .int) (kd := 15) rfl (by decide) la_int (nab_t g53).1 (nab_t g53).2 dX11_sheet_50 ?_
              have e55 := Pr.nw (h := h) (kd := 15) (ln := p3.toNatClampNeg) (ns := p3.toNatClampNeg) Pr.rf g54
              have hY56 := hY.pr okX e55
              replace H := obh H; obtain ⟨h57, e58, H⟩ := H
              refine e_hq e58 ?_
              have hY59 := kY e58 hY56
              have f60 := kT e58 hT_new
              refine e_goto (tgt := 56) dX11_sheet_52 (by decide) ?_
              replace H := og H; obtain ⟨g61, H⟩ := H
              refine e_aastI (hY59.t 14 rfl) rfl (ixb_y (hY59.n 14 rfl) g61) f60 dX11_sheet_56 ?_
              have e62 := Pr.sR (h := h57) (a := 46) (k := p1.toNatClampNeg) (v := (some (hN h))) Pr.rf (fixR_no (by decide))
              have hY63 := hY59.pr okX e62
              have f64 := e62.k f60 (by decide)
              refine g_aload_n dX11_sheet_57 rfl rfl ?_
              refine e_getR (hY63.t 0 rfl) flX11_61_12 dX11_sheet_58 rfl (hY63.r 9 rfl) ?_
              refine e_iload_n dX11_sheet_61 rfl ?_
              refine e_iload_n dX11_sheet_62 rfl ?_
              replace H := og H; obtain ⟨g65, H⟩ := H
              refine e_iast (hY63.t 15 rfl) (ixb_y (hY63.n 15 rfl) g65) dX11_sheet_63 ?_
              refine e_iconst (v := (1 : Int32)) dX11_sheet_64 (by decide) ?_
              obtain rfl := Option.some.inj H
              exact z_iret rfl rfl dX11_sheet_65 rfl rfl
          · replace H := of_ c47 H
            refine e_iload_n dX11_sheet_33 rfl ?_
            refine e_if_ge (tgt := 40) dX11_sheet_34 (by decide) (fun c66 => ?_) (fun c66 => ?_)
            · replace H := ot c66 H
              refine g_aload_n dX11_sheet_40 rfl rfl ?_
              refine e_getR (hY.t 0 rfl) flX11_57_12 dX11_sheet_41 rfl (hY.r 8 rfl) ?_
              refine e_iload_n dX11_sheet_44 rfl ?_
              refine e_iload_n dX11_sheet_45 rfl ?_
              refine e_if_lt (tgt := 55) dX11_sheet_46 (by decide) (fun c67 => ?_) (fun c67 => ?_)
              · replace H := ot c67 H
                refine e_null dX11_sheet_55 ?_
                replace H := og H; obtain ⟨g68, H⟩ := H
                refine e_aastN (hY.t 14 rfl) rfl (ixb_y (hY.n 14 rfl) g68) dX11_sheet_56 ?_
                have e69 := Pr.sR (h := h) (a := 46) (k := p1.toNatClampNeg) (v := none) Pr.rf (fixR_no (by decide))
                have hY70 := hY.pr okX e69
                refine g_aload_n dX11_sheet_57 rfl rfl ?_
                refine e_getR (hY70.t 0 rfl) flX11_61_12 dX11_sheet_58 rfl (hY70.r 9 rfl) ?_
                refine e_iload_n dX11_sheet_61 rfl ?_
                refine e_iload_n dX11_sheet_62 rfl ?_
                replace H := og H; obtain ⟨g71, H⟩ := H
                refine e_iast (hY70.t 15 rfl) (ixb_y (hY70.n 15 rfl) g71) dX11_sheet_63 ?_
                refine e_iconst (v := (1 : Int32)) dX11_sheet_64 (by decide) ?_
                obtain rfl := Option.some.inj H
                exact z_iret rfl rfl dX11_sheet_65 rfl rfl
              · replace H := of_ c67 H
                refine e_iload_n dX11_sheet_49 rfl ?_
                replace H := og H; obtain ⟨g72, H⟩ := H
                replace H := og H; obtain ⟨g73, H⟩ := H
                refine e_newa (atype := .int) (kd := 15) rfl (by decide) la_int (nab_t g72).1 (nab_t g72).2 dX11_sheet_50 ?_
                have e74 := Pr.nw (h := h) (kd := 15) (ln := p3.toNatClampNeg) (ns := p3.toNatClampNeg) Pr.rf g73
                have hY75 := hY.pr okX e74
                replace H := obh H; obtain ⟨h76, e77, H⟩ := H
                refine e_hq e77 ?_
                have hY78 := kY e77 hY75
                have f79 := kT e77 hT_new
                refine e_goto (tgt := 56) dX11_sheet_52 (by decide) ?_
                replace H := og H; obtain ⟨g80, H⟩ := H
                refine e_aastI (hY78.t 14 rfl) rfl (ixb_y (hY78.n 14 rfl) g80) f79 dX11_sheet_56 ?_
                have e81 := Pr.sR (h := h76) (a := 46) (k := p1.toNatClampNeg) (v := (some (hN h))) Pr.rf (fixR_no (by decide))
                have hY82 := hY78.pr okX e81
                have f83 := e81.k f79 (by decide)
                refine g_aload_n dX11_sheet_57 rfl rfl ?_
                refine e_getR (hY82.t 0 rfl) flX11_61_12 dX11_sheet_58 rfl (hY82.r 9 rfl) ?_
                refine e_iload_n dX11_sheet_61 rfl ?_
                refine e_iload_n dX11_sheet_62 rfl ?_
                replace H := og H; obtain ⟨g84, H⟩ := H
                refine e_iast (hY82.t 15 rfl) (ixb_y (hY82.n 15 rfl) g84) dX11_sheet_63 ?_
                refine e_iconst (v := (1 : Int32)) dX11_sheet_64 (by decide) ?_
                obtain rfl := Option.some.inj H
                exact z_iret rfl rfl dX11_sheet_65 rfl rfl
            · replace H := of_ c66 H
              refine e_bipush (v := (-14 : Int32)) dX11_sheet_37 (by decide) ?_
              obtain rfl := Option.some.inj H
              exact z_iret rfl rfl dX11_sheet_39 rfl rfl
        · replace H := of_ c46 H
          refine e_bipush (v := (-2 : Int32)) dX11_sheet_26 (by decide) ?_
          obtain rfl := Option.some.inj H
          exact z_iret rfl rfl dX11_sheet_28 rfl rfl
-- X11_ofSort
def f_X11_ofSort (p0 : Int32) (p1 : Int32) : Option Int32 := (if p0 = (0 : Int32) then (some p1.toInt8.toInt32) else (if p0 = (1 : Int32) then (some p1.toInt16.toInt32) else (some p1)))
set_option maxHeartbeats 4000000 in
set_option maxRecDepth 20000 in
theorem t_X11_ofSort {G : GE} (d : Nat) {p0 : Int32} {p1 : Int32} {h : HS} {q : Int32} (H : f_X11_ofSort p0 p1 = some q) : CE G (d + 0) yX11_ofSort miX11_ofSort [.int p0, .int p1] h (some (.int q)) (h) := by
  unfold f_X11_ofSort at H
  refine ce_of rfl (by decide) (fun q => by first | rfl | cases q) (Nat.le_of_ble_eq_true rfl) rfl ?_
  refine e_iload_n dX11_ofSort_0 rfl ?_
  by_cases k1 : p0 = (0 : Int32)
  · replace H := ot k1 H
    refine e_lookup (off := 27) (tgt := 28) dX11_ofSort_1 (by decide) (by rw [k1]; decide) (by decide) ?_
    refine e_iload_n dX11_ofSort_28 rfl ?_
    refine e_i2b dX11_ofSort_29 ?_
    obtain rfl := Option.some.inj H
    exact z_iret rfl rfl dX11_ofSort_30 rfl rfl
  · replace H := of_ k1 H
    by_cases k2 : p0 = (1 : Int32)
    · replace H := ot k2 H
      refine e_lookup (off := 30) (tgt := 31) dX11_ofSort_1 (by decide) (by rw [k2]; decide) (by decide) ?_
      refine e_iload_n dX11_ofSort_31 rfl ?_
      refine e_i2s dX11_ofSort_32 ?_
      obtain rfl := Option.some.inj H
      exact z_iret rfl rfl dX11_ofSort_33 rfl rfl
    · replace H := of_ k2 H
      refine e_lookup (off := 33) (tgt := 34) dX11_ofSort_1 (by decide) (by have q0 : ¬ (0 : Int) = p0.toInt := fun z => i32_ne k1 z.symm; have q1 : ¬ (1 : Int) = p0.toInt := fun z => i32_ne k2 z.symm; simp [Op.lookupswitch.offset, *]) (by decide) ?_
      refine e_iload_n dX11_ofSort_34 rfl ?_
      obtain rfl := Option.some.inj H
      exact z_iret rfl rfl dX11_ofSort_35 rfl rfl
-- X11_cell
def f_X11_cell (p1 : Int32) (p2 : Int32) (p3 : Int32) (h : HS) : Option (Int32 × HS) := (Option.bind (f_X11_isSheet p1) (fun q1 => (if q1 = true then (if ixb p1 4 = true then (om (hR h 46 p1.toNatClampNeg) (some ((-11 : Int32), h)) (fun b5 => (if hT h b5 = 15 then (Option.bind (f_X11_isIn p2 (0 : Int32) ((nI (hLn h b5)) - (1 : Int32))) (fun q10 => (if q10 = true then (if ixb p1 4 = true then (Option.bind (f_X11_ofSort (hI h 47 p1.toNatClampNeg) p3) (fun q14 => (if ixb p2 (hLn h b5) = true then (some ((1 : Int32), (sI h b5 p2.toNatClampNeg q14))) else none))) else none) else (some ((-12 : Int32), h))))) else none))) else none) else (some ((-2 : Int32), h)))))
set_option maxHeartbeats 4000000 in
set_option maxRecDepth 20000 in
theorem p_X11_cell {p1 : Int32} {p2 : Int32} {p3 : Int32} {h : HS} {q : (Int32 × HS)} (H : f_X11_cell p1 p2 p3 h = some q) : Pr h q.2 := by
  unfold f_X11_cell at H
  replace H := ob H; obtain ⟨q1, c2, H⟩ := H
  replace H := oi H; obtain ⟨c3, H⟩ | ⟨c3, H⟩ := H
  · replace H := og H; obtain ⟨g4, H⟩ := H
    replace H := oom H; obtain ⟨e6, H⟩ | ⟨b5, e6, H⟩ := H
    · obtain rfl := Option.some.inj H
      exact Pr.rf
    · replace H := og H; obtain ⟨g9, H⟩ := H
      replace H := ob H; obtain ⟨q10, c11, H⟩ := H
      replace H := oi H; obtain ⟨c12, H⟩ | ⟨c12, H⟩ := H
      · replace H := og H; obtain ⟨g13, H⟩ := H
        replace H := ob H; obtain ⟨q14, c15, H⟩ := H
        replace H := og H; obtain ⟨g16, H⟩ := H
        obtain rfl := Option.some.inj H
        exact (Pr.rf.sI)
      · obtain rfl := Option.some.inj H
        exact Pr.rf
  · obtain rfl := Option.some.inj H
    exact Pr.rf
set_option maxHeartbeats 4000000 in
set_option maxRecDepth 20000 in
theorem t_X11_cell {G : GE} (d : Nat) {p1 : Int32} {p2 : Int32} {p3 : Int32} {h : HS} {q : (Int32 × HS)} (hY : LY TX h) (H : f_X11_cell p1 p2 p3 h = some q) : CE G (d + 2) yX11_cell miX11_cell [.ref 32, .int p1, .int p2, .int p3] h (some (.int q.1)) (q.2) := by
  unfold f_X11_cell at H
  refine ce_of rfl (by decide) (fun q => by first | rfl | cases q) (Nat.le_of_ble_eq_true rfl) rfl ?_
  refine e_iload_n dX11_cell_0 rfl ?_
  replace H := ob H; obtain ⟨q1, c2, H⟩ := H
  refine s1 lmX11_410 lsX11_isSheet msX11_isSheet dX11_cell_1 (t_X11_isSheet (d + 0) c2) rfl (Nat.le_of_ble_eq_true rfl) (Nat.le_refl _) ?_
  refine e_ifB_ne (tgt := 10) dX11_cell_4 (by decide) (fun c3 => ?_) (fun c3 => ?_)
  · replace H := ot c3 H
    refine g_aload_n dX11_cell_10 rfl rfl ?_
    refine e_getR (hY.t 0 rfl) flX11_57_12 dX11_cell_11 rfl (hY.r 8 rfl) ?_
    refine e_iload_n dX11_cell_14 rfl ?_
    replace H := og H; obtain ⟨g4, H⟩ := H
    replace H := oom H; obtain ⟨e6, H⟩ | ⟨b5, e6, H⟩ := H
    · refine e_aald (v := .null) (hY.t 14 rfl) (by decide) (ixb_y (hY.n 14 rfl) g4) (by rw [e6]; rfl) dX11_cell_15 ?_
      refine g_astore dX11_cell_16 (Nat.le_of_ble_eq_true rfl) rfl rfl rfl ?_
      refine g_aload dX11_cell_18 rfl rfl ?_
      refine e_ifnonnullN dX11_cell_20 ?_
      refine e_bipush (v := (-11 : Int32)) dX11_cell_23 (by decide) ?_
      obtain rfl := Option.some.inj H
      exact z_iret rfl rfl dX11_cell_25 rfl rfl
    · refine e_aald (v := .ref b5) (hY.t 14 rfl) (by decide) (ixb_y (hY.n 14 rfl) g4) (by rw [e6]; rfl) dX11_cell_15 ?_
      refine g_astore dX11_cell_16 (Nat.le_of_ble_eq_true rfl) rfl rfl rfl ?_
      refine g_aload dX11_cell_18 rfl rfl ?_
      refine e_ifnonnull (tgt := 26) dX11_cell_20 (by decide) ?_
      refine e_iload_n dX11_cell_26 rfl ?_
      refine e_iconst (v := (0 : Int32)) dX11_cell_27 (by decide) ?_
      refine g_aload dX11_cell_28 rfl rfl ?_
      replace H := og H; obtain ⟨g9, H⟩ := H
      refine e_alen g9 (by decide) dX11_cell_30 ?_
      refine e_iconst (v := (1 : Int32)) dX11_cell_31 (by decide) ?_
      refine e_isub dX11_cell_32 ?_
      replace H := ob H; obtain ⟨q10, c11, H⟩ := H
      refine s1 lmX11_106 lsX11_isIn msX11_isIn dX11_cell_33 (t_X11_isIn (d + 1) c11) rfl (Nat.le_of_ble_eq_true rfl) (Nat.le_refl _) ?_
      refine e_ifB_ne (tgt := 42) dX11_cell_36 (by decide) (fun c12 => ?_) (fun c12 => ?_)
      · replace H := ot c12 H
        refine g_aload dX11_cell_42 rfl rfl ?_
        refine e_iload_n dX11_cell_44 rfl ?_
        refine g_aload_n dX11_cell_45 rfl rfl ?_
        refine e_getR (hY.t 0 rfl) flX11_61_12 dX11_cell_46 rfl (hY.r 9 rfl) ?_
        refine e_iload_n dX11_cell_49 rfl ?_
        replace H := og H; obtain ⟨g13, H⟩ := H
        refine e_iald (hY.t 15 rfl) (ixb_y (hY.n 15 rfl) g13) dX11_cell_50 ?_
        refine e_iload_n dX11_cell_51 rfl ?_
        replace H := ob H; obtain ⟨q14, c15, H⟩ := H
        refine s1 lmX11_413 lsX11_ofSort msX11_ofSort dX11_cell_52 (t_X11_ofSort (d + 1) c15) rfl (Nat.le_of_ble_eq_true rfl) (Nat.le_refl _) ?_
        replace H := og H; obtain ⟨g16, H⟩ := H
        refine e_iast g9 (ixb_y rfl g16) dX11_cell_55 ?_
        refine e_iconst (v := (1 : Int32)) dX11_cell_56 (by decide) ?_
        obtain rfl := Option.some.inj H
        exact z_iret rfl rfl dX11_cell_57 rfl rfl
      · replace H := of_ (nb c12) H
        refine e_bipush (v := (-12 : Int32)) dX11_cell_39 (by decide) ?_
        obtain rfl := Option.some.inj H
        exact z_iret rfl rfl dX11_cell_41 rfl rfl
  · replace H := of_ (nb c3) H
    refine e_bipush (v := (-2 : Int32)) dX11_cell_7 (by decide) ?_
    obtain rfl := Option.some.inj H
    exact z_iret rfl rfl dX11_cell_9 rfl rfl
-- X11_hasItems
def f_X11_hasItems (p0 : Nat) (p1 : Int32) (p2 : Int32) (h : HS) : Option Bool := (if p1 < 0 then (some false) else (if p2 < 0 then (some false) else (if hT h p0 = 15 then (if (nI (hLn h p0)) < p2 then (some false) else (if ((nI (hLn h p0)) - p2) < p1 then (some false) else (some true))) else none)))
set_option maxHeartbeats 4000000 in
set_option maxRecDepth 20000 in
theorem t_X11_hasItems {G : GE} (d : Nat) {p0 : Nat} {p1 : Int32} {p2 : Int32} {h : HS} {q : Bool} (H : f_X11_hasItems p0 p1 p2 h = some q) : CE G (d + 0) yX11_hasItems miX11_hasItems [.ref p0, .int p1, .int p2] h (some (.int (b2i q))) (h) := by
  unfold f_X11_hasItems at H
  refine ce_of rfl (by decide) (fun q => by first | rfl | cases q) (Nat.le_of_ble_eq_true rfl) rfl ?_
  refine e_iload_n dX11_hasItems_0 rfl ?_
  refine e_if_lt (tgt := 26) dX11_hasItems_1 (by decide) (fun c1 => ?_) (fun c1 => ?_)
  · replace H := ot c1 H
    refine e_iconst (v := (0 : Int32)) dX11_hasItems_26 (by decide) ?_
    obtain rfl := Option.some.inj H
    exact z_iret rfl rfl dX11_hasItems_27 rfl rfl
  · replace H := of_ c1 H
    refine e_iload_n dX11_hasItems_4 rfl ?_
    refine e_if_lt (tgt := 26) dX11_hasItems_5 (by decide) (fun c2 => ?_) (fun c2 => ?_)
    · replace H := ot c2 H
      refine e_iconst (v := (0 : Int32)) dX11_hasItems_26 (by decide) ?_
      obtain rfl := Option.some.inj H
      exact z_iret rfl rfl dX11_hasItems_27 rfl rfl
    · replace H := of_ c2 H
      refine e_iload_n dX11_hasItems_8 rfl ?_
      refine g_aload_n dX11_hasItems_9 rfl rfl ?_
      replace H := og H; obtain ⟨g3, H⟩ := H
      refine e_alen g3 (by decide) dX11_hasItems_10 ?_
      refine e_icmp_gt (tgt := 26) dX11_hasItems_11 (by decide) (fun c4 => ?_) (fun c4 => ?_)
      · replace H := ot c4 H
        refine e_iconst (v := (0 : Int32)) dX11_hasItems_26 (by decide) ?_
        obtain rfl := Option.some.inj H
        exact z_iret rfl rfl dX11_hasItems_27 rfl rfl
      · replace H := of_ c4 H
        refine e_iload_n dX11_hasItems_14 rfl ?_
        refine g_aload_n dX11_hasItems_15 rfl rfl ?_
        refine e_alen g3 (by decide) dX11_hasItems_16 ?_
        refine e_iload_n dX11_hasItems_17 rfl ?_
        refine e_isub dX11_hasItems_18 ?_
        refine e_icmp_gt (tgt := 26) dX11_hasItems_19 (by decide) (fun c5 => ?_) (fun c5 => ?_)
        · replace H := ot c5 H
          refine e_iconst (v := (0 : Int32)) dX11_hasItems_26 (by decide) ?_
          obtain rfl := Option.some.inj H
          exact z_iret rfl rfl dX11_hasItems_27 rfl rfl
        · replace H := of_ c5 H
          refine e_iconst (v := (1 : Int32)) dX11_hasItems_22 (by decide) ?_
          refine e_goto (tgt := 27) dX11_hasItems_23 (by decide) ?_
          obtain rfl := Option.some.inj H
          exact z_iret rfl rfl dX11_hasItems_27 rfl rfl
-- X11_copy
def f_X11_copy (p1 : Int32) (p2 : Int32) (p3 : Int32) (p4 : Int32) (p5 : Int32) (h : HS) : Option (Int32 × HS) := (Option.bind (f_X11_isSheet p1) (fun q1 => (if q1 = true then (Option.bind (f_X11_isSheet p3) (fun q4 => (if q4 = true then (if ixb p1 4 = true then (om (hR h 46 p1.toNatClampNeg) (if ixb p3 4 = true then (om (hR h 46 p3.toNatClampNeg) (some ((-11 : Int32), h)) (fun b11 => (some ((-11 : Int32), h)))) else none) (fun b8 => (if ixb p3 4 = true then (om (hR h 46 p3.toNatClampNeg) (some ((-11 : Int32), h)) (fun b16 => (if ixb p1 4 = true then (if ixb p3 4 = true then (if (hI h 47 p1.toNatClampNeg) = (hI h 47 p3.toNatClampNeg) then (Option.bind (f_X11_hasItems b8 p2 p5 h) (fun q25 => (if q25 = true then (Option.bind (f_X11_hasItems b16 p4 p5 h) (fun q28 => (if q28 = true then (if hT h b8 = 15 then (if hT h b16 = 15 then (if cpb p2 p4 p5 (hLn h b8) (hLn h b16) = true then (some (p5, (sC h b8 p2.toNatClampNeg b16 p4.toNatClampNeg p5.toNatClampNeg))) else none) else none) else none) else (some ((-12 : Int32), h))))) else (some ((-12 : Int32), h))))) else (some ((-13 : Int32), h))) else none) else none))) else none))) else none) else (some ((-2 : Int32), h))))) else (some ((-2 : Int32), h)))))
set_option maxHeartbeats 4000000 in
set_option maxRecDepth 20000 in
theorem p_X11_copy {p1 : Int32} {p2 : Int32} {p3 : Int32} {p4 : Int32} {p5 : Int32} {h : HS} {q : (Int32 × HS)} (H : f_X11_copy p1 p2 p3 p4 p5 h = some q) : Pr h q.2 := by
  unfold f_X11_copy at H
  replace H := ob H; obtain ⟨q1, c2, H⟩ := H
  replace H := oi H; obtain ⟨c3, H⟩ | ⟨c3, H⟩ := H
  · replace H := ob H; obtain ⟨q4, c5, H⟩ := H
    replace H := oi H; obtain ⟨c6, H⟩ | ⟨c6, H⟩ := H
    · replace H := og H; obtain ⟨g7, H⟩ := H
      replace H := oom H; obtain ⟨e9, H⟩ | ⟨b8, e9, H⟩ := H
      · replace H := og H; obtain ⟨g10, H⟩ := H
        replace H := oom H; obtain ⟨e12, H⟩ | ⟨b11, e12, H⟩ := H
        · obtain rfl := Option.some.inj H
          exact Pr.rf
        · obtain rfl := Option.some.inj H
          exact Pr.rf
      · replace H := og H; obtain ⟨g15, H⟩ := H
        replace H := oom H; obtain ⟨e17, H⟩ | ⟨b16, e17, H⟩ := H
        · obtain rfl := Option.some.inj H
          exact Pr.rf
        · replace H := og H; obtain ⟨g22, H⟩ := H
          replace H := og H; obtain ⟨g23, H⟩ := H
          replace H := oi H; obtain ⟨c24, H⟩ | ⟨c24, H⟩ := H
          · replace H := ob H; obtain ⟨q25, c26, H⟩ := H
            replace H := oi H; obtain ⟨c27, H⟩ | ⟨c27, H⟩ := H
            · replace H := ob H; obtain ⟨q28, c29, H⟩ := H
              replace H := oi H; obtain ⟨c30, H⟩ | ⟨c30, H⟩ := H
              · replace H := og H; obtain ⟨g31, H⟩ := H
                replace H := og H; obtain ⟨g32, H⟩ := H
                replace H := og H; obtain ⟨g33, H⟩ := H
                obtain rfl := Option.some.inj H
                exact (Pr.rf.sC)
              · obtain rfl := Option.some.inj H
                exact Pr.rf
            · obtain rfl := Option.some.inj H
              exact Pr.rf
          · obtain rfl := Option.some.inj H
            exact Pr.rf
    · obtain rfl := Option.some.inj H
      exact Pr.rf
  · obtain rfl := Option.some.inj H
    exact Pr.rf
set_option maxHeartbeats 4000000 in
set_option maxRecDepth 20000 in
theorem t_X11_copy {G : GE} (d : Nat) {p1 : Int32} {p2 : Int32} {p3 : Int32} {p4 : Int32} {p5 : Int32} {h : HS} {q : (Int32 × HS)} (hY : LY TX h) (H : f_X11_copy p1 p2 p3 p4 p5 h = some q) : CE G (d + 2) yX11_copy miX11_copy [.ref 32, .int p1, .int p2, .int p3, .int p4, .int p5] h (some (.int q.1)) (q.2) := by
  unfold f_X11_copy at H
  refine ce_of rfl (by decide) (fun q => by first | rfl | cases q) (Nat.le_of_ble_eq_true rfl) rfl ?_
  refine e_iload_n dX11_copy_0 rfl ?_
  replace H := ob H; obtain ⟨q1, c2, H⟩ := H
  refine s1 lmX11_410 lsX11_isSheet msX11_isSheet dX11_copy_1 (t_X11_isSheet (d + 0) c2) rfl (Nat.le_of_ble_eq_true rfl) (Nat.le_refl _) ?_
  refine e_ifB_eq (tgt := 14) dX11_copy_4 (by decide) (fun c3 => ?_) (fun c3 => ?_)
  · replace H := of_ (nb c3) H
    refine e_bipush (v := (-2 : Int32)) dX11_copy_14 (by decide) ?_
    obtain rfl := Option.some.inj H
    exact z_iret rfl rfl dX11_copy_16 rfl rfl
  · replace H := ot c3 H
    refine e_iload_n dX11_copy_7 rfl ?_
    replace H := ob H; obtain ⟨q4, c5, H⟩ := H
    refine s1 lmX11_410 lsX11_isSheet msX11_isSheet dX11_copy_8 (t_X11_isSheet (d + 0) c5) rfl (Nat.le_of_ble_eq_true rfl) (Nat.le_refl _) ?_
    refine e_ifB_ne (tgt := 17) dX11_copy_11 (by decide) (fun c6 => ?_) (fun c6 => ?_)
    · replace H := ot c6 H
      refine g_aload_n dX11_copy_17 rfl rfl ?_
      refine e_getR (hY.t 0 rfl) flX11_57_12 dX11_copy_18 rfl (hY.r 8 rfl) ?_
      refine e_iload_n dX11_copy_21 rfl ?_
      replace H := og H; obtain ⟨g7, H⟩ := H
      replace H := oom H; obtain ⟨e9, H⟩ | ⟨b8, e9, H⟩ := H
      · refine e_aald (v := .null) (hY.t 14 rfl) (by decide) (ixb_y (hY.n 14 rfl) g7) (by rw [e9]; rfl) dX11_copy_22 ?_
        refine g_astore dX11_copy_23 (Nat.le_of_ble_eq_true rfl) rfl rfl rfl ?_
        refine g_aload_n dX11_copy_25 rfl rfl ?_
        refine e_getR (hY.t 0 rfl) flX11_57_12 dX11_copy_26 rfl (hY.r 8 rfl) ?_
        refine e_iload_n dX11_copy_29 rfl ?_
        replace H := og H; obtain ⟨g10, H⟩ := H
        replace H := oom H; obtain ⟨e12, H⟩ | ⟨b11, e12, H⟩ := H
        · refine e_aald (v := .null) (hY.t 14 rfl) (by decide) (ixb_y (hY.n 14 rfl) g10) (by rw [e12]; rfl) dX11_copy_30 ?_
          refine g_astore dX11_copy_31 (Nat.le_of_ble_eq_true rfl) rfl rfl rfl ?_
          refine g_aload dX11_copy_33 rfl rfl ?_
          refine e_ifnullN (tgt := 43) dX11_copy_35 (by decide) ?_
          refine e_bipush (v := (-11 : Int32)) dX11_copy_43 (by decide) ?_
          obtain rfl := Option.some.inj H
          exact z_iret rfl rfl dX11_copy_45 rfl rfl
        · refine e_aald (v := .ref b11) (hY.t 14 rfl) (by decide) (ixb_y (hY.n 14 rfl) g10) (by rw [e12]; rfl) dX11_copy_30 ?_
          refine g_astore dX11_copy_31 (Nat.le_of_ble_eq_true rfl) rfl rfl rfl ?_
          refine g_aload dX11_copy_33 rfl rfl ?_
          refine e_ifnullN (tgt := 43) dX11_copy_35 (by decide) ?_
          refine e_bipush (v := (-11 : Int32)) dX11_copy_43 (by decide) ?_
          obtain rfl := Option.some.inj H
          exact z_iret rfl rfl dX11_copy_45 rfl rfl
      · refine e_aald (v := .ref b8) (hY.t 14 rfl) (by decide) (ixb_y (hY.n 14 rfl) g7) (by rw [e9]; rfl) dX11_copy_22 ?_
        refine g_astore dX11_copy_23 (Nat.le_of_ble_eq_true rfl) rfl rfl rfl ?_
        refine g_aload_n dX11_copy_25 rfl rfl ?_
        refine e_getR (hY.t 0 rfl) flX11_57_12 dX11_copy_26 rfl (hY.r 8 rfl) ?_
        refine e_iload_n dX11_copy_29 rfl ?_
        replace H := og H; obtain ⟨g15, H⟩ := H
        replace H := oom H; obtain ⟨e17, H⟩ | ⟨b16, e17, H⟩ := H
        · refine e_aald (v := .null) (hY.t 14 rfl) (by decide) (ixb_y (hY.n 14 rfl) g15) (by rw [e17]; rfl) dX11_copy_30 ?_
          refine g_astore dX11_copy_31 (Nat.le_of_ble_eq_true rfl) rfl rfl rfl ?_
          refine g_aload dX11_copy_33 rfl rfl ?_
          refine e_ifnull dX11_copy_35 ?_
          refine g_aload dX11_copy_38 rfl rfl ?_
          refine e_ifnonnullN dX11_copy_40 ?_
          refine e_bipush (v := (-11 : Int32)) dX11_copy_43 (by decide) ?_
          obtain rfl := Option.some.inj H
          exact z_iret rfl rfl dX11_copy_45 rfl rfl
        · refine e_aald (v := .ref b16) (hY.t 14 rfl) (by decide) (ixb_y (hY.n 14 rfl) g15) (by rw [e17]; rfl) dX11_copy_30 ?_
          refine g_astore dX11_copy_31 (Nat.le_of_ble_eq_true rfl) rfl rfl rfl ?_
          refine g_aload dX11_copy_33 rfl rfl ?_
          refine e_ifnull dX11_copy_35 ?_
          refine g_aload dX11_copy_38 rfl rfl ?_
          refine e_ifnonnull (tgt := 46) dX11_copy_40 (by decide) ?_
          refine g_aload_n dX11_copy_46 rfl rfl ?_
          refine e_getR (hY.t 0 rfl) flX11_61_12 dX11_copy_47 rfl (hY.r 9 rfl) ?_
          refine e_iload_n dX11_copy_50 rfl ?_
          replace H := og H; obtain ⟨g22, H⟩ := H
          refine e_iald (hY.t 15 rfl) (ixb_y (hY.n 15 rfl) g22) dX11_copy_51 ?_
          refine g_aload_n dX11_copy_52 rfl rfl ?_
          refine e_getR (hY.t 0 rfl) flX11_61_12 dX11_copy_53 rfl (hY.r 9 rfl) ?_
          refine e_iload_n dX11_copy_56 rfl ?_
          replace H := og H; obtain ⟨g23, H⟩ := H
          refine e_iald (hY.t 15 rfl) (ixb_y (hY.n 15 rfl) g23) dX11_copy_57 ?_
          refine e_icmp_eq (tgt := 64) dX11_copy_58 (by decide) (fun c24 => ?_) (fun c24 => ?_)
          · replace H := ot c24 H
            refine g_aload dX11_copy_64 rfl rfl ?_
            refine e_iload_n dX11_copy_66 rfl ?_
            refine e_iload dX11_copy_67 rfl ?_
            replace H := ob H; obtain ⟨q25, c26, H⟩ := H
            refine s1 lmX11_416 lsX11_hasItems msX11_hasItems dX11_copy_69 (t_X11_hasItems (d + 1) c26) rfl (Nat.le_of_ble_eq_true rfl) (Nat.le_refl _) ?_
            refine e_ifB_eq (tgt := 87) dX11_copy_72 (by decide) (fun c27 => ?_) (fun c27 => ?_)
            · replace H := of_ (nb c27) H
              refine e_bipush (v := (-12 : Int32)) dX11_copy_87 (by decide) ?_
              obtain rfl := Option.some.inj H
              exact z_iret rfl rfl dX11_copy_89 rfl rfl
            · replace H := ot c27 H
              refine g_aload dX11_copy_75 rfl rfl ?_
              refine e_iload dX11_copy_77 rfl ?_
              refine e_iload dX11_copy_79 rfl ?_
              replace H := ob H; obtain ⟨q28, c29, H⟩ := H
              refine s1 lmX11_416 lsX11_hasItems msX11_hasItems dX11_copy_81 (t_X11_hasItems (d + 1) c29) rfl (Nat.le_of_ble_eq_true rfl) (Nat.le_refl _) ?_
              refine e_ifB_ne (tgt := 90) dX11_copy_84 (by decide) (fun c30 => ?_) (fun c30 => ?_)
              · replace H := ot c30 H
                refine g_aload dX11_copy_90 rfl rfl ?_
                refine e_iload_n dX11_copy_92 rfl ?_
                refine g_aload dX11_copy_93 rfl rfl ?_
                refine e_iload dX11_copy_95 rfl ?_
                refine e_iload dX11_copy_97 rfl ?_
                replace H := og H; obtain ⟨g31, H⟩ := H
                replace H := og H; obtain ⟨g32, H⟩ := H
                replace H := og H; obtain ⟨g33, H⟩ := H
                refine e_acopy lmX11_420 g31 g32 g33 (Nat.le_of_ble_eq_true rfl) (by omega) dX11_copy_99 ?_
                refine e_iload dX11_copy_102 rfl ?_
                obtain rfl := Option.some.inj H
                exact z_iret rfl rfl dX11_copy_104 rfl rfl
              · replace H := of_ (nb c30) H
                refine e_bipush (v := (-12 : Int32)) dX11_copy_87 (by decide) ?_
                obtain rfl := Option.some.inj H
                exact z_iret rfl rfl dX11_copy_89 rfl rfl
          · replace H := of_ c24 H
            refine e_bipush (v := (-13 : Int32)) dX11_copy_61 (by decide) ?_
            obtain rfl := Option.some.inj H
            exact z_iret rfl rfl dX11_copy_63 rfl rfl
    · replace H := of_ (nb c6) H
      refine e_bipush (v := (-2 : Int32)) dX11_copy_14 (by decide) ?_
      obtain rfl := Option.some.inj H
      exact z_iret rfl rfl dX11_copy_16 rfl rfl
-- X11_tries
def l_X11_tries_68 (y4 : Int32) (y5 : Nat)  : Nat → Int32 → Int32 → Int32 → HS → Option ((Int32 × HS) ⊕ (Int32 × HS))
  | 0, _, _, _, _ => none
  | n + 1, x6, x7, x8, h => (if y4 ≤ x8 then (some (Sum.inr (x6, h))) else (Option.bind (f_X11_hasItems y5 x7 (4 : Int32) h) (fun q33 => (if q33 = true then (if hT h y5 = 15 then (if ixb x7 (hLn h y5) = true then (if ixb (x7 + (1 : Int32)) (hLn h y5) = true then (if ixb (x7 + (2 : Int32)) (hLn h y5) = true then (if ixb (x7 + (3 : Int32)) (hLn h y5) = true then (Option.bind (f_X11_shown (hI h y5 x7.toNatClampNeg) (hI h y5 (x7 + (1 : Int32)).toNatClampNeg) (hI h y5 (x7 + (2 : Int32)).toNatClampNeg) (hI h y5 (x7 + (3 : Int32)).toNatClampNeg) h) (fun q41 => (if q41.1 < 0 then (l_X11_tries_68 y4 y5 n (x6 + (0 : Int32)) (x7 + (4 : Int32)) (x8 + (1 : Int32)) q41.2) else (l_X11_tries_68 y4 y5 n (x6 + (1 : Int32)) (x7 + (4 : Int32)) (x8 + (1 : Int32)) q41.2)))) else none) else none) else none) else none) else none) else (some (Sum.inl ((-12 : Int32), h)))))))
set_option maxHeartbeats 4000000 in
set_option maxRecDepth 20000 in
theorem p_X11_tries_68 {y4 : Int32} {y5 : Nat} : ∀ (n : Nat) {x6 : Int32} {x7 : Int32} {x8 : Int32} {h : HS} {q : ((Int32 × HS) ⊕ (Int32 × HS))}, l_X11_tries_68 y4 y5 n x6 x7 x8 h = some q → Pr h (Sum.elim (fun v => v.2) (fun e => e.2) q) := by
  intro n
  induction n with
  | zero => intro x6 x7 x8 h q H; exact nz H
  | succ n ih =>
    intro x6 x7 x8 h q H
    unfold l_X11_tries_68 at H
    replace H := oi H; obtain ⟨c32, H⟩ | ⟨c32, H⟩ := H
    · obtain rfl := Option.some.inj H
      exact Pr.rf
    · replace H := ob H; obtain ⟨q33, c34, H⟩ := H
      replace H := oi H; obtain ⟨c35, H⟩ | ⟨c35, H⟩ := H
      · replace H := og H; obtain ⟨g36, H⟩ := H
        replace H := og H; obtain ⟨g37, H⟩ := H
        replace H := og H; obtain ⟨g38, H⟩ := H
        replace H := og H; obtain ⟨g39, H⟩ := H
        replace H := og H; obtain ⟨g40, H⟩ := H
        replace H := ob H; obtain ⟨q41, c42, H⟩ := H
        have e43 := p_X11_shown c42
        replace H := oi H; obtain ⟨c46, H⟩ | ⟨c46, H⟩ := H
        · exact e43.tr (ih H)
        · exact e43.tr (ih H)
      · obtain rfl := Option.some.inj H
        exact Pr.rf
set_option maxHeartbeats 4000000 in
set_option maxRecDepth 20000 in
theorem w_X11_tries_68 {G : GE} (d : Nat) {y4 : Int32} {y5 : Nat} {r : Option Value} {h' : HS}  : ∀ (n : Nat) {x6 : Int32} {x7 : Int32} {x8 : Int32} {h : HS} {q : ((Int32 × HS) ⊕ (Int32 × HS))}, LY TX h → l_X11_tries_68 y4 y5 n x6 x7 x8 h = some q → (∀ v, q = Sum.inl v → r = some (.int v.1) ∧ h' = v.2) → (∀ e, q = Sum.inr e → En G (d + 6) miX11_tries 141 [dum, dum, dum, dum, dum, dum, .int e.1, dum, dum] [] e.2 r h') → En G (d + 6) miX11_tries 68 [.ref 32, dum, dum, dum, .int y4, .ref y5, .int x6, .int x7, .int x8] [] h r h' := by
  intro n
  induction n with
  | zero => intro x6 x7 x8 h q hYTX H kR kE; exact nz H
  | succ n ih =>
    intro x6 x7 x8 h q hYTX H kR kE
    unfold l_X11_tries_68 at H
    refine e_iload dX11_tries_68 rfl ?_
    refine e_iload dX11_tries_70 rfl ?_
    refine e_icmp_ge (tgt := 141) dX11_tries_72 (by decide) (fun c32 => ?_) (fun c32 => ?_)
    · replace H := ot c32 H
      obtain rfl := Option.some.inj H
      exact e_wk (lk0 (lk1 (lk1 (lk1 (lk0 (lk0 (lk1 (lk0 (lk0 lkn))))))))) (kE _ rfl)
    · replace H := of_ c32 H
      refine g_aload dX11_tries_75 rfl rfl ?_
      refine e_iload dX11_tries_77 rfl ?_
      refine e_iconst (v := (4 : Int32)) dX11_tries_79 (by decide) ?_
      replace H := ob H; obtain ⟨q33, c34, H⟩ := H
      refine s1 lmX11_416 lsX11_hasItems msX11_hasItems dX11_tries_80 (t_X11_hasItems (d + 5) c34) rfl (Nat.le_of_ble_eq_true rfl) (Nat.le_refl _) ?_
      refine e_ifB_ne (tgt := 89) dX11_tries_83 (by decide) (fun c35 => ?_) (fun c35 => ?_)
      · replace H := ot c35 H
        refine e_iload dX11_tries_89 rfl ?_
        refine g_aload_n dX11_tries_91 rfl rfl ?_
        refine g_aload dX11_tries_92 rfl rfl ?_
        refine e_iload dX11_tries_94 rfl ?_
        replace H := og H; obtain ⟨g36, H⟩ := H
        replace H := og H; obtain ⟨g37, H⟩ := H
        refine e_iald g36 (ixb_y rfl g37) dX11_tries_96 ?_
        refine g_aload dX11_tries_97 rfl rfl ?_
        refine e_iload dX11_tries_99 rfl ?_
        refine e_iconst (v := (1 : Int32)) dX11_tries_101 (by decide) ?_
        refine e_iadd dX11_tries_102 ?_
        replace H := og H; obtain ⟨g38, H⟩ := H
        refine e_iald g36 (ixb_y rfl g38) dX11_tries_103 ?_
        refine g_aload dX11_tries_104 rfl rfl ?_
        refine e_iload dX11_tries_106 rfl ?_
        refine e_iconst (v := (2 : Int32)) dX11_tries_108 (by decide) ?_
        refine e_iadd dX11_tries_109 ?_
        replace H := og H; obtain ⟨g39, H⟩ := H
        refine e_iald g36 (ixb_y rfl g39) dX11_tries_110 ?_
        refine g_aload dX11_tries_111 rfl rfl ?_
        refine e_iload dX11_tries_113 rfl ?_
        refine e_iconst (v := (3 : Int32)) dX11_tries_115 (by decide) ?_
        refine e_iadd dX11_tries_116 ?_
        replace H := og H; obtain ⟨g40, H⟩ := H
        refine e_iald g36 (ixb_y rfl g40) dX11_tries_117 ?_
        replace H := ob H; obtain ⟨q41, c42, H⟩ := H
        refine v1 (hYTX.t 0 rfl) (by decide) rfl rfl lmX11_426 liX11_shown lvX11_X11_shown msX11_shown dX11_tries_118 (t_X11_shown (d + 0) hYTX c42) rfl (Nat.le_of_ble_eq_true rfl) (Nat.le_refl _) ?_
        have e43 := p_X11_shown c42
        have hY44 := hYTX.pr okX e43
        have f45 := e43.k g36 (by decide)
        refine e_if_lt (tgt := 128) dX11_tries_121 (by decide) (fun c46 => ?_) (fun c46 => ?_)
        · replace H := ot c46 H
          refine e_iconst (v := (0 : Int32)) dX11_tries_128 (by decide) ?_
          refine e_iadd dX11_tries_129 ?_
          refine e_istore dX11_tries_130 (Nat.le_of_ble_eq_true rfl) rfl rfl ?_
          refine e_iinc dX11_tries_132 rfl (ii_ (by decide : Int32.ofInt (4) = (4 : Int32))) (Nat.le_of_ble_eq_true rfl) rfl rfl ?_
          refine e_iinc dX11_tries_135 rfl (ii_ (by decide : Int32.ofInt (1) = (1 : Int32))) (Nat.le_of_ble_eq_true rfl) rfl rfl ?_
          refine e_goto (tgt := 68) dX11_tries_138 (by decide) ?_
          exact e_wk (lk1 (lk1 (lk1 (lk1 (lk1 (lk1 (lk1 (lk1 (lk1 lkn))))))))) (ih hY44 H kR kE)
        · replace H := of_ c46 H
          refine e_iconst (v := (1 : Int32)) dX11_tries_124 (by decide) ?_
          refine e_goto (tgt := 129) dX11_tries_125 (by decide) ?_
          refine e_iadd dX11_tries_129 ?_
          refine e_istore dX11_tries_130 (Nat.le_of_ble_eq_true rfl) rfl rfl ?_
          refine e_iinc dX11_tries_132 rfl (ii_ (by decide : Int32.ofInt (4) = (4 : Int32))) (Nat.le_of_ble_eq_true rfl) rfl rfl ?_
          refine e_iinc dX11_tries_135 rfl (ii_ (by decide : Int32.ofInt (1) = (1 : Int32))) (Nat.le_of_ble_eq_true rfl) rfl rfl ?_
          refine e_goto (tgt := 68) dX11_tries_138 (by decide) ?_
          exact e_wk (lk1 (lk1 (lk1 (lk1 (lk1 (lk1 (lk1 (lk1 (lk1 lkn))))))))) (ih hY44 H kR kE)
      · replace H := of_ (nb c35) H
        refine e_bipush (v := (-12 : Int32)) dX11_tries_86 (by decide) ?_
        obtain rfl := Option.some.inj H
        obtain ⟨eR, eH⟩ := kR _ rfl
        exact z_iret rfl rfl dX11_tries_88 eR eH
def f_X11_tries (p1 : Int32) (p2 : Int32) (p3 : Int32) (p4 : Int32) (h : HS) : Option (Int32 × HS) := (Option.bind (f_X11_isSheet p1) (fun q1 => (if q1 = true then (Option.bind (f_X11_isIn p2 (0 : Int32) (2 : Int32)) (fun q4 => (if q4 = true then (Option.bind (f_X11_isIn p4 (0 : Int32) (10 : Int32)) (fun q7 => (if q7 = true then (if ixb p1 4 = true then (om (hR h 46 p1.toNatClampNeg) (some ((-11 : Int32), h)) (fun b11 => (if ixb p1 4 = true then (if (hI h 47 p1.toNatClampNeg) = p2 then (Option.bind (l_X11_tries_68 p4 b11 1000 (0 : Int32) p3 (0 : Int32) h) (fun q47 => (Sum.elim (fun v => some v) (fun e49 => (some (e49.1, e49.2))) q47))) else (some ((-13 : Int32), h))) else none))) else none) else (some ((-2 : Int32), h))))) else (some ((-2 : Int32), h))))) else (some ((-2 : Int32), h)))))
set_option maxHeartbeats 4000000 in
set_option maxRecDepth 20000 in
theorem p_X11_tries {p1 : Int32} {p2 : Int32} {p3 : Int32} {p4 : Int32} {h : HS} {q : (Int32 × HS)} (H : f_X11_tries p1 p2 p3 p4 h = some q) : Pr h q.2 := by
  unfold f_X11_tries at H
  replace H := ob H; obtain ⟨q1, c2, H⟩ := H
  replace H := oi H; obtain ⟨c3, H⟩ | ⟨c3, H⟩ := H
  · replace H := ob H; obtain ⟨q4, c5, H⟩ := H
    replace H := oi H; obtain ⟨c6, H⟩ | ⟨c6, H⟩ := H
    · replace H := ob H; obtain ⟨q7, c8, H⟩ := H
      replace H := oi H; obtain ⟨c9, H⟩ | ⟨c9, H⟩ := H
      · replace H := og H; obtain ⟨g10, H⟩ := H
        replace H := oom H; obtain ⟨e12, H⟩ | ⟨b11, e12, H⟩ := H
        · obtain rfl := Option.some.inj H
          exact Pr.rf
        · replace H := og H; obtain ⟨g15, H⟩ := H
          replace H := oi H; obtain ⟨c16, H⟩ | ⟨c16, H⟩ := H
          · replace H := ob H; obtain ⟨q47, c48, H⟩ := H
            rcases q47 with v52 | e49
            · replace H := oSl H; obtain rfl := Option.some.inj H
              exact p_X11_tries_68 1000 c48
            · replace H := oSr H
              have e50 : Pr h e49.2 := p_X11_tries_68 1000 c48
              obtain rfl := Option.some.inj H
              exact e50
          · obtain rfl := Option.some.inj H
            exact Pr.rf
      · obtain rfl := Option.some.inj H
        exact Pr.rf
    · obtain rfl := Option.some.inj H
      exact Pr.rf
  · obtain rfl := Option.some.inj H
    exact Pr.rf
set_option maxHeartbeats 4000000 in
set_option maxRecDepth 20000 in
theorem t_X11_tries {G : GE} (d : Nat) {p1 : Int32} {p2 : Int32} {p3 : Int32} {p4 : Int32} {h : HS} {q : (Int32 × HS)} (hY : LY TX h) (H : f_X11_tries p1 p2 p3 p4 h = some q) : CE G (d + 6) yX11_tries miX11_tries [.ref 32, .int p1, .int p2, .int p3, .int p4] h (some (.int q.1)) (q.2) := by
  unfold f_X11_tries at H
  refine ce_of rfl (by decide) (fun q => by first | rfl | cases q) (Nat.le_of_ble_eq_true rfl) rfl ?_
  refine e_iload_n dX11_tries_0 rfl ?_
  replace H := ob H; obtain ⟨q1, c2, H⟩ := H
  refine s1 lmX11_410 lsX11_isSheet msX11_isSheet dX11_tries_1 (t_X11_isSheet (d + 4) c2) rfl (Nat.le_of_ble_eq_true rfl) (Nat.le_refl _) ?_
  refine e_ifB_eq (tgt := 27) dX11_tries_4 (by decide) (fun c3 => ?_) (fun c3 => ?_)
  · replace H := of_ (nb c3) H
    refine e_bipush (v := (-2 : Int32)) dX11_tries_27 (by decide) ?_
    obtain rfl := Option.some.inj H
    exact z_iret rfl rfl dX11_tries_29 rfl rfl
  · replace H := ot c3 H
    refine e_iload_n dX11_tries_7 rfl ?_
    refine e_iconst (v := (0 : Int32)) dX11_tries_8 (by decide) ?_
    refine e_iconst (v := (2 : Int32)) dX11_tries_9 (by decide) ?_
    replace H := ob H; obtain ⟨q4, c5, H⟩ := H
    refine s1 lmX11_106 lsX11_isIn msX11_isIn dX11_tries_10 (t_X11_isIn (d + 5) c5) rfl (Nat.le_of_ble_eq_true rfl) (Nat.le_refl _) ?_
    refine e_ifB_eq (tgt := 27) dX11_tries_13 (by decide) (fun c6 => ?_) (fun c6 => ?_)
    · replace H := of_ (nb c6) H
      refine e_bipush (v := (-2 : Int32)) dX11_tries_27 (by decide) ?_
      obtain rfl := Option.some.inj H
      exact z_iret rfl rfl dX11_tries_29 rfl rfl
    · replace H := ot c6 H
      refine e_iload dX11_tries_16 rfl ?_
      refine e_iconst (v := (0 : Int32)) dX11_tries_18 (by decide) ?_
      refine e_bipush (v := (10 : Int32)) dX11_tries_19 (by decide) ?_
      replace H := ob H; obtain ⟨q7, c8, H⟩ := H
      refine s1 lmX11_106 lsX11_isIn msX11_isIn dX11_tries_21 (t_X11_isIn (d + 5) c8) rfl (Nat.le_of_ble_eq_true rfl) (Nat.le_refl _) ?_
      refine e_ifB_ne (tgt := 30) dX11_tries_24 (by decide) (fun c9 => ?_) (fun c9 => ?_)
      · replace H := ot c9 H
        refine g_aload_n dX11_tries_30 rfl rfl ?_
        refine e_getR (hY.t 0 rfl) flX11_57_12 dX11_tries_31 rfl (hY.r 8 rfl) ?_
        refine e_iload_n dX11_tries_34 rfl ?_
        replace H := og H; obtain ⟨g10, H⟩ := H
        replace H := oom H; obtain ⟨e12, H⟩ | ⟨b11, e12, H⟩ := H
        · refine e_aald (v := .null) (hY.t 14 rfl) (by decide) (ixb_y (hY.n 14 rfl) g10) (by rw [e12]; rfl) dX11_tries_35 ?_
          refine g_astore dX11_tries_36 (Nat.le_of_ble_eq_true rfl) rfl rfl rfl ?_
          refine g_aload dX11_tries_38 rfl rfl ?_
          refine e_ifnonnullN dX11_tries_40 ?_
          refine e_bipush (v := (-11 : Int32)) dX11_tries_43 (by decide) ?_
          obtain rfl := Option.some.inj H
          exact z_iret rfl rfl dX11_tries_45 rfl rfl
        · refine e_aald (v := .ref b11) (hY.t 14 rfl) (by decide) (ixb_y (hY.n 14 rfl) g10) (by rw [e12]; rfl) dX11_tries_35 ?_
          refine g_astore dX11_tries_36 (Nat.le_of_ble_eq_true rfl) rfl rfl rfl ?_
          refine g_aload dX11_tries_38 rfl rfl ?_
          refine e_ifnonnull (tgt := 46) dX11_tries_40 (by decide) ?_
          refine g_aload_n dX11_tries_46 rfl rfl ?_
          refine e_getR (hY.t 0 rfl) flX11_61_12 dX11_tries_47 rfl (hY.r 9 rfl) ?_
          refine e_iload_n dX11_tries_50 rfl ?_
          replace H := og H; obtain ⟨g15, H⟩ := H
          refine e_iald (hY.t 15 rfl) (ixb_y (hY.n 15 rfl) g15) dX11_tries_51 ?_
          refine e_iload_n dX11_tries_52 rfl ?_
          refine e_icmp_eq (tgt := 59) dX11_tries_53 (by decide) (fun c16 => ?_) (fun c16 => ?_)
          · replace H := ot c16 H
            refine e_iconst (v := (0 : Int32)) dX11_tries_59 (by decide) ?_
            refine e_istore dX11_tries_60 (Nat.le_of_ble_eq_true rfl) rfl rfl ?_
            refine e_iload_n dX11_tries_62 rfl ?_
            refine e_istore dX11_tries_63 (Nat.le_of_ble_eq_true rfl) rfl rfl ?_
            refine e_iconst (v := (0 : Int32)) dX11_tries_65 (by decide) ?_
            refine e_istore dX11_tries_66 (Nat.le_of_ble_eq_true rfl) rfl rfl ?_
            replace H := ob H; obtain ⟨q47, c48, H⟩ := H
            refine e_wk (lk1 (lk0 (lk0 (lk0 (lk1 (lk1 (lk1 (lk1 (lk1 lkn))))))))) (w_X11_tries_68 d 1000 hY c48 (fun v52 E0 => ?_) (fun e49 E0 => ?_))
            · subst E0; replace H := oSl H; obtain rfl := Option.some.inj H
              exact ⟨rfl, rfl⟩
            · subst E0; replace H := oSr H
              have e50 : Pr h e49.2 := p_X11_tries_68 1000 c48
              have hY51 := hY.pr okX e50
              refine e_iload dX11_tries_141 rfl ?_
              obtain rfl := Option.some.inj H
              exact z_iret rfl rfl dX11_tries_143 rfl rfl
          · replace H := of_ c16 H
            refine e_bipush (v := (-13 : Int32)) dX11_tries_56 (by decide) ?_
            obtain rfl := Option.some.inj H
            exact z_iret rfl rfl dX11_tries_58 rfl rfl
      · replace H := of_ (nb c9) H
        refine e_bipush (v := (-2 : Int32)) dX11_tries_27 (by decide) ?_
        obtain rfl := Option.some.inj H
        exact z_iret rfl rfl dX11_tries_29 rfl rfl
-- X11_isUnder
def f_X11_isUnder (p0 : Nat) (p1 : Int32) (h : HS) : Option Bool := (if p1 = (0 : Int32) then (some true) else (if p1 = (1 : Int32) then (if isSt (hT h p0) = true then (some (isHv (hT h p0))) else none) else (if p1 = (2 : Int32) then (if isSt (hT h p0) = true then (some (isTg (hT h p0))) else none) else (if p1 = (3 : Int32) then (if isSt (hT h p0) = true then (some (isSp (hT h p0))) else none) else (if p1 = (4 : Int32) then (if isSt (hT h p0) = true then (some (isDr (hT h p0))) else none) else (if p1 = (5 : Int32) then (if isSt (hT h p0) = true then (some (isGa (hT h p0))) else none) else (some false)))))))
set_option maxHeartbeats 4000000 in
set_option maxRecDepth 20000 in
theorem t_X11_isUnder {G : GE} (d : Nat) {p0 : Nat} {p1 : Int32} {h : HS} {q : Bool} (H : f_X11_isUnder p0 p1 h = some q) : CE G (d + 0) yX11_isUnder miX11_isUnder [.ref p0, .int p1] h (some (.int (b2i q))) (h) := by
  unfold f_X11_isUnder at H
  refine ce_of rfl (by decide) (fun q => by first | rfl | cases q) (Nat.le_of_ble_eq_true rfl) rfl ?_
  refine e_iload_n dX11_isUnder_0 rfl ?_
  by_cases k1 : p1 = (0 : Int32)
  · replace H := ot k1 H
    refine e_tableIn (off := 39) (tgt := 40) dX11_isUnder_1 (by rw [k1]; decide) (by rw [k1]; decide) (by rw [k1]; rfl) (by decide) ?_
    refine e_iconst (v := (1 : Int32)) dX11_isUnder_40 (by decide) ?_
    obtain rfl := Option.some.inj H
    exact z_iret rfl rfl dX11_isUnder_41 rfl rfl
  · replace H := of_ k1 H
    by_cases k2 : p1 = (1 : Int32)
    · replace H := ot k2 H
      refine e_tableIn (off := 41) (tgt := 42) dX11_isUnder_1 (by rw [k2]; decide) (by rw [k2]; decide) (by rw [k2]; rfl) (by decide) ?_
      refine g_aload_n dX11_isUnder_42 rfl rfl ?_
      replace H := og H; obtain ⟨g11, H⟩ := H
      refine e_inst_isHv g11 lcX11_210 dX11_isUnder_43 ?_
      obtain rfl := Option.some.inj H
      exact z_bret rfl dX11_isUnder_46 rfl rfl
    · replace H := of_ k2 H
      by_cases k3 : p1 = (2 : Int32)
      · replace H := ot k3 H
        refine e_tableIn (off := 46) (tgt := 47) dX11_isUnder_1 (by rw [k3]; decide) (by rw [k3]; decide) (by rw [k3]; rfl) (by decide) ?_
        refine g_aload_n dX11_isUnder_47 rfl rfl ?_
        replace H := og H; obtain ⟨g10, H⟩ := H
        refine e_inst_isTg g10 lcX11_215 dX11_isUnder_48 ?_
        obtain rfl := Option.some.inj H
        exact z_bret rfl dX11_isUnder_51 rfl rfl
      · replace H := of_ k3 H
        by_cases k4 : p1 = (3 : Int32)
        · replace H := ot k4 H
          refine e_tableIn (off := 51) (tgt := 52) dX11_isUnder_1 (by rw [k4]; decide) (by rw [k4]; decide) (by rw [k4]; rfl) (by decide) ?_
          refine g_aload_n dX11_isUnder_52 rfl rfl ?_
          replace H := og H; obtain ⟨g9, H⟩ := H
          refine e_inst_isSp g9 lcX11_218 dX11_isUnder_53 ?_
          obtain rfl := Option.some.inj H
          exact z_bret rfl dX11_isUnder_56 rfl rfl
        · replace H := of_ k4 H
          by_cases k5 : p1 = (4 : Int32)
          · replace H := ot k5 H
            refine e_tableIn (off := 56) (tgt := 57) dX11_isUnder_1 (by rw [k5]; decide) (by rw [k5]; decide) (by rw [k5]; rfl) (by decide) ?_
            refine g_aload_n dX11_isUnder_57 rfl rfl ?_
            replace H := og H; obtain ⟨g8, H⟩ := H
            refine e_inst_isDr g8 lcX11_221 dX11_isUnder_58 ?_
            obtain rfl := Option.some.inj H
            exact z_bret rfl dX11_isUnder_61 rfl rfl
          · replace H := of_ k5 H
            by_cases k6 : p1 = (5 : Int32)
            · replace H := ot k6 H
              refine e_tableIn (off := 61) (tgt := 62) dX11_isUnder_1 (by rw [k6]; decide) (by rw [k6]; decide) (by rw [k6]; rfl) (by decide) ?_
              refine g_aload_n dX11_isUnder_62 rfl rfl ?_
              replace H := og H; obtain ⟨g7, H⟩ := H
              refine e_inst_isGa g7 lcX11_224 dX11_isUnder_63 ?_
              obtain rfl := Option.some.inj H
              exact z_bret rfl dX11_isUnder_66 rfl rfl
            · replace H := of_ k6 H
              refine e_tableOut (tgt := 67) dX11_isUnder_1 (by have q0 : p1.toInt ≠ 0 := i32_ne k1; have q1 : p1.toInt ≠ 1 := i32_ne k2; have q2 : p1.toInt ≠ 2 := i32_ne k3; have q3 : p1.toInt ≠ 3 := i32_ne k4; have q4 : p1.toInt ≠ 4 := i32_ne k5; have q5 : p1.toInt ≠ 5 := i32_ne k6; omega) (by decide) ?_
              refine e_iconst (v := (0 : Int32)) dX11_isUnder_67 (by decide) ?_
              obtain rfl := Option.some.inj H
              exact z_iret rfl rfl dX11_isUnder_68 rfl rfl
-- X11_taken
def f_X11_taken (p1 : Int32) (p2 : Int32) (h : HS) : Option Int32 := (Option.bind (f_X11_isIn p2 (0 : Int32) (5 : Int32)) (fun q1 => (if q1 = true then (Option.bind (f_X11_stallAt p1 h) (fun q4 => (om q4 (some (-11 : Int32)) (fun b7 => (Option.bind (f_X11_isUnder b7 p2 h) (fun q10 => (if q10 = true then (if isSt (hT h b7) = true then (some (hI h b7 4)) else none) else (some (-13 : Int32))))))))) else (some (-2 : Int32)))))
set_option maxHeartbeats 4000000 in
set_option maxRecDepth 20000 in
theorem t_X11_taken {G : GE} (d : Nat) {p1 : Int32} {p2 : Int32} {h : HS} {q : Int32} (hY : LY TX h) (H : f_X11_taken p1 p2 h = some q) : CE G (d + 4) yX11_taken miX11_taken [.ref 32, .int p1, .int p2] h (some (.int q)) (h) := by
  unfold f_X11_taken at H
  refine ce_of rfl (by decide) (fun q => by first | rfl | cases q) (Nat.le_of_ble_eq_true rfl) rfl ?_
  refine e_iload_n dX11_taken_0 rfl ?_
  refine e_iconst (v := (0 : Int32)) dX11_taken_1 (by decide) ?_
  refine e_iconst (v := (5 : Int32)) dX11_taken_2 (by decide) ?_
  replace H := ob H; obtain ⟨q1, c2, H⟩ := H
  refine s1 lmX11_106 lsX11_isIn msX11_isIn dX11_taken_3 (t_X11_isIn (d + 3) c2) rfl (Nat.le_of_ble_eq_true rfl) (Nat.le_refl _) ?_
  refine e_ifB_ne (tgt := 12) dX11_taken_6 (by decide) (fun c3 => ?_) (fun c3 => ?_)
  · replace H := ot c3 H
    refine g_aload_n dX11_taken_12 rfl rfl ?_
    refine e_iload_n dX11_taken_13 rfl ?_
    replace H := ob H; obtain ⟨q4, c5, H⟩ := H
    replace H := oom H; obtain ⟨e6, H⟩ | ⟨b7, e6, H⟩ := H
    · refine v1 (hY.t 0 rfl) (by decide) rfl rfl lmX11_122 liX11_stallAt lvX11_X11_stallAt msX11_stallAt dX11_taken_14 (ceN e6 (t_X11_stallAt (d + 0) hY c5)) rfl (Nat.le_of_ble_eq_true rfl) (Nat.le_refl _) ?_
      refine g_astore_n dX11_taken_17 (Nat.le_of_ble_eq_true rfl) rfl rfl rfl ?_
      refine g_aload_n dX11_taken_18 rfl rfl ?_
      refine e_ifnonnullN dX11_taken_19 ?_
      refine e_bipush (v := (-11 : Int32)) dX11_taken_22 (by decide) ?_
      obtain rfl := Option.some.inj H
      exact z_iret rfl rfl dX11_taken_24 rfl rfl
    · refine v1 (hY.t 0 rfl) (by decide) rfl rfl lmX11_122 liX11_stallAt lvX11_X11_stallAt msX11_stallAt dX11_taken_14 (ceS e6 (t_X11_stallAt (d + 0) hY c5)) rfl (Nat.le_of_ble_eq_true rfl) (Nat.le_refl _) ?_
      refine g_astore_n dX11_taken_17 (Nat.le_of_ble_eq_true rfl) rfl rfl rfl ?_
      refine g_aload_n dX11_taken_18 rfl rfl ?_
      refine e_ifnonnull (tgt := 25) dX11_taken_19 (by decide) ?_
      refine g_aload_n dX11_taken_25 rfl rfl ?_
      refine e_iload_n dX11_taken_26 rfl ?_
      replace H := ob H; obtain ⟨q10, c11, H⟩ := H
      refine s1 lmX11_430 lsX11_isUnder msX11_isUnder dX11_taken_27 (t_X11_isUnder (d + 3) c11) rfl (Nat.le_of_ble_eq_true rfl) (Nat.le_refl _) ?_
      refine e_ifB_eq (tgt := 40) dX11_taken_30 (by decide) (fun c12 => ?_) (fun c12 => ?_)
      · replace H := of_ (nb c12) H
        refine e_bipush (v := (-13 : Int32)) dX11_taken_40 (by decide) ?_
        obtain rfl := Option.some.inj H
        exact z_iret rfl rfl dX11_taken_42 rfl rfl
      · replace H := ot c12 H
        refine g_aload_n dX11_taken_33 rfl rfl ?_
        replace H := og H; obtain ⟨g13, H⟩ := H
        refine gmX11_151_isSt g13 dX11_taken_34 ?_
        refine e_goto (tgt := 42) dX11_taken_37 (by decide) ?_
        obtain rfl := Option.some.inj H
        exact z_iret rfl rfl dX11_taken_42 rfl rfl
  · replace H := of_ (nb c3) H
    refine e_bipush (v := (-2 : Int32)) dX11_taken_9 (by decide) ?_
    obtain rfl := Option.some.inj H
    exact z_iret rfl rfl dX11_taken_11 rfl rfl
-- X12_in
def f_X12_in (p0 : Int64) (p1 : Int64) (p2 : Int64) : Option Bool := (if p0 < p1 then (some false) else (if p2 < p0 then (some false) else (some true)))
set_option maxHeartbeats 4000000 in
set_option maxRecDepth 20000 in
theorem t_X12_in {G : GE} (d : Nat) {p0 : Int64} {p1 : Int64} {p2 : Int64} {h : HS} {q : Bool} (H : f_X12_in p0 p1 p2 = some q) : CE G (d + 0) yX12_in miX12_in [.long p0, .long p1, .long p2] h (some (.int (b2i q))) (h) := by
  unfold f_X12_in at H
  refine ce_of rfl (by decide) (fun q => by first | rfl | cases q) (Nat.le_of_ble_eq_true rfl) rfl ?_
  refine e_lload_n dX12_in_0 rfl ?_
  refine e_lload_n dX12_in_1 rfl ?_
  refine e_lc_lt (tgt := 17) dX12_in_2 dX12_in_3 (by decide) (fun c1 => ?_) (fun c1 => ?_)
  · replace H := ot c1 H
    refine e_iconst (v := (0 : Int32)) dX12_in_17 (by decide) ?_
    obtain rfl := Option.some.inj H
    exact z_iret rfl rfl dX12_in_18 rfl rfl
  · replace H := of_ c1 H
    refine e_lload_n dX12_in_6 rfl ?_
    refine e_lload dX12_in_7 rfl ?_
    refine e_lc_gt (tgt := 17) dX12_in_9 dX12_in_10 (by decide) (fun c2 => ?_) (fun c2 => ?_)
    · replace H := ot c2 H
      refine e_iconst (v := (0 : Int32)) dX12_in_17 (by decide) ?_
      obtain rfl := Option.some.inj H
      exact z_iret rfl rfl dX12_in_18 rfl rfl
    · replace H := of_ c2 H
      refine e_iconst (v := (1 : Int32)) dX12_in_13 (by decide) ?_
      refine e_goto (tgt := 18) dX12_in_14 (by decide) ?_
      obtain rfl := Option.some.inj H
      exact z_iret rfl rfl dX12_in_18 rfl rfl
-- X12_spell
def l_X12_spell_3 (y0 : Nat) (y1 : Int32) (y2 : Int64)  : Nat → Int32 → HS → Option HS
  | 0, _, _ => none
  | n + 1, x4, h => (if (8 : Int32) ≤ x4 then (some h) else (if hT h y0 = 14 then (om (hR h y0 1) none (fun b9 => (if hT h b9 = 15 then (if ixb (y1 + x4) (hLn h b9) = true then (l_X12_spell_3 y0 y1 y2 n (x4 + (1 : Int32)) (sI h b9 (y1 + x4).toNatClampNeg ((y2 >>> (((56 : Int32) - ((8 : Int32) * x4)).toInt64 &&& 63)) &&& (255 : Int64)).toInt32)) else none) else none))) else none))
set_option maxHeartbeats 4000000 in
set_option maxRecDepth 20000 in
theorem p_X12_spell_3 {y0 : Nat} {y1 : Int32} {y2 : Int64} : ∀ (n : Nat) {x4 : Int32} {h : HS} {q : HS}, l_X12_spell_3 y0 y1 y2 n x4 h = some q → Pr h q := by
  intro n
  induction n with
  | zero => intro x4 h q H; exact nz H
  | succ n ih =>
    intro x4 h q H
    unfold l_X12_spell_3 at H
    replace H := oi H; obtain ⟨c7, H⟩ | ⟨c7, H⟩ := H
    · obtain rfl := Option.some.inj H
      exact Pr.rf
    · replace H := og H; obtain ⟨g8, H⟩ := H
      replace H := oom H; obtain ⟨-, H⟩ | ⟨b9, e10, H⟩ := H
      · exact nz H
      replace H := og H; obtain ⟨g11, H⟩ := H
      replace H := og H; obtain ⟨g12, H⟩ := H
      exact (Pr.rf.sI).tr (ih H)
set_option maxHeartbeats 4000000 in
set_option maxRecDepth 20000 in
theorem w_X12_spell_3 {G : GE} (d : Nat) {y0 : Nat} {y1 : Int32} {y2 : Int64} {r : Option Value} {h' : HS}  : ∀ (n : Nat) {x4 : Int32} {h : HS} {q : HS}, l_X12_spell_3 y0 y1 y2 n x4 h = some q → En G (d + 0) miX12_spell 40 [dum, dum, dum, dum, dum] [] q r h' → En G (d + 0) miX12_spell 3 [.ref y0, .int y1, .long y2, dum, .int x4] [] h r h' := by
  intro n
  induction n with
  | zero => intro x4 h q H kE; exact nz H
  | succ n ih =>
    intro x4 h q H kE
    unfold l_X12_spell_3 at H
    refine e_iload dX12_spell_3 rfl ?_
    refine e_bipush (v := (8 : Int32)) dX12_spell_5 (by decide) ?_
    refine e_icmp_ge (tgt := 40) dX12_spell_7 (by decide) (fun c7 => ?_) (fun c7 => ?_)
    · replace H := ot c7 H
      obtain rfl := Option.some.inj H
      exact e_wk (lk0 (lk0 (lk0 (lk1 (lk0 lkn))))) kE
    · replace H := of_ c7 H
      refine g_aload_n dX12_spell_10 rfl rfl ?_
      replace H := og H; obtain ⟨g8, H⟩ := H
      replace H := oom H; obtain ⟨-, H⟩ | ⟨b9, e10, H⟩ := H
      · exact nz H
      refine e_getR g8 flX12_13_13 dX12_spell_11 rfl e10 ?_
      refine e_iload_n dX12_spell_14 rfl ?_
      refine e_iload dX12_spell_15 rfl ?_
      refine e_iadd dX12_spell_17 ?_
      refine e_lload_n dX12_spell_18 rfl ?_
      refine e_bipush (v := (56 : Int32)) dX12_spell_19 (by decide) ?_
      refine e_bipush (v := (8 : Int32)) dX12_spell_21 (by decide) ?_
      refine e_iload dX12_spell_23 rfl ?_
      refine e_imul dX12_spell_25 ?_
      refine e_isub dX12_spell_26 ?_
      refine e_lshr dX12_spell_27 ?_
      refine e_ldc2 (v := (255 : Int64)) lkX12_120 dX12_spell_28 ?_
      refine e_land dX12_spell_31 ?_
      refine e_l2i dX12_spell_32 ?_
      replace H := og H; obtain ⟨g11, H⟩ := H
      replace H := og H; obtain ⟨g12, H⟩ := H
      refine e_iast g11 (ixb_y rfl g12) dX12_spell_33 ?_
      refine e_iinc dX12_spell_34 rfl (ii_ (by decide : Int32.ofInt (1) = (1 : Int32))) (Nat.le_of_ble_eq_true rfl) rfl rfl ?_
      refine e_goto (tgt := 3) dX12_spell_37 (by decide) ?_
      exact e_wk (lk1 (lk1 (lk1 (lk1 (lk1 lkn))))) (ih H kE)
def f_X12_spell (p0 : Nat) (p1 : Int32) (p2 : Int64) (h : HS) : Option HS := (Option.bind (l_X12_spell_3 p0 p1 p2 1000 (0 : Int32) h) (fun q13 => (some q13)))
set_option maxHeartbeats 4000000 in
set_option maxRecDepth 20000 in
theorem p_X12_spell {p0 : Nat} {p1 : Int32} {p2 : Int64} {h : HS} {q : HS} (H : f_X12_spell p0 p1 p2 h = some q) : Pr h q := by
  unfold f_X12_spell at H
  replace H := ob H; obtain ⟨q13, c14, H⟩ := H
  have e15 := p_X12_spell_3 1000 c14
  obtain rfl := Option.some.inj H
  exact e15
set_option maxHeartbeats 4000000 in
set_option maxRecDepth 20000 in
theorem t_X12_spell {G : GE} (d : Nat) {p0 : Nat} {p1 : Int32} {p2 : Int64} {h : HS} {q : HS} (H : f_X12_spell p0 p1 p2 h = some q) : CE G (d + 0) yX12_spell miX12_spell [.ref p0, .int p1, .long p2] h (none) (q) := by
  unfold f_X12_spell at H
  refine ce_of rfl (by decide) (fun q => by first | rfl | cases q) (Nat.le_of_ble_eq_true rfl) rfl ?_
  refine e_iconst (v := (0 : Int32)) dX12_spell_0 (by decide) ?_
  refine e_istore dX12_spell_1 (Nat.le_of_ble_eq_true rfl) rfl rfl ?_
  replace H := ob H; obtain ⟨q13, c14, H⟩ := H
  have e15 := p_X12_spell_3 1000 c14
  refine e_wk (lk1 (lk1 (lk1 (lk1 (lk1 lkn))))) (w_X12_spell_3 d 1000 c14 ?_)
  obtain rfl := Option.some.inj H
  exact z_vret rfl dX12_spell_40 rfl rfl
-- X12_init
def f_X12_init (p0 : Nat) (h : HS) : Option HS := (if hT h (hN h) = 0 then (bh (hNew h 15 (960 : Int32).toNatClampNeg (960 : Int32).toNatClampNeg) (fun h3 => (if hT h3 p0 = 14 then (if hT (sR h3 p0 1 (some (hN h))) (hN (sR h3 p0 1 (some (hN h)))) = 0 then (bh (hNew (sR h3 p0 1 (some (hN h))) 15 (6 : Int32).toNatClampNeg (6 : Int32).toNatClampNeg) (fun h14 => (if hT (sR h14 p0 2 (some (hN (sR h3 p0 1 (some (hN h)))))) (hN (sR h14 p0 2 (some (hN (sR h3 p0 1 (some (hN h))))))) = 0 then (bh (hNew (sR h14 p0 2 (some (hN (sR h3 p0 1 (some (hN h)))))) 15 (160 : Int32).toNatClampNeg (160 : Int32).toNatClampNeg) (fun h28 => (if hT (sR h28 p0 5 (some (hN (sR h14 p0 2 (some (hN (sR h3 p0 1 (some (hN h))))))))) (hN (sR h28 p0 5 (some (hN (sR h14 p0 2 (some (hN (sR h3 p0 1 (some (hN h)))))))))) = 0 then (bh (hNew (sR h28 p0 5 (some (hN (sR h14 p0 2 (some (hN (sR h3 p0 1 (some (hN h))))))))) 15 (8 : Int32).toNatClampNeg (8 : Int32).toNatClampNeg) (fun h45 => (if hT (sR h45 p0 7 (some (hN (sR h28 p0 5 (some (hN (sR h14 p0 2 (some (hN (sR h3 p0 1 (some (hN h)))))))))))) (hN (sR h45 p0 7 (some (hN (sR h28 p0 5 (some (hN (sR h14 p0 2 (some (hN (sR h3 p0 1 (some (hN h))))))))))))) = 0 then (bh (hNew (sR h45 p0 7 (some (hN (sR h28 p0 5 (some (hN (sR h14 p0 2 (some (hN (sR h3 p0 1 (some (hN h)))))))))))) 15 (8 : Int32).toNatClampNeg (8 : Int32).toNatClampNeg) (fun h65 => (if hT (sR h65 p0 8 (some (hN (sR h45 p0 7 (some (hN (sR h28 p0 5 (some (hN (sR h14 p0 2 (some (hN (sR h3 p0 1 (some (hN h))))))))))))))) (hN (sR h65 p0 8 (some (hN (sR h45 p0 7 (some (hN (sR h28 p0 5 (some (hN (sR h14 p0 2 (some (hN (sR h3 p0 1 (some (hN h)))))))))))))))) = 0 then (bh (hNew (sR h65 p0 8 (some (hN (sR h45 p0 7 (some (hN (sR h28 p0 5 (some (hN (sR h14 p0 2 (some (hN (sR h3 p0 1 (some (hN h))))))))))))))) 15 (8 : Int32).toNatClampNeg (8 : Int32).toNatClampNeg) (fun h88 => (bh (sR h88 p0 9 (some (hN (sR h65 p0 8 (some (hN (sR h45 p0 7 (some (hN (sR h28 p0 5 (some (hN (sR h14 p0 2 (some (hN (sR h3 p0 1 (some (hN h)))))))))))))))))) (fun h105 => (if hT h105 (hN h105) = 0 then (bh (hNew h105 15 (8 : Int32).toNatClampNeg (8 : Int32).toNatClampNeg) (fun h123 => (if hT (sR h123 p0 10 (some (hN h105))) (hN (sR h123 p0 10 (some (hN h105)))) = 0 then (bh (hNew (sR h123 p0 10 (some (hN h105))) 15 (8 : Int32).toNatClampNeg (8 : Int32).toNatClampNeg) (fun h152 => (if hT (sR h152 p0 11 (some (hN (sR h123 p0 10 (some (hN h105)))))) (hN (sR h152 p0 11 (some (hN (sR h123 p0 10 (some (hN h105))))))) = 0 then (bh (hNew (sR h152 p0 11 (some (hN (sR h123 p0 10 (some (hN h105)))))) 15 (8 : Int32).toNatClampNeg (8 : Int32).toNatClampNeg) (fun h184 => (if hT (sR h184 p0 12 (some (hN (sR h152 p0 11 (some (hN (sR h123 p0 10 (some (hN h105))))))))) (hN (sR h184 p0 12 (some (hN (sR h152 p0 11 (some (hN (sR h123 p0 10 (some (hN h105)))))))))) = 0 then (bh (hNew (sR h184 p0 12 (some (hN (sR h152 p0 11 (some (hN (sR h123 p0 10 (some (hN h105))))))))) 15 (8 : Int32).toNatClampNeg (8 : Int32).toNatClampNeg) (fun h219 => (if hT (sR h219 p0 13 (some (hN (sR h184 p0 12 (some (hN (sR h152 p0 11 (some (hN (sR h123 p0 10 (some (hN h105)))))))))))) (hN (sR h219 p0 13 (some (hN (sR h184 p0 12 (some (hN (sR h152 p0 11 (some (hN (sR h123 p0 10 (some (hN h105))))))))))))) = 0 then (bh (hNew (sR h219 p0 13 (some (hN (sR h184 p0 12 (some (hN (sR h152 p0 11 (some (hN (sR h123 p0 10 (some (hN h105)))))))))))) 15 (6 : Int32).toNatClampNeg (6 : Int32).toNatClampNeg) (fun h257 => (if hT (sR h257 p0 15 (some (hN (sR h219 p0 13 (some (hN (sR h184 p0 12 (some (hN (sR h152 p0 11 (some (hN (sR h123 p0 10 (some (hN h105))))))))))))))) (hN (sR h257 p0 15 (some (hN (sR h219 p0 13 (some (hN (sR h184 p0 12 (some (hN (sR h152 p0 11 (some (hN (sR h123 p0 10 (some (hN h105)))))))))))))))) = 0 then (bh (hNew (sR h257 p0 15 (some (hN (sR h219 p0 13 (some (hN (sR h184 p0 12 (some (hN (sR h152 p0 11 (some (hN (sR h123 p0 10 (some (hN h105))))))))))))))) 15 (6 : Int32).toNatClampNeg (6 : Int32).toNatClampNeg) (fun h298 => (bh (sR h298 p0 16 (some (hN (sR h257 p0 15 (some (hN (sR h219 p0 13 (some (hN (sR h184 p0 12 (some (hN (sR h152 p0 11 (some (hN (sR h123 p0 10 (some (hN h105)))))))))))))))))) (fun h327 => (if hT h327 (hN h327) = 0 then (bh (hNew h327 15 (6 : Int32).toNatClampNeg (6 : Int32).toNatClampNeg) (fun h357 => (if hT (sR h357 p0 17 (some (hN h327))) (hN (sR h357 p0 17 (some (hN h327)))) = 0 then (bh (hNew (sR h357 p0 17 (some (hN h327))) 15 (60 : Int32).toNatClampNeg (60 : Int32).toNatClampNeg) (fun h404 => (if hT (sR h404 p0 20 (some (hN (sR h357 p0 17 (some (hN h327)))))) (hN (sR h404 p0 20 (some (hN (sR h357 p0 17 (some (hN h327))))))) = 0 then (bh (hNew (sR h404 p0 20 (some (hN (sR h357 p0 17 (some (hN h327)))))) 15 (60 : Int32).toNatClampNeg (60 : Int32).toNatClampNeg) (fun h454 => (if hT (sR h454 p0 21 (some (hN (sR h404 p0 20 (some (hN (sR h357 p0 17 (some (hN h327))))))))) (hN (sR h454 p0 21 (some (hN (sR h404 p0 20 (some (hN (sR h357 p0 17 (some (hN h327)))))))))) = 0 then (bh (hNew (sR h454 p0 21 (some (hN (sR h404 p0 20 (some (hN (sR h357 p0 17 (some (hN h327))))))))) 15 (60 : Int32).toNatClampNeg (60 : Int32).toNatClampNeg) (fun h507 => (if hT (sR h507 p0 22 (some (hN (sR h454 p0 21 (some (hN (sR h404 p0 20 (some (hN (sR h357 p0 17 (some (hN h327)))))))))))) (hN (sR h507 p0 22 (some (hN (sR h454 p0 21 (some (hN (sR h404 p0 20 (some (hN (sR h357 p0 17 (some (hN h327))))))))))))) = 0 then (bh (hNew (sR h507 p0 22 (some (hN (sR h454 p0 21 (some (hN (sR h404 p0 20 (some (hN (sR h357 p0 17 (some (hN h327)))))))))))) 15 (60 : Int32).toNatClampNeg (60 : Int32).toNatClampNeg) (fun h563 => (if hT (sR h563 p0 23 (some (hN (sR h507 p0 22 (some (hN (sR h454 p0 21 (some (hN (sR h404 p0 20 (some (hN (sR h357 p0 17 (some (hN h327))))))))))))))) (hN (sR h563 p0 23 (some (hN (sR h507 p0 22 (some (hN (sR h454 p0 21 (some (hN (sR h404 p0 20 (some (hN (sR h357 p0 17 (some (hN h327)))))))))))))))) = 0 then (bh (hNew (sR h563 p0 23 (some (hN (sR h507 p0 22 (some (hN (sR h454 p0 21 (some (hN (sR h404 p0 20 (some (hN (sR h357 p0 17 (some (hN h327))))))))))))))) 15 (60 : Int32).toNatClampNeg (60 : Int32).toNatClampNeg) (fun h622 => (bh (sR h622 p0 24 (some (hN (sR h563 p0 23 (some (hN (sR h507 p0 22 (some (hN (sR h454 p0 21 (some (hN (sR h404 p0 20 (some (hN (sR h357 p0 17 (some (hN h327)))))))))))))))))) (fun h663 => (if hT h663 (hN h663) = 0 then (bh (hNew h663 15 (6 : Int32).toNatClampNeg (6 : Int32).toNatClampNeg) (fun h705 => (if hT (sR h705 p0 42 (some (hN h663))) (hN (sR h705 p0 42 (some (hN h663)))) = 0 then (bh (hNew (sR h705 p0 42 (some (hN h663))) 15 (36 : Int32).toNatClampNeg (36 : Int32).toNatClampNeg) (fun h770 => (if hT (sR h770 p0 43 (some (hN (sR h705 p0 42 (some (hN h663)))))) (hN (sR h770 p0 43 (some (hN (sR h705 p0 42 (some (hN h663))))))) = 0 then (bh (hNew (sR h770 p0 43 (some (hN (sR h705 p0 42 (some (hN h663)))))) 15 (8 : Int32).toNatClampNeg (8 : Int32).toNatClampNeg) (fun h838 => (if hT (sR h838 p0 45 (some (hN (sR h770 p0 43 (some (hN (sR h705 p0 42 (some (hN h663))))))))) (hN (sR h838 p0 45 (some (hN (sR h770 p0 43 (some (hN (sR h705 p0 42 (some (hN h663)))))))))) = 0 then (bh (hNew (sR h838 p0 45 (some (hN (sR h770 p0 43 (some (hN (sR h705 p0 42 (some (hN h663))))))))) 15 (8 : Int32).toNatClampNeg (8 : Int32).toNatClampNeg) (fun h909 => (if hT (sR h909 p0 46 (some (hN (sR h838 p0 45 (some (hN (sR h770 p0 43 (some (hN (sR h705 p0 42 (some (hN h663)))))))))))) (hN (sR h909 p0 46 (some (hN (sR h838 p0 45 (some (hN (sR h770 p0 43 (some (hN (sR h705 p0 42 (some (hN h663))))))))))))) = 0 then (bh (hNew (sR h909 p0 46 (some (hN (sR h838 p0 45 (some (hN (sR h770 p0 43 (some (hN (sR h705 p0 42 (some (hN h663)))))))))))) 15 (201 : Int32).toNatClampNeg (201 : Int32).toNatClampNeg) (fun h983 => (if hT (sR h983 p0 47 (some (hN (sR h909 p0 46 (some (hN (sR h838 p0 45 (some (hN (sR h770 p0 43 (some (hN (sR h705 p0 42 (some (hN h663))))))))))))))) (hN (sR h983 p0 47 (some (hN (sR h909 p0 46 (some (hN (sR h838 p0 45 (some (hN (sR h770 p0 43 (some (hN (sR h705 p0 42 (some (hN h663)))))))))))))))) = 0 then (bh (hNew (sR h983 p0 47 (some (hN (sR h909 p0 46 (some (hN (sR h838 p0 45 (some (hN (sR h770 p0 43 (some (hN (sR h705 p0 42 (some (hN h663))))))))))))))) 15 (32 : Int32).toNatClampNeg (32 : Int32).toNatClampNeg) (fun h1060 => (bh (sR h1060 p0 48 (some (hN (sR h983 p0 47 (some (hN (sR h909 p0 46 (some (hN (sR h838 p0 45 (some (hN (sR h770 p0 43 (some (hN (sR h705 p0 42 (some (hN h663)))))))))))))))))) (fun h1113 => (if hT h1113 (hN h1113) = 0 then (bh (hNew h1113 17 (4 : Int32).toNatClampNeg (4 : Int32).toNatClampNeg) (fun h1167 => (if hT (sR h1167 p0 53 (some (hN h1113))) (hN (sR h1167 p0 53 (some (hN h1113)))) = 0 then (bh (hNew (sR h1167 p0 53 (some (hN h1113))) 15 (4 : Int32).toNatClampNeg (4 : Int32).toNatClampNeg) (fun h1250 => (if hT (sR h1250 p0 54 (some (hN (sR h1167 p0 53 (some (hN h1113)))))) (hN (sR h1250 p0 54 (some (hN (sR h1167 p0 53 (some (hN h1113))))))) = 0 then (bh (hNew (sR h1250 p0 54 (some (hN (sR h1167 p0 53 (some (hN h1113)))))) 15 (4 : Int32).toNatClampNeg (4 : Int32).toNatClampNeg) (fun h1336 => (if hT (sR h1336 p0 55 (some (hN (sR h1250 p0 54 (some (hN (sR h1167 p0 53 (some (hN h1113))))))))) (hN (sR h1336 p0 55 (some (hN (sR h1250 p0 54 (some (hN (sR h1167 p0 53 (some (hN h1113)))))))))) = 0 then (bh (hNew (sR h1336 p0 55 (some (hN (sR h1250 p0 54 (some (hN (sR h1167 p0 53 (some (hN h1113))))))))) 15 (160 : Int32).toNatClampNeg (160 : Int32).toNatClampNeg) (fun h1425 => (Option.bind (f_X12_spell p0 (0 : Int32) (8100957002595857001 : Int64) (sR h1425 p0 56 (some (hN (sR h1336 p0 55 (some (hN (sR h1250 p0 54 (some (hN (sR h1167 p0 53 (some (hN h1113))))))))))))) (fun q1486 => (Option.bind (f_X12_spell p0 (8 : Int32) (7162166225016939620 : Int64) q1486) (fun q1519 => (Option.bind (f_X12_spell p0 (16 : Int32) (8295677931991426413 : Int64) q1519) (fun q1552 => (Option.bind (f_X12_spell p0 (24 : Int32) (8295695524177865068 : Int64) q1552) (fun q1585 => (Option.bind (f_X12_spell p0 (32 : Int32) (7791290272867688559 : Int64) q1585) (fun q1618 => (Option.bind (f_X12_spell p0 (40 : Int32) (7234033483731987557 : Int64) q1618) (fun q1651 => (Option.bind (f_X12_spell p0 (48 : Int32) (7022911857885199136 : Int64) q1651) (fun q1684 => (om (hR q1684 p0 2) none (fun b1717 => (if hT q1684 b1717 = 15 then (if ixb (0 : Int32) (hLn q1684 b1717) = true then (some (sI (sI q1684 b1717 (0 : Int32).toNatClampNeg (56 : Int32)) p0 3 (1 : Int32))) else none) else none))))))))))))))))))) else none))) else none))) else none))) else none))))) else none))) else none))) else none))) else none))) else none))) else none))))) else none))) else none))) else none))) else none))) else none))) else none))))) else none))) else none))) else none))) else none))) else none))) else none))))) else none))) else none))) else none))) else none))) else none) else none))) else none)
set_option maxHeartbeats 4000000 in
set_option maxRecDepth 20000 in
theorem p_X12_init {p0 : Nat} {h : HS} {q : HS} (H : f_X12_init p0 h = some q) : Prw h q := by
  unfold f_X12_init at H
  replace H := og H; obtain ⟨g1, H⟩ := H
  have e2 := Prw.nw (h := h) (kd := 15) (ln := (960 : Int32).toNatClampNeg) (ns := (960 : Int32).toNatClampNeg) Prw.rf g1
  replace H := obh H; obtain ⟨h3, e4, H⟩ := H
  replace H := og H; obtain ⟨g6, H⟩ := H
  have e7 := Prw.sR (h := h3) (a := p0) (k := 1) (v := some (hN h)) Prw.rf 
  replace H := og H; obtain ⟨g10, H⟩ := H
  have e11 := Prw.nw (h := (sR h3 p0 1 (some (hN h)))) (kd := 15) (ln := (6 : Int32).toNatClampNeg) (ns := (6 : Int32).toNatClampNeg) Prw.rf g10
  replace H := obh H; obtain ⟨h14, e15, H⟩ := H
  have e19 := Prw.sR (h := h14) (a := p0) (k := 2) (v := some (hN (sR h3 p0 1 (some (hN h))))) Prw.rf 
  replace H := og H; obtain ⟨g23, H⟩ := H
  have e24 := Prw.nw (h := (sR h14 p0 2 (some (hN (sR h3 p0 1 (some (hN h))))))) (kd := 15) (ln := (160 : Int32).toNatClampNeg) (ns := (160 : Int32).toNatClampNeg) Prw.rf g23
  replace H := obh H; obtain ⟨h28, e29, H⟩ := H
  have e34 := Prw.sR (h := h28) (a := p0) (k := 5) (v := some (hN (sR h14 p0 2 (some (hN (sR h3 p0 1 (some (hN h)))))))) Prw.rf 
  replace H := og H; obtain ⟨g39, H⟩ := H
  have e40 := Prw.nw (h := (sR h28 p0 5 (some (hN (sR h14 p0 2 (some (hN (sR h3 p0 1 (some (hN h)))))))))) (kd := 15) (ln := (8 : Int32).toNatClampNeg) (ns := (8 : Int32).toNatClampNeg) Prw.rf g39
  replace H := obh H; obtain ⟨h45, e46, H⟩ := H
  have e52 := Prw.sR (h := h45) (a := p0) (k := 7) (v := some (hN (sR h28 p0 5 (some (hN (sR h14 p0 2 (some (hN (sR h3 p0 1 (some (hN h))))))))))) Prw.rf 
  replace H := og H; obtain ⟨g58, H⟩ := H
  have e59 := Prw.nw (h := (sR h45 p0 7 (some (hN (sR h28 p0 5 (some (hN (sR h14 p0 2 (some (hN (sR h3 p0 1 (some (hN h))))))))))))) (kd := 15) (ln := (8 : Int32).toNatClampNeg) (ns := (8 : Int32).toNatClampNeg) Prw.rf g58
  replace H := obh H; obtain ⟨h65, e66, H⟩ := H
  have e73 := Prw.sR (h := h65) (a := p0) (k := 8) (v := some (hN (sR h45 p0 7 (some (hN (sR h28 p0 5 (some (hN (sR h14 p0 2 (some (hN (sR h3 p0 1 (some (hN h)))))))))))))) Prw.rf 
  replace H := og H; obtain ⟨g80, H⟩ := H
  have e81 := Prw.nw (h := (sR h65 p0 8 (some (hN (sR h45 p0 7 (some (hN (sR h28 p0 5 (some (hN (sR h14 p0 2 (some (hN (sR h3 p0 1 (some (hN h)))))))))))))))) (kd := 15) (ln := (8 : Int32).toNatClampNeg) (ns := (8 : Int32).toNatClampNeg) Prw.rf g80
  replace H := obh H; obtain ⟨h88, e89, H⟩ := H
  have e97 := Prw.sR (h := h88) (a := p0) (k := 9) (v := some (hN (sR h65 p0 8 (some (hN (sR h45 p0 7 (some (hN (sR h28 p0 5 (some (hN (sR h14 p0 2 (some (hN (sR h3 p0 1 (some (hN h))))))))))))))))) Prw.rf 
  replace H := obh H; obtain ⟨h105, e106, H⟩ := H
  replace H := og H; obtain ⟨g114, H⟩ := H
  have e115 := Prw.nw (h := h105) (kd := 15) (ln := (8 : Int32).toNatClampNeg) (ns := (8 : Int32).toNatClampNeg) Prw.rf g114
  replace H := obh H; obtain ⟨h123, e124, H⟩ := H
  have e133 := Prw.sR (h := h123) (a := p0) (k := 10) (v := some (hN h105)) Prw.rf 
  replace H := og H; obtain ⟨g142, H⟩ := H
  have e143 := Prw.nw (h := (sR h123 p0 10 (some (hN h105)))) (kd := 15) (ln := (8 : Int32).toNatClampNeg) (ns := (8 : Int32).toNatClampNeg) Prw.rf g142
  replace H := obh H; obtain ⟨h152, e153, H⟩ := H
  have e163 := Prw.sR (h := h152) (a := p0) (k := 11) (v := some (hN (sR h123 p0 10 (some (hN h105))))) Prw.rf 
  replace H := og H; obtain ⟨g173, H⟩ := H
  have e174 := Prw.nw (h := (sR h152 p0 11 (some (hN (sR h123 p0 10 (some (hN h105))))))) (kd := 15) (ln := (8 : Int32).toNatClampNeg) (ns := (8 : Int32).toNatClampNeg) Prw.rf g173
  replace H := obh H; obtain ⟨h184, e185, H⟩ := H
  have e196 := Prw.sR (h := h184) (a := p0) (k := 12) (v := some (hN (sR h152 p0 11 (some (hN (sR h123 p0 10 (some (hN h105)))))))) Prw.rf 
  replace H := og H; obtain ⟨g207, H⟩ := H
  have e208 := Prw.nw (h := (sR h184 p0 12 (some (hN (sR h152 p0 11 (some (hN (sR h123 p0 10 (some (hN h105)))))))))) (kd := 15) (ln := (8 : Int32).toNatClampNeg) (ns := (8 : Int32).toNatClampNeg) Prw.rf g207
  replace H := obh H; obtain ⟨h219, e220, H⟩ := H
  have e232 := Prw.sR (h := h219) (a := p0) (k := 13) (v := some (hN (sR h184 p0 12 (some (hN (sR h152 p0 11 (some (hN (sR h123 p0 10 (some (hN h105))))))))))) Prw.rf 
  replace H := og H; obtain ⟨g244, H⟩ := H
  have e245 := Prw.nw (h := (sR h219 p0 13 (some (hN (sR h184 p0 12 (some (hN (sR h152 p0 11 (some (hN (sR h123 p0 10 (some (hN h105))))))))))))) (kd := 15) (ln := (6 : Int32).toNatClampNeg) (ns := (6 : Int32).toNatClampNeg) Prw.rf g244
  replace H := obh H; obtain ⟨h257, e258, H⟩ := H
  have e271 := Prw.sR (h := h257) (a := p0) (k := 15) (v := some (hN (sR h219 p0 13 (some (hN (sR h184 p0 12 (some (hN (sR h152 p0 11 (some (hN (sR h123 p0 10 (some (hN h105)))))))))))))) Prw.rf 
  replace H := og H; obtain ⟨g284, H⟩ := H
  have e285 := Prw.nw (h := (sR h257 p0 15 (some (hN (sR h219 p0 13 (some (hN (sR h184 p0 12 (some (hN (sR h152 p0 11 (some (hN (sR h123 p0 10 (some (hN h105)))))))))))))))) (kd := 15) (ln := (6 : Int32).toNatClampNeg) (ns := (6 : Int32).toNatClampNeg) Prw.rf g284
  replace H := obh H; obtain ⟨h298, e299, H⟩ := H
  have e313 := Prw.sR (h := h298) (a := p0) (k := 16) (v := some (hN (sR h257 p0 15 (some (hN (sR h219 p0 13 (some (hN (sR h184 p0 12 (some (hN (sR h152 p0 11 (some (hN (sR h123 p0 10 (some (hN h105))))))))))))))))) Prw.rf 
  replace H := obh H; obtain ⟨h327, e328, H⟩ := H
  replace H := og H; obtain ⟨g342, H⟩ := H
  have e343 := Prw.nw (h := h327) (kd := 15) (ln := (6 : Int32).toNatClampNeg) (ns := (6 : Int32).toNatClampNeg) Prw.rf g342
  replace H := obh H; obtain ⟨h357, e358, H⟩ := H
  have e373 := Prw.sR (h := h357) (a := p0) (k := 17) (v := some (hN h327)) Prw.rf 
  replace H := og H; obtain ⟨g388, H⟩ := H
  have e389 := Prw.nw (h := (sR h357 p0 17 (some (hN h327)))) (kd := 15) (ln := (60 : Int32).toNatClampNeg) (ns := (60 : Int32).toNatClampNeg) Prw.rf g388
  replace H := obh H; obtain ⟨h404, e405, H⟩ := H
  have e421 := Prw.sR (h := h404) (a := p0) (k := 20) (v := some (hN (sR h357 p0 17 (some (hN h327))))) Prw.rf 
  replace H := og H; obtain ⟨g437, H⟩ := H
  have e438 := Prw.nw (h := (sR h404 p0 20 (some (hN (sR h357 p0 17 (some (hN h327))))))) (kd := 15) (ln := (60 : Int32).toNatClampNeg) (ns := (60 : Int32).toNatClampNeg) Prw.rf g437
  replace H := obh H; obtain ⟨h454, e455, H⟩ := H
  have e472 := Prw.sR (h := h454) (a := p0) (k := 21) (v := some (hN (sR h404 p0 20 (some (hN (sR h357 p0 17 (some (hN h327)))))))) Prw.rf 
  replace H := og H; obtain ⟨g489, H⟩ := H
  have e490 := Prw.nw (h := (sR h454 p0 21 (some (hN (sR h404 p0 20 (some (hN (sR h357 p0 17 (some (hN h327)))))))))) (kd := 15) (ln := (60 : Int32).toNatClampNeg) (ns := (60 : Int32).toNatClampNeg) Prw.rf g489
  replace H := obh H; obtain ⟨h507, e508, H⟩ := H
  have e526 := Prw.sR (h := h507) (a := p0) (k := 22) (v := some (hN (sR h454 p0 21 (some (hN (sR h404 p0 20 (some (hN (sR h357 p0 17 (some (hN h327))))))))))) Prw.rf 
  replace H := og H; obtain ⟨g544, H⟩ := H
  have e545 := Prw.nw (h := (sR h507 p0 22 (some (hN (sR h454 p0 21 (some (hN (sR h404 p0 20 (some (hN (sR h357 p0 17 (some (hN h327))))))))))))) (kd := 15) (ln := (60 : Int32).toNatClampNeg) (ns := (60 : Int32).toNatClampNeg) Prw.rf g544
  replace H := obh H; obtain ⟨h563, e564, H⟩ := H
  have e583 := Prw.sR (h := h563) (a := p0) (k := 23) (v := some (hN (sR h507 p0 22 (some (hN (sR h454 p0 21 (some (hN (sR h404 p0 20 (some (hN (sR h357 p0 17 (some (hN h327)))))))))))))) Prw.rf 
  replace H := og H; obtain ⟨g602, H⟩ := H
  have e603 := Prw.nw (h := (sR h563 p0 23 (some (hN (sR h507 p0 22 (some (hN (sR h454 p0 21 (some (hN (sR h404 p0 20 (some (hN (sR h357 p0 17 (some (hN h327)))))))))))))))) (kd := 15) (ln := (60 : Int32).toNatClampNeg) (ns := (60 : Int32).toNatClampNeg) Prw.rf g602
  replace H := obh H; obtain ⟨h622, e623, H⟩ := H
  have e643 := Prw.sR (h := h622) (a := p0) (k := 24) (v := some (hN (sR h563 p0 23 (some (hN (sR h507 p0 22 (some (hN (sR h454 p0 21 (some (hN (sR h404 p0 20 (some (hN (sR h357 p0 17 (some (hN h327))))))))))))))))) Prw.rf 
  replace H := obh H; obtain ⟨h663, e664, H⟩ := H
  replace H := og H; obtain ⟨g684, H⟩ := H
  have e685 := Prw.nw (h := h663) (kd := 15) (ln := (6 : Int32).toNatClampNeg) (ns := (6 : Int32).toNatClampNeg) Prw.rf g684
  replace H := obh H; obtain ⟨h705, e706, H⟩ := H
  have e727 := Prw.sR (h := h705) (a := p0) (k := 42) (v := some (hN h663)) Prw.rf 
  replace H := og H; obtain ⟨g748, H⟩ := H
  have e749 := Prw.nw (h := (sR h705 p0 42 (some (hN h663)))) (kd := 15) (ln := (36 : Int32).toNatClampNeg) (ns := (36 : Int32).toNatClampNeg) Prw.rf g748
  replace H := obh H; obtain ⟨h770, e771, H⟩ := H
  have e793 := Prw.sR (h := h770) (a := p0) (k := 43) (v := some (hN (sR h705 p0 42 (some (hN h663))))) Prw.rf 
  replace H := og H; obtain ⟨g815, H⟩ := H
  have e816 := Prw.nw (h := (sR h770 p0 43 (some (hN (sR h705 p0 42 (some (hN h663))))))) (kd := 15) (ln := (8 : Int32).toNatClampNeg) (ns := (8 : Int32).toNatClampNeg) Prw.rf g815
  replace H := obh H; obtain ⟨h838, e839, H⟩ := H
  have e862 := Prw.sR (h := h838) (a := p0) (k := 45) (v := some (hN (sR h770 p0 43 (some (hN (sR h705 p0 42 (some (hN h663)))))))) Prw.rf 
  replace H := og H; obtain ⟨g885, H⟩ := H
  have e886 := Prw.nw (h := (sR h838 p0 45 (some (hN (sR h770 p0 43 (some (hN (sR h705 p0 42 (some (hN h663)))))))))) (kd := 15) (ln := (8 : Int32).toNatClampNeg) (ns := (8 : Int32).toNatClampNeg) Prw.rf g885
  replace H := obh H; obtain ⟨h909, e910, H⟩ := H
  have e934 := Prw.sR (h := h909) (a := p0) (k := 46) (v := some (hN (sR h838 p0 45 (some (hN (sR h770 p0 43 (some (hN (sR h705 p0 42 (some (hN h663))))))))))) Prw.rf 
  replace H := og H; obtain ⟨g958, H⟩ := H
  have e959 := Prw.nw (h := (sR h909 p0 46 (some (hN (sR h838 p0 45 (some (hN (sR h770 p0 43 (some (hN (sR h705 p0 42 (some (hN h663))))))))))))) (kd := 15) (ln := (201 : Int32).toNatClampNeg) (ns := (201 : Int32).toNatClampNeg) Prw.rf g958
  replace H := obh H; obtain ⟨h983, e984, H⟩ := H
  have e1009 := Prw.sR (h := h983) (a := p0) (k := 47) (v := some (hN (sR h909 p0 46 (some (hN (sR h838 p0 45 (some (hN (sR h770 p0 43 (some (hN (sR h705 p0 42 (some (hN h663)))))))))))))) Prw.rf 
  replace H := og H; obtain ⟨g1034, H⟩ := H
  have e1035 := Prw.nw (h := (sR h983 p0 47 (some (hN (sR h909 p0 46 (some (hN (sR h838 p0 45 (some (hN (sR h770 p0 43 (some (hN (sR h705 p0 42 (some (hN h663)))))))))))))))) (kd := 15) (ln := (32 : Int32).toNatClampNeg) (ns := (32 : Int32).toNatClampNeg) Prw.rf g1034
  replace H := obh H; obtain ⟨h1060, e1061, H⟩ := H
  have e1087 := Prw.sR (h := h1060) (a := p0) (k := 48) (v := some (hN (sR h983 p0 47 (some (hN (sR h909 p0 46 (some (hN (sR h838 p0 45 (some (hN (sR h770 p0 43 (some (hN (sR h705 p0 42 (some (hN h663))))))))))))))))) Prw.rf 
  replace H := obh H; obtain ⟨h1113, e1114, H⟩ := H
  replace H := og H; obtain ⟨g1140, H⟩ := H
  have e1141 := Prw.nw (h := h1113) (kd := 17) (ln := (4 : Int32).toNatClampNeg) (ns := (4 : Int32).toNatClampNeg) Prw.rf g1140
  replace H := obh H; obtain ⟨h1167, e1168, H⟩ := H
  have e1195 := Prw.sR (h := h1167) (a := p0) (k := 53) (v := some (hN h1113)) Prw.rf 
  replace H := og H; obtain ⟨g1222, H⟩ := H
  have e1223 := Prw.nw (h := (sR h1167 p0 53 (some (hN h1113)))) (kd := 15) (ln := (4 : Int32).toNatClampNeg) (ns := (4 : Int32).toNatClampNeg) Prw.rf g1222
  replace H := obh H; obtain ⟨h1250, e1251, H⟩ := H
  have e1279 := Prw.sR (h := h1250) (a := p0) (k := 54) (v := some (hN (sR h1167 p0 53 (some (hN h1113))))) Prw.rf 
  replace H := og H; obtain ⟨g1307, H⟩ := H
  have e1308 := Prw.nw (h := (sR h1250 p0 54 (some (hN (sR h1167 p0 53 (some (hN h1113))))))) (kd := 15) (ln := (4 : Int32).toNatClampNeg) (ns := (4 : Int32).toNatClampNeg) Prw.rf g1307
  replace H := obh H; obtain ⟨h1336, e1337, H⟩ := H
  have e1366 := Prw.sR (h := h1336) (a := p0) (k := 55) (v := some (hN (sR h1250 p0 54 (some (hN (sR h1167 p0 53 (some (hN h1113)))))))) Prw.rf 
  replace H := og H; obtain ⟨g1395, H⟩ := H
  have e1396 := Prw.nw (h := (sR h1336 p0 55 (some (hN (sR h1250 p0 54 (some (hN (sR h1167 p0 53 (some (hN h1113)))))))))) (kd := 15) (ln := (160 : Int32).toNatClampNeg) (ns := (160 : Int32).toNatClampNeg) Prw.rf g1395
  replace H := obh H; obtain ⟨h1425, e1426, H⟩ := H
  have e1456 := Prw.sR (h := h1425) (a := p0) (k := 56) (v := some (hN (sR h1336 p0 55 (some (hN (sR h1250 p0 54 (some (hN (sR h1167 p0 53 (some (hN h1113))))))))))) Prw.rf 
  replace H := ob H; obtain ⟨q1486, c1487, H⟩ := H
  have e1489 := p_X12_spell c1487
  have e1488 := e1489.w
  replace H := ob H; obtain ⟨q1519, c1520, H⟩ := H
  have e1522 := p_X12_spell c1520
  have e1521 := e1522.w
  replace H := ob H; obtain ⟨q1552, c1553, H⟩ := H
  have e1555 := p_X12_spell c1553
  have e1554 := e1555.w
  replace H := ob H; obtain ⟨q1585, c1586, H⟩ := H
  have e1588 := p_X12_spell c1586
  have e1587 := e1588.w
  replace H := ob H; obtain ⟨q1618, c1619, H⟩ := H
  have e1621 := p_X12_spell c1619
  have e1620 := e1621.w
  replace H := ob H; obtain ⟨q1651, c1652, H⟩ := H
  have e1654 := p_X12_spell c1652
  have e1653 := e1654.w
  replace H := ob H; obtain ⟨q1684, c1685, H⟩ := H
  have e1687 := p_X12_spell c1685
  have e1686 := e1687.w
  replace H := oom H; obtain ⟨-, H⟩ | ⟨b1717, e1718, H⟩ := H
  · exact nz H
  replace H := og H; obtain ⟨g1719, H⟩ := H
  replace H := og H; obtain ⟨g1720, H⟩ := H
  obtain rfl := Option.some.inj H
  exact (((((((((((kW e1426 (((kW e1337 (((kW e1251 (((kW e1168 ((kW e1114 ((kW e1061 (((kW e984 (((kW e910 (((kW e839 (((kW e771 (((kW e706 ((kW e664 ((kW e623 (((kW e564 (((kW e508 (((kW e455 (((kW e405 (((kW e358 ((kW e328 ((kW e299 (((kW e258 (((kW e220 (((kW e185 (((kW e153 (((kW e124 ((kW e106 ((kW e89 (((kW e66 (((kW e46 (((kW e29 (((kW e15 (((kW e4 e2).tr e7).tr e11)).tr e19).tr e24)).tr e34).tr e40)).tr e52).tr e59)).tr e73).tr e81)).tr e97)).tr e115)).tr e133).tr e143)).tr e163).tr e174)).tr e196).tr e208)).tr e232).tr e245)).tr e271).tr e285)).tr e313)).tr e343)).tr e373).tr e389)).tr e421).tr e438)).tr e472).tr e490)).tr e526).tr e545)).tr e583).tr e603)).tr e643)).tr e685)).tr e727).tr e749)).tr e793).tr e816)).tr e862).tr e886)).tr e934).tr e959)).tr e1009).tr e1035)).tr e1087)).tr e1141)).tr e1195).tr e1223)).tr e1279).tr e1308)).tr e1366).tr e1396)).tr e1456).tr e1488).tr e1521).tr e1554).tr e1587).tr e1620).tr e1653).tr e1686).sI).sI)
set_option maxHeartbeats 4000000 in
set_option maxRecDepth 20000 in
theorem t_X12_init {G : GE} (d : Nat) {p0 : Nat} {h : HS} {q : HS} (H : f_X12_init p0 h = some q) : CE G (d + 1) yX12_init miX12_init [.ref p0] h (none) (q) := by
  unfold f_X12_init at H
  refine ce_of rfl (by decide) (fun q => by first | rfl | cases q) (Nat.le_of_ble_eq_true rfl) rfl ?_
  refine g_aload_n dX12_init_0 rfl rfl ?_
  refine e_objI lmX12_7 dX12_init_1 (Nat.le_of_ble_eq_true rfl) (by omega) ?_
  refine g_aload_n dX12_init_4 rfl rfl ?_
  refine e_sipush (v := (960 : Int32)) dX12_init_5 (by decide) ?_
  replace H := og H; obtain ⟨g1, H⟩ := H
  refine e_newa (atype := .int) (kd := 15) rfl (by decide) la_int (by decide) (by decide) dX12_init_8 ?_
  have e2 := Prw.nw (h := h) (kd := 15) (ln := (960 : Int32).toNatClampNeg) (ns := (960 : Int32).toNatClampNeg) Prw.rf g1
  replace H := obh H; obtain ⟨h3, e4, H⟩ := H
  refine e_hq e4 ?_
  have f5 := kT e4 hT_new
  replace H := og H; obtain ⟨g6, H⟩ := H
  refine e_putR g6 fpX12_13_13i (by first | exact Or.inl ⟨_, rfl⟩ | exact Or.inr ⟨_, rfl⟩) dX12_init_10 ?_
  have e7 := Prw.sR (h := h3) (a := p0) (k := 1) (v := some (hN h)) Prw.rf 
  have f8 := e7.k f5 (by decide)
  have f9 := e7.k g6 (by decide)
  refine g_aload_n dX12_init_13 rfl rfl ?_
  refine e_bipush (v := (6 : Int32)) dX12_init_14 (by decide) ?_
  replace H := og H; obtain ⟨g10, H⟩ := H
  refine e_newa (atype := .int) (kd := 15) rfl (by decide) la_int (by decide) (by decide) dX12_init_16 ?_
  have e11 := Prw.nw (h := (sR h3 p0 1 (some (hN h)))) (kd := 15) (ln := (6 : Int32).toNatClampNeg) (ns := (6 : Int32).toNatClampNeg) Prw.rf g10
  have f12 := e11.k f8 (by decide)
  have f13 := e11.k f9 (by decide)
  replace H := obh H; obtain ⟨h14, e15, H⟩ := H
  refine e_hq e15 ?_
  have f16 := kT e15 f12
  have f17 := kT e15 f13
  have f18 := kT e15 hT_new
  refine e_putR f17 fpX12_17_13i (by first | exact Or.inl ⟨_, rfl⟩ | exact Or.inr ⟨_, rfl⟩) dX12_init_18 ?_
  have e19 := Prw.sR (h := h14) (a := p0) (k := 2) (v := some (hN (sR h3 p0 1 (some (hN h))))) Prw.rf 
  have f20 := e19.k f16 (by decide)
  have f21 := e19.k f17 (by decide)
  have f22 := e19.k f18 (by decide)
  refine g_aload_n dX12_init_21 rfl rfl ?_
  refine e_sipush (v := (160 : Int32)) dX12_init_22 (by decide) ?_
  replace H := og H; obtain ⟨g23, H⟩ := H
  refine e_newa (atype := .int) (kd := 15) rfl (by decide) la_int (by decide) (by decide) dX12_init_25 ?_
  have e24 := Prw.nw (h := (sR h14 p0 2 (some (hN (sR h3 p0 1 (some (hN h))))))) (kd := 15) (ln := (160 : Int32).toNatClampNeg) (ns := (160 : Int32).toNatClampNeg) Prw.rf g23
  have f25 := e24.k f20 (by decide)
  have f26 := e24.k f21 (by decide)
  have f27 := e24.k f22 (by decide)
  replace H := obh H; obtain ⟨h28, e29, H⟩ := H
  refine e_hq e29 ?_
  have f30 := kT e29 f25
  have f31 := kT e29 f26
  have f32 := kT e29 f27
  have f33 := kT e29 hT_new
  refine e_putR f31 fpX12_20_13i (by first | exact Or.inl ⟨_, rfl⟩ | exact Or.inr ⟨_, rfl⟩) dX12_init_27 ?_
  have e34 := Prw.sR (h := h28) (a := p0) (k := 5) (v := some (hN (sR h14 p0 2 (some (hN (sR h3 p0 1 (some (hN h)))))))) Prw.rf 
  have f35 := e34.k f30 (by decide)
  have f36 := e34.k f31 (by decide)
  have f37 := e34.k f32 (by decide)
  have f38 := e34.k f33 (by decide)
  refine g_aload_n dX12_init_30 rfl rfl ?_
  refine e_bipush (v := (8 : Int32)) dX12_init_31 (by decide) ?_
  replace H := og H; obtain ⟨g39, H⟩ := H
  refine e_newa (atype := .int) (kd := 15) rfl (by decide) la_int (by decide) (by decide) dX12_init_33 ?_
  have e40 := Prw.nw (h := (sR h28 p0 5 (some (hN (sR h14 p0 2 (some (hN (sR h3 p0 1 (some (hN h)))))))))) (kd := 15) (ln := (8 : Int32).toNatClampNeg) (ns := (8 : Int32).toNatClampNeg) Prw.rf g39
  have f41 := e40.k f35 (by decide)
  have f42 := e40.k f36 (by decide)
  have f43 := e40.k f37 (by decide)
  have f44 := e40.k f38 (by decide)
  replace H := obh H; obtain ⟨h45, e46, H⟩ := H
  refine e_hq e46 ?_
  have f47 := kT e46 f41
  have f48 := kT e46 f42
  have f49 := kT e46 f43
  have f50 := kT e46 f44
  have f51 := kT e46 hT_new
  refine e_putR f48 fpX12_23_13i (by first | exact Or.inl ⟨_, rfl⟩ | exact Or.inr ⟨_, rfl⟩) dX12_init_35 ?_
  have e52 := Prw.sR (h := h45) (a := p0) (k := 7) (v := some (hN (sR h28 p0 5 (some (hN (sR h14 p0 2 (some (hN (sR h3 p0 1 (some (hN h))))))))))) Prw.rf 
  have f53 := e52.k f47 (by decide)
  have f54 := e52.k f48 (by decide)
  have f55 := e52.k f49 (by decide)
  have f56 := e52.k f50 (by decide)
  have f57 := e52.k f51 (by decide)
  refine g_aload_n dX12_init_38 rfl rfl ?_
  refine e_bipush (v := (8 : Int32)) dX12_init_39 (by decide) ?_
  replace H := og H; obtain ⟨g58, H⟩ := H
  refine e_newa (atype := .int) (kd := 15) rfl (by decide) la_int (by decide) (by decide) dX12_init_41 ?_
  have e59 := Prw.nw (h := (sR h45 p0 7 (some (hN (sR h28 p0 5 (some (hN (sR h14 p0 2 (some (hN (sR h3 p0 1 (some (hN h))))))))))))) (kd := 15) (ln := (8 : Int32).toNatClampNeg) (ns := (8 : Int32).toNatClampNeg) Prw.rf g58
  have f60 := e59.k f53 (by decide)
  have f61 := e59.k f54 (by decide)
  have f62 := e59.k f55 (by decide)
  have f63 := e59.k f56 (by decide)
  have f64 := e59.k f57 (by decide)
  replace H := obh H; obtain ⟨h65, e66, H⟩ := H
  refine e_hq e66 ?_
  have f67 := kT e66 f60
  have f68 := kT e66 f61
  have f69 := kT e66 f62
  have f70 := kT e66 f63
  have f71 := kT e66 f64
  have f72 := kT e66 hT_new
  refine e_putR f68 fpX12_26_13i (by first | exact Or.inl ⟨_, rfl⟩ | exact Or.inr ⟨_, rfl⟩) dX12_init_43 ?_
  have e73 := Prw.sR (h := h65) (a := p0) (k := 8) (v := some (hN (sR h45 p0 7 (some (hN (sR h28 p0 5 (some (hN (sR h14 p0 2 (some (hN (sR h3 p0 1 (some (hN h)))))))))))))) Prw.rf 
  have f74 := e73.k f67 (by decide)
  have f75 := e73.k f68 (by decide)
  have f76 := e73.k f69 (by decide)
  have f77 := e73.k f70 (by decide)
  have f78 := e73.k f71 (by decide)
  have f79 := e73.k f72 (by decide)
  refine g_aload_n dX12_init_46 rfl rfl ?_
  refine e_bipush (v := (8 : Int32)) dX12_init_47 (by decide) ?_
  replace H := og H; obtain ⟨g80, H⟩ := H
  refine e_newa (atype := .int) (kd := 15) rfl (by decide) la_int (by decide) (by decide) dX12_init_49 ?_
  have e81 := Prw.nw (h := (sR h65 p0 8 (some (hN (sR h45 p0 7 (some (hN (sR h28 p0 5 (some (hN (sR h14 p0 2 (some (hN (sR h3 p0 1 (some (hN h)))))))))))))))) (kd := 15) (ln := (8 : Int32).toNatClampNeg) (ns := (8 : Int32).toNatClampNeg) Prw.rf g80
  have f82 := e81.k f74 (by decide)
  have f83 := e81.k f75 (by decide)
  have f84 := e81.k f76 (by decide)
  have f85 := e81.k f77 (by decide)
  have f86 := e81.k f78 (by decide)
  have f87 := e81.k f79 (by decide)
  replace H := obh H; obtain ⟨h88, e89, H⟩ := H
  refine e_hq e89 ?_
  have f90 := kT e89 f82
  have f91 := kT e89 f83
  have f92 := kT e89 f84
  have f93 := kT e89 f85
  have f94 := kT e89 f86
  have f95 := kT e89 f87
  have f96 := kT e89 hT_new
  refine e_putR f91 fpX12_29_13i (by first | exact Or.inl ⟨_, rfl⟩ | exact Or.inr ⟨_, rfl⟩) dX12_init_51 ?_
  have e97 := Prw.sR (h := h88) (a := p0) (k := 9) (v := some (hN (sR h65 p0 8 (some (hN (sR h45 p0 7 (some (hN (sR h28 p0 5 (some (hN (sR h14 p0 2 (some (hN (sR h3 p0 1 (some (hN h))))))))))))))))) Prw.rf 
  have f98 := e97.k f90 (by decide)
  have f99 := e97.k f91 (by decide)
  have f100 := e97.k f92 (by decide)
  have f101 := e97.k f93 (by decide)
  have f102 := e97.k f94 (by decide)
  have f103 := e97.k f95 (by decide)
  have f104 := e97.k f96 (by decide)
  replace H := obh H; obtain ⟨h105, e106, H⟩ := H
  refine e_hq e106 ?_
  have f107 := kT e106 f98
  have f108 := kT e106 f99
  have f109 := kT e106 f100
  have f110 := kT e106 f101
  have f111 := kT e106 f102
  have f112 := kT e106 f103
  have f113 := kT e106 f104
  refine g_aload_n dX12_init_54 rfl rfl ?_
  refine e_bipush (v := (8 : Int32)) dX12_init_55 (by decide) ?_
  replace H := og H; obtain ⟨g114, H⟩ := H
  refine e_newa (atype := .int) (kd := 15) rfl (by decide) la_int (by decide) (by decide) dX12_init_57 ?_
  have e115 := Prw.nw (h := h105) (kd := 15) (ln := (8 : Int32).toNatClampNeg) (ns := (8 : Int32).toNatClampNeg) Prw.rf g114
  have f116 := e115.k f107 (by decide)
  have f117 := e115.k f108 (by decide)
  have f118 := e115.k f109 (by decide)
  have f119 := e115.k f110 (by decide)
  have f120 := e115.k f111 (by decide)
  have f121 := e115.k f112 (by decide)
  have f122 := e115.k f113 (by decide)
  replace H := obh H; obtain ⟨h123, e124, H⟩ := H
  refine e_hq e124 ?_
  have f125 := kT e124 f116
  have f126 := kT e124 f117
  have f127 := kT e124 f118
  have f128 := kT e124 f119
  have f129 := kT e124 f120
  have f130 := kT e124 f121
  have f131 := kT e124 f122
  have f132 := kT e124 hT_new
  refine e_putR f126 fpX12_32_13i (by first | exact Or.inl ⟨_, rfl⟩ | exact Or.inr ⟨_, rfl⟩) dX12_init_59 ?_
  have e133 := Prw.sR (h := h123) (a := p0) (k := 10) (v := some (hN h105)) Prw.rf 
  have f134 := e133.k f125 (by decide)
  have f135 := e133.k f126 (by decide)
  have f136 := e133.k f127 (by decide)
  have f137 := e133.k f128 (by decide)
  have f138 := e133.k f129 (by decide)
  have f139 := e133.k f130 (by decide)
  have f140 := e133.k f131 (by decide)
  have f141 := e133.k f132 (by decide)
  refine g_aload_n dX12_init_62 rfl rfl ?_
  refine e_bipush (v := (8 : Int32)) dX12_init_63 (by decide) ?_
  replace H := og H; obtain ⟨g142, H⟩ := H
  refine e_newa (atype := .int) (kd := 15) rfl (by decide) la_int (by decide) (by decide) dX12_init_65 ?_
  have e143 := Prw.nw (h := (sR h123 p0 10 (some (hN h105)))) (kd := 15) (ln := (8 : Int32).toNatClampNeg) (ns := (8 : Int32).toNatClampNeg) Prw.rf g142
  have f144 := e143.k f134 (by decide)
  have f145 := e143.k f135 (by decide)
  have f146 := e143.k f136 (by decide)
  have f147 := e143.k f137 (by decide)
  have f148 := e143.k f138 (by decide)
  have f149 := e143.k f139 (by decide)
  have f150 := e143.k f140 (by decide)
  have f151 := e143.k f141 (by decide)
  replace H := obh H; obtain ⟨h152, e153, H⟩ := H
  refine e_hq e153 ?_
  have f154 := kT e153 f144
  have f155 := kT e153 f145
  have f156 := kT e153 f146
  have f157 := kT e153 f147
  have f158 := kT e153 f148
  have f159 := kT e153 f149
  have f160 := kT e153 f150
  have f161 := kT e153 f151
  have f162 := kT e153 hT_new
  refine e_putR f155 fpX12_35_13i (by first | exact Or.inl ⟨_, rfl⟩ | exact Or.inr ⟨_, rfl⟩) dX12_init_67 ?_
  have e163 := Prw.sR (h := h152) (a := p0) (k := 11) (v := some (hN (sR h123 p0 10 (some (hN h105))))) Prw.rf 
  have f164 := e163.k f154 (by decide)
  have f165 := e163.k f155 (by decide)
  have f166 := e163.k f156 (by decide)
  have f167 := e163.k f157 (by decide)
  have f168 := e163.k f158 (by decide)
  have f169 := e163.k f159 (by decide)
  have f170 := e163.k f160 (by decide)
  have f171 := e163.k f161 (by decide)
  have f172 := e163.k f162 (by decide)
  refine g_aload_n dX12_init_70 rfl rfl ?_
  refine e_bipush (v := (8 : Int32)) dX12_init_71 (by decide) ?_
  replace H := og H; obtain ⟨g173, H⟩ := H
  refine e_newa (atype := .int) (kd := 15) rfl (by decide) la_int (by decide) (by decide) dX12_init_73 ?_
  have e174 := Prw.nw (h := (sR h152 p0 11 (some (hN (sR h123 p0 10 (some (hN h105))))))) (kd := 15) (ln := (8 : Int32).toNatClampNeg) (ns := (8 : Int32).toNatClampNeg) Prw.rf g173
  have f175 := e174.k f164 (by decide)
  have f176 := e174.k f165 (by decide)
  have f177 := e174.k f166 (by decide)
  have f178 := e174.k f167 (by decide)
  have f179 := e174.k f168 (by decide)
  have f180 := e174.k f169 (by decide)
  have f181 := e174.k f170 (by decide)
  have f182 := e174.k f171 (by decide)
  have f183 := e174.k f172 (by decide)
  replace H := obh H; obtain ⟨h184, e185, H⟩ := H
  refine e_hq e185 ?_
  have f186 := kT e185 f175
  have f187 := kT e185 f176
  have f188 := kT e185 f177
  have f189 := kT e185 f178
  have f190 := kT e185 f179
  have f191 := kT e185 f180
  have f192 := kT e185 f181
  have f193 := kT e185 f182
  have f194 := kT e185 f183
  have f195 := kT e185 hT_new
  refine e_putR f187 fpX12_38_13i (by first | exact Or.inl ⟨_, rfl⟩ | exact Or.inr ⟨_, rfl⟩) dX12_init_75 ?_
  have e196 := Prw.sR (h := h184) (a := p0) (k := 12) (v := some (hN (sR h152 p0 11 (some (hN (sR h123 p0 10 (some (hN h105)))))))) Prw.rf 
  have f197 := e196.k f186 (by decide)
  have f198 := e196.k f187 (by decide)
  have f199 := e196.k f188 (by decide)
  have f200 := e196.k f189 (by decide)
  have f201 := e196.k f190 (by decide)
  have f202 := e196.k f191 (by decide)
  have f203 := e196.k f192 (by decide)
  have f204 := e196.k f193 (by decide)
  have f205 := e196.k f194 (by decide)
  have f206 := e196.k f195 (by decide)
  refine g_aload_n dX12_init_78 rfl rfl ?_
  refine e_bipush (v := (8 : Int32)) dX12_init_79 (by decide) ?_
  replace H := og H; obtain ⟨g207, H⟩ := H
  refine e_newa (atype := .int) (kd := 15) rfl (by decide) la_int (by decide) (by decide) dX12_init_81 ?_
  have e208 := Prw.nw (h := (sR h184 p0 12 (some (hN (sR h152 p0 11 (some (hN (sR h123 p0 10 (some (hN h105)))))))))) (kd := 15) (ln := (8 : Int32).toNatClampNeg) (ns := (8 : Int32).toNatClampNeg) Prw.rf g207
  have f209 := e208.k f197 (by decide)
  have f210 := e208.k f198 (by decide)
  have f211 := e208.k f199 (by decide)
  have f212 := e208.k f200 (by decide)
  have f213 := e208.k f201 (by decide)
  have f214 := e208.k f202 (by decide)
  have f215 := e208.k f203 (by decide)
  have f216 := e208.k f204 (by decide)
  have f217 := e208.k f205 (by decide)
  have f218 := e208.k f206 (by decide)
  replace H := obh H; obtain ⟨h219, e220, H⟩ := H
  refine e_hq e220 ?_
  have f221 := kT e220 f209
  have f222 := kT e220 f210
  have f223 := kT e220 f211
  have f224 := kT e220 f212
  have f225 := kT e220 f213
  have f226 := kT e220 f214
  have f227 := kT e220 f215
  have f228 := kT e220 f216
  have f229 := kT e220 f217
  have f230 := kT e220 f218
  have f231 := kT e220 hT_new
  refine e_putR f222 fpX12_41_13i (by first | exact Or.inl ⟨_, rfl⟩ | exact Or.inr ⟨_, rfl⟩) dX12_init_83 ?_
  have e232 := Prw.sR (h := h219) (a := p0) (k := 13) (v := some (hN (sR h184 p0 12 (some (hN (sR h152 p0 11 (some (hN (sR h123 p0 10 (some (hN h105))))))))))) Prw.rf 
  have f233 := e232.k f221 (by decide)
  have f234 := e232.k f222 (by decide)
  have f235 := e232.k f223 (by decide)
  have f236 := e232.k f224 (by decide)
  have f237 := e232.k f225 (by decide)
  have f238 := e232.k f226 (by decide)
  have f239 := e232.k f227 (by decide)
  have f240 := e232.k f228 (by decide)
  have f241 := e232.k f229 (by decide)
  have f242 := e232.k f230 (by decide)
  have f243 := e232.k f231 (by decide)
  refine g_aload_n dX12_init_86 rfl rfl ?_
  refine e_bipush (v := (6 : Int32)) dX12_init_87 (by decide) ?_
  replace H := og H; obtain ⟨g244, H⟩ := H
  refine e_newa (atype := .int) (kd := 15) rfl (by decide) la_int (by decide) (by decide) dX12_init_89 ?_
  have e245 := Prw.nw (h := (sR h219 p0 13 (some (hN (sR h184 p0 12 (some (hN (sR h152 p0 11 (some (hN (sR h123 p0 10 (some (hN h105))))))))))))) (kd := 15) (ln := (6 : Int32).toNatClampNeg) (ns := (6 : Int32).toNatClampNeg) Prw.rf g244
  have f246 := e245.k f233 (by decide)
  have f247 := e245.k f234 (by decide)
  have f248 := e245.k f235 (by decide)
  have f249 := e245.k f236 (by decide)
  have f250 := e245.k f237 (by decide)
  have f251 := e245.k f238 (by decide)
  have f252 := e245.k f239 (by decide)
  have f253 := e245.k f240 (by decide)
  have f254 := e245.k f241 (by decide)
  have f255 := e245.k f242 (by decide)
  have f256 := e245.k f243 (by decide)
  replace H := obh H; obtain ⟨h257, e258, H⟩ := H
  refine e_hq e258 ?_
  have f259 := kT e258 f246
  have f260 := kT e258 f247
  have f261 := kT e258 f248
  have f262 := kT e258 f249
  have f263 := kT e258 f250
  have f264 := kT e258 f251
  have f265 := kT e258 f252
  have f266 := kT e258 f253
  have f267 := kT e258 f254
  have f268 := kT e258 f255
  have f269 := kT e258 f256
  have f270 := kT e258 hT_new
  refine e_putR f260 fpX12_44_13i (by first | exact Or.inl ⟨_, rfl⟩ | exact Or.inr ⟨_, rfl⟩) dX12_init_91 ?_
  have e271 := Prw.sR (h := h257) (a := p0) (k := 15) (v := some (hN (sR h219 p0 13 (some (hN (sR h184 p0 12 (some (hN (sR h152 p0 11 (some (hN (sR h123 p0 10 (some (hN h105)))))))))))))) Prw.rf 
  have f272 := e271.k f259 (by decide)
  have f273 := e271.k f260 (by decide)
  have f274 := e271.k f261 (by decide)
  have f275 := e271.k f262 (by decide)
  have f276 := e271.k f263 (by decide)
  have f277 := e271.k f264 (by decide)
  have f278 := e271.k f265 (by decide)
  have f279 := e271.k f266 (by decide)
  have f280 := e271.k f267 (by decide)
  have f281 := e271.k f268 (by decide)
  have f282 := e271.k f269 (by decide)
  have f283 := e271.k f270 (by decide)
  refine g_aload_n dX12_init_94 rfl rfl ?_
  refine e_bipush (v := (6 : Int32)) dX12_init_95 (by decide) ?_
  replace H := og H; obtain ⟨g284, H⟩ := H
  refine e_newa (atype := .int) (kd := 15) rfl (by decide) la_int (by decide) (by decide) dX12_init_97 ?_
  have e285 := Prw.nw (h := (sR h257 p0 15 (some (hN (sR h219 p0 13 (some (hN (sR h184 p0 12 (some (hN (sR h152 p0 11 (some (hN (sR h123 p0 10 (some (hN h105)))))))))))))))) (kd := 15) (ln := (6 : Int32).toNatClampNeg) (ns := (6 : Int32).toNatClampNeg) Prw.rf g284
  have f286 := e285.k f272 (by decide)
  have f287 := e285.k f273 (by decide)
  have f288 := e285.k f274 (by decide)
  have f289 := e285.k f275 (by decide)
  have f290 := e285.k f276 (by decide)
  have f291 := e285.k f277 (by decide)
  have f292 := e285.k f278 (by decide)
  have f293 := e285.k f279 (by decide)
  have f294 := e285.k f280 (by decide)
  have f295 := e285.k f281 (by decide)
  have f296 := e285.k f282 (by decide)
  have f297 := e285.k f283 (by decide)
  replace H := obh H; obtain ⟨h298, e299, H⟩ := H
  refine e_hq e299 ?_
  have f300 := kT e299 f286
  have f301 := kT e299 f287
  have f302 := kT e299 f288
  have f303 := kT e299 f289
  have f304 := kT e299 f290
  have f305 := kT e299 f291
  have f306 := kT e299 f292
  have f307 := kT e299 f293
  have f308 := kT e299 f294
  have f309 := kT e299 f295
  have f310 := kT e299 f296
  have f311 := kT e299 f297
  have f312 := kT e299 hT_new
  refine e_putR f301 fpX12_47_13i (by first | exact Or.inl ⟨_, rfl⟩ | exact Or.inr ⟨_, rfl⟩) dX12_init_99 ?_
  have e313 := Prw.sR (h := h298) (a := p0) (k := 16) (v := some (hN (sR h257 p0 15 (some (hN (sR h219 p0 13 (some (hN (sR h184 p0 12 (some (hN (sR h152 p0 11 (some (hN (sR h123 p0 10 (some (hN h105))))))))))))))))) Prw.rf 
  have f314 := e313.k f300 (by decide)
  have f315 := e313.k f301 (by decide)
  have f316 := e313.k f302 (by decide)
  have f317 := e313.k f303 (by decide)
  have f318 := e313.k f304 (by decide)
  have f319 := e313.k f305 (by decide)
  have f320 := e313.k f306 (by decide)
  have f321 := e313.k f307 (by decide)
  have f322 := e313.k f308 (by decide)
  have f323 := e313.k f309 (by decide)
  have f324 := e313.k f310 (by decide)
  have f325 := e313.k f311 (by decide)
  have f326 := e313.k f312 (by decide)
  replace H := obh H; obtain ⟨h327, e328, H⟩ := H
  refine e_hq e328 ?_
  have f329 := kT e328 f314
  have f330 := kT e328 f315
  have f331 := kT e328 f316
  have f332 := kT e328 f317
  have f333 := kT e328 f318
  have f334 := kT e328 f319
  have f335 := kT e328 f320
  have f336 := kT e328 f321
  have f337 := kT e328 f322
  have f338 := kT e328 f323
  have f339 := kT e328 f324
  have f340 := kT e328 f325
  have f341 := kT e328 f326
  refine g_aload_n dX12_init_102 rfl rfl ?_
  refine e_bipush (v := (6 : Int32)) dX12_init_103 (by decide) ?_
  replace H := og H; obtain ⟨g342, H⟩ := H
  refine e_newa (atype := .int) (kd := 15) rfl (by decide) la_int (by decide) (by decide) dX12_init_105 ?_
  have e343 := Prw.nw (h := h327) (kd := 15) (ln := (6 : Int32).toNatClampNeg) (ns := (6 : Int32).toNatClampNeg) Prw.rf g342
  have f344 := e343.k f329 (by decide)
  have f345 := e343.k f330 (by decide)
  have f346 := e343.k f331 (by decide)
  have f347 := e343.k f332 (by decide)
  have f348 := e343.k f333 (by decide)
  have f349 := e343.k f334 (by decide)
  have f350 := e343.k f335 (by decide)
  have f351 := e343.k f336 (by decide)
  have f352 := e343.k f337 (by decide)
  have f353 := e343.k f338 (by decide)
  have f354 := e343.k f339 (by decide)
  have f355 := e343.k f340 (by decide)
  have f356 := e343.k f341 (by decide)
  replace H := obh H; obtain ⟨h357, e358, H⟩ := H
  refine e_hq e358 ?_
  have f359 := kT e358 f344
  have f360 := kT e358 f345
  have f361 := kT e358 f346
  have f362 := kT e358 f347
  have f363 := kT e358 f348
  have f364 := kT e358 f349
  have f365 := kT e358 f350
  have f366 := kT e358 f351
  have f367 := kT e358 f352
  have f368 := kT e358 f353
  have f369 := kT e358 f354
  have f370 := kT e358 f355
  have f371 := kT e358 f356
  have f372 := kT e358 hT_new
  refine e_putR f360 fpX12_50_13i (by first | exact Or.inl ⟨_, rfl⟩ | exact Or.inr ⟨_, rfl⟩) dX12_init_107 ?_
  have e373 := Prw.sR (h := h357) (a := p0) (k := 17) (v := some (hN h327)) Prw.rf 
  have f374 := e373.k f359 (by decide)
  have f375 := e373.k f360 (by decide)
  have f376 := e373.k f361 (by decide)
  have f377 := e373.k f362 (by decide)
  have f378 := e373.k f363 (by decide)
  have f379 := e373.k f364 (by decide)
  have f380 := e373.k f365 (by decide)
  have f381 := e373.k f366 (by decide)
  have f382 := e373.k f367 (by decide)
  have f383 := e373.k f368 (by decide)
  have f384 := e373.k f369 (by decide)
  have f385 := e373.k f370 (by decide)
  have f386 := e373.k f371 (by decide)
  have f387 := e373.k f372 (by decide)
  refine g_aload_n dX12_init_110 rfl rfl ?_
  refine e_bipush (v := (60 : Int32)) dX12_init_111 (by decide) ?_
  replace H := og H; obtain ⟨g388, H⟩ := H
  refine e_newa (atype := .int) (kd := 15) rfl (by decide) la_int (by decide) (by decide) dX12_init_113 ?_
  have e389 := Prw.nw (h := (sR h357 p0 17 (some (hN h327)))) (kd := 15) (ln := (60 : Int32).toNatClampNeg) (ns := (60 : Int32).toNatClampNeg) Prw.rf g388
  have f390 := e389.k f374 (by decide)
  have f391 := e389.k f375 (by decide)
  have f392 := e389.k f376 (by decide)
  have f393 := e389.k f377 (by decide)
  have f394 := e389.k f378 (by decide)
  have f395 := e389.k f379 (by decide)
  have f396 := e389.k f380 (by decide)
  have f397 := e389.k f381 (by decide)
  have f398 := e389.k f382 (by decide)
  have f399 := e389.k f383 (by decide)
  have f400 := e389.k f384 (by decide)
  have f401 := e389.k f385 (by decide)
  have f402 := e389.k f386 (by decide)
  have f403 := e389.k f387 (by decide)
  replace H := obh H; obtain ⟨h404, e405, H⟩ := H
  refine e_hq e405 ?_
  have f406 := kT e405 f390
  have f407 := kT e405 f391
  have f408 := kT e405 f392
  have f409 := kT e405 f393
  have f410 := kT e405 f394
  have f411 := kT e405 f395
  have f412 := kT e405 f396
  have f413 := kT e405 f397
  have f414 := kT e405 f398
  have f415 := kT e405 f399
  have f416 := kT e405 f400
  have f417 := kT e405 f401
  have f418 := kT e405 f402
  have f419 := kT e405 f403
  have f420 := kT e405 hT_new
  refine e_putR f407 fpX12_53_13i (by first | exact Or.inl ⟨_, rfl⟩ | exact Or.inr ⟨_, rfl⟩) dX12_init_115 ?_
  have e421 := Prw.sR (h := h404) (a := p0) (k := 20) (v := some (hN (sR h357 p0 17 (some (hN h327))))) Prw.rf 
  have f422 := e421.k f406 (by decide)
  have f423 := e421.k f407 (by decide)
  have f424 := e421.k f408 (by decide)
  have f425 := e421.k f409 (by decide)
  have f426 := e421.k f410 (by decide)
  have f427 := e421.k f411 (by decide)
  have f428 := e421.k f412 (by decide)
  have f429 := e421.k f413 (by decide)
  have f430 := e421.k f414 (by decide)
  have f431 := e421.k f415 (by decide)
  have f432 := e421.k f416 (by decide)
  have f433 := e421.k f417 (by decide)
  have f434 := e421.k f418 (by decide)
  have f435 := e421.k f419 (by decide)
  have f436 := e421.k f420 (by decide)
  refine g_aload_n dX12_init_118 rfl rfl ?_
  refine e_bipush (v := (60 : Int32)) dX12_init_119 (by decide) ?_
  replace H := og H; obtain ⟨g437, H⟩ := H
  refine e_newa (atype := .int) (kd := 15) rfl (by decide) la_int (by decide) (by decide) dX12_init_121 ?_
  have e438 := Prw.nw (h := (sR h404 p0 20 (some (hN (sR h357 p0 17 (some (hN h327))))))) (kd := 15) (ln := (60 : Int32).toNatClampNeg) (ns := (60 : Int32).toNatClampNeg) Prw.rf g437
  have f439 := e438.k f422 (by decide)
  have f440 := e438.k f423 (by decide)
  have f441 := e438.k f424 (by decide)
  have f442 := e438.k f425 (by decide)
  have f443 := e438.k f426 (by decide)
  have f444 := e438.k f427 (by decide)
  have f445 := e438.k f428 (by decide)
  have f446 := e438.k f429 (by decide)
  have f447 := e438.k f430 (by decide)
  have f448 := e438.k f431 (by decide)
  have f449 := e438.k f432 (by decide)
  have f450 := e438.k f433 (by decide)
  have f451 := e438.k f434 (by decide)
  have f452 := e438.k f435 (by decide)
  have f453 := e438.k f436 (by decide)
  replace H := obh H; obtain ⟨h454, e455, H⟩ := H
  refine e_hq e455 ?_
  have f456 := kT e455 f439
  have f457 := kT e455 f440
  have f458 := kT e455 f441
  have f459 := kT e455 f442
  have f460 := kT e455 f443
  have f461 := kT e455 f444
  have f462 := kT e455 f445
  have f463 := kT e455 f446
  have f464 := kT e455 f447
  have f465 := kT e455 f448
  have f466 := kT e455 f449
  have f467 := kT e455 f450
  have f468 := kT e455 f451
  have f469 := kT e455 f452
  have f470 := kT e455 f453
  have f471 := kT e455 hT_new
  refine e_putR f457 fpX12_56_13i (by first | exact Or.inl ⟨_, rfl⟩ | exact Or.inr ⟨_, rfl⟩) dX12_init_123 ?_
  have e472 := Prw.sR (h := h454) (a := p0) (k := 21) (v := some (hN (sR h404 p0 20 (some (hN (sR h357 p0 17 (some (hN h327)))))))) Prw.rf 
  have f473 := e472.k f456 (by decide)
  have f474 := e472.k f457 (by decide)
  have f475 := e472.k f458 (by decide)
  have f476 := e472.k f459 (by decide)
  have f477 := e472.k f460 (by decide)
  have f478 := e472.k f461 (by decide)
  have f479 := e472.k f462 (by decide)
  have f480 := e472.k f463 (by decide)
  have f481 := e472.k f464 (by decide)
  have f482 := e472.k f465 (by decide)
  have f483 := e472.k f466 (by decide)
  have f484 := e472.k f467 (by decide)
  have f485 := e472.k f468 (by decide)
  have f486 := e472.k f469 (by decide)
  have f487 := e472.k f470 (by decide)
  have f488 := e472.k f471 (by decide)
  refine g_aload_n dX12_init_126 rfl rfl ?_
  refine e_bipush (v := (60 : Int32)) dX12_init_127 (by decide) ?_
  replace H := og H; obtain ⟨g489, H⟩ := H
  refine e_newa (atype := .int) (kd := 15) rfl (by decide) la_int (by decide) (by decide) dX12_init_129 ?_
  have e490 := Prw.nw (h := (sR h454 p0 21 (some (hN (sR h404 p0 20 (some (hN (sR h357 p0 17 (some (hN h327)))))))))) (kd := 15) (ln := (60 : Int32).toNatClampNeg) (ns := (60 : Int32).toNatClampNeg) Prw.rf g489
  have f491 := e490.k f473 (by decide)
  have f492 := e490.k f474 (by decide)
  have f493 := e490.k f475 (by decide)
  have f494 := e490.k f476 (by decide)
  have f495 := e490.k f477 (by decide)
  have f496 := e490.k f478 (by decide)
  have f497 := e490.k f479 (by decide)
  have f498 := e490.k f480 (by decide)
  have f499 := e490.k f481 (by decide)
  have f500 := e490.k f482 (by decide)
  have f501 := e490.k f483 (by decide)
  have f502 := e490.k f484 (by decide)
  have f503 := e490.k f485 (by decide)
  have f504 := e490.k f486 (by decide)
  have f505 := e490.k f487 (by decide)
  have f506 := e490.k f488 (by decide)
  replace H := obh H; obtain ⟨h507, e508, H⟩ := H
  refine e_hq e508 ?_
  have f509 := kT e508 f491
  have f510 := kT e508 f492
  have f511 := kT e508 f493
  have f512 := kT e508 f494
  have f513 := kT e508 f495
  have f514 := kT e508 f496
  have f515 := kT e508 f497
  have f516 := kT e508 f498
  have f517 := kT e508 f499
  have f518 := kT e508 f500
  have f519 := kT e508 f501
  have f520 := kT e508 f502
  have f521 := kT e508 f503
  have f522 := kT e508 f504
  have f523 := kT e508 f505
  have f524 := kT e508 f506
  have f525 := kT e508 hT_new
  refine e_putR f510 fpX12_59_13i (by first | exact Or.inl ⟨_, rfl⟩ | exact Or.inr ⟨_, rfl⟩) dX12_init_131 ?_
  have e526 := Prw.sR (h := h507) (a := p0) (k := 22) (v := some (hN (sR h454 p0 21 (some (hN (sR h404 p0 20 (some (hN (sR h357 p0 17 (some (hN h327))))))))))) Prw.rf 
  have f527 := e526.k f509 (by decide)
  have f528 := e526.k f510 (by decide)
  have f529 := e526.k f511 (by decide)
  have f530 := e526.k f512 (by decide)
  have f531 := e526.k f513 (by decide)
  have f532 := e526.k f514 (by decide)
  have f533 := e526.k f515 (by decide)
  have f534 := e526.k f516 (by decide)
  have f535 := e526.k f517 (by decide)
  have f536 := e526.k f518 (by decide)
  have f537 := e526.k f519 (by decide)
  have f538 := e526.k f520 (by decide)
  have f539 := e526.k f521 (by decide)
  have f540 := e526.k f522 (by decide)
  have f541 := e526.k f523 (by decide)
  have f542 := e526.k f524 (by decide)
  have f543 := e526.k f525 (by decide)
  refine g_aload_n dX12_init_134 rfl rfl ?_
  refine e_bipush (v := (60 : Int32)) dX12_init_135 (by decide) ?_
  replace H := og H; obtain ⟨g544, H⟩ := H
  refine e_newa (atype := .int) (kd := 15) rfl (by decide) la_int (by decide) (by decide) dX12_init_137 ?_
  have e545 := Prw.nw (h := (sR h507 p0 22 (some (hN (sR h454 p0 21 (some (hN (sR h404 p0 20 (some (hN (sR h357 p0 17 (some (hN h327))))))))))))) (kd := 15) (ln := (60 : Int32).toNatClampNeg) (ns := (60 : Int32).toNatClampNeg) Prw.rf g544
  have f546 := e545.k f527 (by decide)
  have f547 := e545.k f528 (by decide)
  have f548 := e545.k f529 (by decide)
  have f549 := e545.k f530 (by decide)
  have f550 := e545.k f531 (by decide)
  have f551 := e545.k f532 (by decide)
  have f552 := e545.k f533 (by decide)
  have f553 := e545.k f534 (by decide)
  have f554 := e545.k f535 (by decide)
  have f555 := e545.k f536 (by decide)
  have f556 := e545.k f537 (by decide)
  have f557 := e545.k f538 (by decide)
  have f558 := e545.k f539 (by decide)
  have f559 := e545.k f540 (by decide)
  have f560 := e545.k f541 (by decide)
  have f561 := e545.k f542 (by decide)
  have f562 := e545.k f543 (by decide)
  replace H := obh H; obtain ⟨h563, e564, H⟩ := H
  refine e_hq e564 ?_
  have f565 := kT e564 f546
  have f566 := kT e564 f547
  have f567 := kT e564 f548
  have f568 := kT e564 f549
  have f569 := kT e564 f550
  have f570 := kT e564 f551
  have f571 := kT e564 f552
  have f572 := kT e564 f553
  have f573 := kT e564 f554
  have f574 := kT e564 f555
  have f575 := kT e564 f556
  have f576 := kT e564 f557
  have f577 := kT e564 f558
  have f578 := kT e564 f559
  have f579 := kT e564 f560
  have f580 := kT e564 f561
  have f581 := kT e564 f562
  have f582 := kT e564 hT_new
  refine e_putR f566 fpX12_62_13i (by first | exact Or.inl ⟨_, rfl⟩ | exact Or.inr ⟨_, rfl⟩) dX12_init_139 ?_
  have e583 := Prw.sR (h := h563) (a := p0) (k := 23) (v := some (hN (sR h507 p0 22 (some (hN (sR h454 p0 21 (some (hN (sR h404 p0 20 (some (hN (sR h357 p0 17 (some (hN h327)))))))))))))) Prw.rf 
  have f584 := e583.k f565 (by decide)
  have f585 := e583.k f566 (by decide)
  have f586 := e583.k f567 (by decide)
  have f587 := e583.k f568 (by decide)
  have f588 := e583.k f569 (by decide)
  have f589 := e583.k f570 (by decide)
  have f590 := e583.k f571 (by decide)
  have f591 := e583.k f572 (by decide)
  have f592 := e583.k f573 (by decide)
  have f593 := e583.k f574 (by decide)
  have f594 := e583.k f575 (by decide)
  have f595 := e583.k f576 (by decide)
  have f596 := e583.k f577 (by decide)
  have f597 := e583.k f578 (by decide)
  have f598 := e583.k f579 (by decide)
  have f599 := e583.k f580 (by decide)
  have f600 := e583.k f581 (by decide)
  have f601 := e583.k f582 (by decide)
  refine g_aload_n dX12_init_142 rfl rfl ?_
  refine e_bipush (v := (60 : Int32)) dX12_init_143 (by decide) ?_
  replace H := og H; obtain ⟨g602, H⟩ := H
  refine e_newa (atype := .int) (kd := 15) rfl (by decide) la_int (by decide) (by decide) dX12_init_145 ?_
  have e603 := Prw.nw (h := (sR h563 p0 23 (some (hN (sR h507 p0 22 (some (hN (sR h454 p0 21 (some (hN (sR h404 p0 20 (some (hN (sR h357 p0 17 (some (hN h327)))))))))))))))) (kd := 15) (ln := (60 : Int32).toNatClampNeg) (ns := (60 : Int32).toNatClampNeg) Prw.rf g602
  have f604 := e603.k f584 (by decide)
  have f605 := e603.k f585 (by decide)
  have f606 := e603.k f586 (by decide)
  have f607 := e603.k f587 (by decide)
  have f608 := e603.k f588 (by decide)
  have f609 := e603.k f589 (by decide)
  have f610 := e603.k f590 (by decide)
  have f611 := e603.k f591 (by decide)
  have f612 := e603.k f592 (by decide)
  have f613 := e603.k f593 (by decide)
  have f614 := e603.k f594 (by decide)
  have f615 := e603.k f595 (by decide)
  have f616 := e603.k f596 (by decide)
  have f617 := e603.k f597 (by decide)
  have f618 := e603.k f598 (by decide)
  have f619 := e603.k f599 (by decide)
  have f620 := e603.k f600 (by decide)
  have f621 := e603.k f601 (by decide)
  replace H := obh H; obtain ⟨h622, e623, H⟩ := H
  refine e_hq e623 ?_
  have f624 := kT e623 f604
  have f625 := kT e623 f605
  have f626 := kT e623 f606
  have f627 := kT e623 f607
  have f628 := kT e623 f608
  have f629 := kT e623 f609
  have f630 := kT e623 f610
  have f631 := kT e623 f611
  have f632 := kT e623 f612
  have f633 := kT e623 f613
  have f634 := kT e623 f614
  have f635 := kT e623 f615
  have f636 := kT e623 f616
  have f637 := kT e623 f617
  have f638 := kT e623 f618
  have f639 := kT e623 f619
  have f640 := kT e623 f620
  have f641 := kT e623 f621
  have f642 := kT e623 hT_new
  refine e_putR f625 fpX12_65_13i (by first | exact Or.inl ⟨_, rfl⟩ | exact Or.inr ⟨_, rfl⟩) dX12_init_147 ?_
  have e643 := Prw.sR (h := h622) (a := p0) (k := 24) (v := some (hN (sR h563 p0 23 (some (hN (sR h507 p0 22 (some (hN (sR h454 p0 21 (some (hN (sR h404 p0 20 (some (hN (sR h357 p0 17 (some (hN h327))))))))))))))))) Prw.rf 
  have f644 := e643.k f624 (by decide)
  have f645 := e643.k f625 (by decide)
  have f646 := e643.k f626 (by decide)
  have f647 := e643.k f627 (by decide)
  have f648 := e643.k f628 (by decide)
  have f649 := e643.k f629 (by decide)
  have f650 := e643.k f630 (by decide)
  have f651 := e643.k f631 (by decide)
  have f652 := e643.k f632 (by decide)
  have f653 := e643.k f633 (by decide)
  have f654 := e643.k f634 (by decide)
  have f655 := e643.k f635 (by decide)
  have f656 := e643.k f636 (by decide)
  have f657 := e643.k f637 (by decide)
  have f658 := e643.k f638 (by decide)
  have f659 := e643.k f639 (by decide)
  have f660 := e643.k f640 (by decide)
  have f661 := e643.k f641 (by decide)
  have f662 := e643.k f642 (by decide)
  replace H := obh H; obtain ⟨h663, e664, H⟩ := H
  refine e_hq e664 ?_
  have f665 := kT e664 f644
  have f666 := kT e664 f645
  have f667 := kT e664 f646
  have f668 := kT e664 f647
  have f669 := kT e664 f648
  have f670 := kT e664 f649
  have f671 := kT e664 f650
  have f672 := kT e664 f651
  have f673 := kT e664 f652
  have f674 := kT e664 f653
  have f675 := kT e664 f654
  have f676 := kT e664 f655
  have f677 := kT e664 f656
  have f678 := kT e664 f657
  have f679 := kT e664 f658
  have f680 := kT e664 f659
  have f681 := kT e664 f660
  have f682 := kT e664 f661
  have f683 := kT e664 f662
  refine g_aload_n dX12_init_150 rfl rfl ?_
  refine e_bipush (v := (6 : Int32)) dX12_init_151 (by decide) ?_
  replace H := og H; obtain ⟨g684, H⟩ := H
  refine e_newa (atype := .int) (kd := 15) rfl (by decide) la_int (by decide) (by decide) dX12_init_153 ?_
  have e685 := Prw.nw (h := h663) (kd := 15) (ln := (6 : Int32).toNatClampNeg) (ns := (6 : Int32).toNatClampNeg) Prw.rf g684
  have f686 := e685.k f665 (by decide)
  have f687 := e685.k f666 (by decide)
  have f688 := e685.k f667 (by decide)
  have f689 := e685.k f668 (by decide)
  have f690 := e685.k f669 (by decide)
  have f691 := e685.k f670 (by decide)
  have f692 := e685.k f671 (by decide)
  have f693 := e685.k f672 (by decide)
  have f694 := e685.k f673 (by decide)
  have f695 := e685.k f674 (by decide)
  have f696 := e685.k f675 (by decide)
  have f697 := e685.k f676 (by decide)
  have f698 := e685.k f677 (by decide)
  have f699 := e685.k f678 (by decide)
  have f700 := e685.k f679 (by decide)
  have f701 := e685.k f680 (by decide)
  have f702 := e685.k f681 (by decide)
  have f703 := e685.k f682 (by decide)
  have f704 := e685.k f683 (by decide)
  replace H := obh H; obtain ⟨h705, e706, H⟩ := H
  refine e_hq e706 ?_
  have f707 := kT e706 f686
  have f708 := kT e706 f687
  have f709 := kT e706 f688
  have f710 := kT e706 f689
  have f711 := kT e706 f690
  have f712 := kT e706 f691
  have f713 := kT e706 f692
  have f714 := kT e706 f693
  have f715 := kT e706 f694
  have f716 := kT e706 f695
  have f717 := kT e706 f696
  have f718 := kT e706 f697
  have f719 := kT e706 f698
  have f720 := kT e706 f699
  have f721 := kT e706 f700
  have f722 := kT e706 f701
  have f723 := kT e706 f702
  have f724 := kT e706 f703
  have f725 := kT e706 f704
  have f726 := kT e706 hT_new
  refine e_putR f708 fpX12_68_13i (by first | exact Or.inl ⟨_, rfl⟩ | exact Or.inr ⟨_, rfl⟩) dX12_init_155 ?_
  have e727 := Prw.sR (h := h705) (a := p0) (k := 42) (v := some (hN h663)) Prw.rf 
  have f728 := e727.k f707 (by decide)
  have f729 := e727.k f708 (by decide)
  have f730 := e727.k f709 (by decide)
  have f731 := e727.k f710 (by decide)
  have f732 := e727.k f711 (by decide)
  have f733 := e727.k f712 (by decide)
  have f734 := e727.k f713 (by decide)
  have f735 := e727.k f714 (by decide)
  have f736 := e727.k f715 (by decide)
  have f737 := e727.k f716 (by decide)
  have f738 := e727.k f717 (by decide)
  have f739 := e727.k f718 (by decide)
  have f740 := e727.k f719 (by decide)
  have f741 := e727.k f720 (by decide)
  have f742 := e727.k f721 (by decide)
  have f743 := e727.k f722 (by decide)
  have f744 := e727.k f723 (by decide)
  have f745 := e727.k f724 (by decide)
  have f746 := e727.k f725 (by decide)
  have f747 := e727.k f726 (by decide)
  refine g_aload_n dX12_init_158 rfl rfl ?_
  refine e_bipush (v := (36 : Int32)) dX12_init_159 (by decide) ?_
  replace H := og H; obtain ⟨g748, H⟩ := H
  refine e_newa (atype := .int) (kd := 15) rfl (by decide) la_int (by decide) (by decide) dX12_init_161 ?_
  have e749 := Prw.nw (h := (sR h705 p0 42 (some (hN h663)))) (kd := 15) (ln := (36 : Int32).toNatClampNeg) (ns := (36 : Int32).toNatClampNeg) Prw.rf g748
  have f750 := e749.k f728 (by decide)
  have f751 := e749.k f729 (by decide)
  have f752 := e749.k f730 (by decide)
  have f753 := e749.k f731 (by decide)
  have f754 := e749.k f732 (by decide)
  have f755 := e749.k f733 (by decide)
  have f756 := e749.k f734 (by decide)
  have f757 := e749.k f735 (by decide)
  have f758 := e749.k f736 (by decide)
  have f759 := e749.k f737 (by decide)
  have f760 := e749.k f738 (by decide)
  have f761 := e749.k f739 (by decide)
  have f762 := e749.k f740 (by decide)
  have f763 := e749.k f741 (by decide)
  have f764 := e749.k f742 (by decide)
  have f765 := e749.k f743 (by decide)
  have f766 := e749.k f744 (by decide)
  have f767 := e749.k f745 (by decide)
  have f768 := e749.k f746 (by decide)
  have f769 := e749.k f747 (by decide)
  replace H := obh H; obtain ⟨h770, e771, H⟩ := H
  refine e_hq e771 ?_
  have f772 := kT e771 f750
  have f773 := kT e771 f751
  have f774 := kT e771 f752
  have f775 := kT e771 f753
  have f776 := kT e771 f754
  have f777 := kT e771 f755
  have f778 := kT e771 f756
  have f779 := kT e771 f757
  have f780 := kT e771 f758
  have f781 := kT e771 f759
  have f782 := kT e771 f760
  have f783 := kT e771 f761
  have f784 := kT e771 f762
  have f785 := kT e771 f763
  have f786 := kT e771 f764
  have f787 := kT e771 f765
  have f788 := kT e771 f766
  have f789 := kT e771 f767
  have f790 := kT e771 f768
  have f791 := kT e771 f769
  have f792 := kT e771 hT_new
  refine e_putR f773 fpX12_71_13i (by first | exact Or.inl ⟨_, rfl⟩ | exact Or.inr ⟨_, rfl⟩) dX12_init_163 ?_
  have e793 := Prw.sR (h := h770) (a := p0) (k := 43) (v := some (hN (sR h705 p0 42 (some (hN h663))))) Prw.rf 
  have f794 := e793.k f772 (by decide)
  have f795 := e793.k f773 (by decide)
  have f796 := e793.k f774 (by decide)
  have f797 := e793.k f775 (by decide)
  have f798 := e793.k f776 (by decide)
  have f799 := e793.k f777 (by decide)
  have f800 := e793.k f778 (by decide)
  have f801 := e793.k f779 (by decide)
  have f802 := e793.k f780 (by decide)
  have f803 := e793.k f781 (by decide)
  have f804 := e793.k f782 (by decide)
  have f805 := e793.k f783 (by decide)
  have f806 := e793.k f784 (by decide)
  have f807 := e793.k f785 (by decide)
  have f808 := e793.k f786 (by decide)
  have f809 := e793.k f787 (by decide)
  have f810 := e793.k f788 (by decide)
  have f811 := e793.k f789 (by decide)
  have f812 := e793.k f790 (by decide)
  have f813 := e793.k f791 (by decide)
  have f814 := e793.k f792 (by decide)
  refine g_aload_n dX12_init_166 rfl rfl ?_
  refine e_bipush (v := (8 : Int32)) dX12_init_167 (by decide) ?_
  replace H := og H; obtain ⟨g815, H⟩ := H
  refine e_newa (atype := .int) (kd := 15) rfl (by decide) la_int (by decide) (by decide) dX12_init_169 ?_
  have e816 := Prw.nw (h := (sR h770 p0 43 (some (hN (sR h705 p0 42 (some (hN h663))))))) (kd := 15) (ln := (8 : Int32).toNatClampNeg) (ns := (8 : Int32).toNatClampNeg) Prw.rf g815
  have f817 := e816.k f794 (by decide)
  have f818 := e816.k f795 (by decide)
  have f819 := e816.k f796 (by decide)
  have f820 := e816.k f797 (by decide)
  have f821 := e816.k f798 (by decide)
  have f822 := e816.k f799 (by decide)
  have f823 := e816.k f800 (by decide)
  have f824 := e816.k f801 (by decide)
  have f825 := e816.k f802 (by decide)
  have f826 := e816.k f803 (by decide)
  have f827 := e816.k f804 (by decide)
  have f828 := e816.k f805 (by decide)
  have f829 := e816.k f806 (by decide)
  have f830 := e816.k f807 (by decide)
  have f831 := e816.k f808 (by decide)
  have f832 := e816.k f809 (by decide)
  have f833 := e816.k f810 (by decide)
  have f834 := e816.k f811 (by decide)
  have f835 := e816.k f812 (by decide)
  have f836 := e816.k f813 (by decide)
  have f837 := e816.k f814 (by decide)
  replace H := obh H; obtain ⟨h838, e839, H⟩ := H
  refine e_hq e839 ?_
  have f840 := kT e839 f817
  have f841 := kT e839 f818
  have f842 := kT e839 f819
  have f843 := kT e839 f820
  have f844 := kT e839 f821
  have f845 := kT e839 f822
  have f846 := kT e839 f823
  have f847 := kT e839 f824
  have f848 := kT e839 f825
  have f849 := kT e839 f826
  have f850 := kT e839 f827
  have f851 := kT e839 f828
  have f852 := kT e839 f829
  have f853 := kT e839 f830
  have f854 := kT e839 f831
  have f855 := kT e839 f832
  have f856 := kT e839 f833
  have f857 := kT e839 f834
  have f858 := kT e839 f835
  have f859 := kT e839 f836
  have f860 := kT e839 f837
  have f861 := kT e839 hT_new
  refine e_putR f841 fpX12_74_13i (by first | exact Or.inl ⟨_, rfl⟩ | exact Or.inr ⟨_, rfl⟩) dX12_init_171 ?_
  have e862 := Prw.sR (h := h838) (a := p0) (k := 45) (v := some (hN (sR h770 p0 43 (some (hN (sR h705 p0 42 (some (hN h663)))))))) Prw.rf 
  have f863 := e862.k f840 (by decide)
  have f864 := e862.k f841 (by decide)
  have f865 := e862.k f842 (by decide)
  have f866 := e862.k f843 (by decide)
  have f867 := e862.k f844 (by decide)
  have f868 := e862.k f845 (by decide)
  have f869 := e862.k f846 (by decide)
  have f870 := e862.k f847 (by decide)
  have f871 := e862.k f848 (by decide)
  have f872 := e862.k f849 (by decide)
  have f873 := e862.k f850 (by decide)
  have f874 := e862.k f851 (by decide)
  have f875 := e862.k f852 (by decide)
  have f876 := e862.k f853 (by decide)
  have f877 := e862.k f854 (by decide)
  have f878 := e862.k f855 (by decide)
  have f879 := e862.k f856 (by decide)
  have f880 := e862.k f857 (by decide)
  have f881 := e862.k f858 (by decide)
  have f882 := e862.k f859 (by decide)
  have f883 := e862.k f860 (by decide)
  have f884 := e862.k f861 (by decide)
  refine g_aload_n dX12_init_174 rfl rfl ?_
  refine e_bipush (v := (8 : Int32)) dX12_init_175 (by decide) ?_
  replace H := og H; obtain ⟨g885, H⟩ := H
  refine e_newa (atype := .int) (kd := 15) rfl (by decide) la_int (by decide) (by decide) dX12_init_177 ?_
  have e886 := Prw.nw (h := (sR h838 p0 45 (some (hN (sR h770 p0 43 (some (hN (sR h705 p0 42 (some (hN h663)))))))))) (kd := 15) (ln := (8 : Int32).toNatClampNeg) (ns := (8 : Int32).toNatClampNeg) Prw.rf g885
  have f887 := e886.k f863 (by decide)
  have f888 := e886.k f864 (by decide)
  have f889 := e886.k f865 (by decide)
  have f890 := e886.k f866 (by decide)
  have f891 := e886.k f867 (by decide)
  have f892 := e886.k f868 (by decide)
  have f893 := e886.k f869 (by decide)
  have f894 := e886.k f870 (by decide)
  have f895 := e886.k f871 (by decide)
  have f896 := e886.k f872 (by decide)
  have f897 := e886.k f873 (by decide)
  have f898 := e886.k f874 (by decide)
  have f899 := e886.k f875 (by decide)
  have f900 := e886.k f876 (by decide)
  have f901 := e886.k f877 (by decide)
  have f902 := e886.k f878 (by decide)
  have f903 := e886.k f879 (by decide)
  have f904 := e886.k f880 (by decide)
  have f905 := e886.k f881 (by decide)
  have f906 := e886.k f882 (by decide)
  have f907 := e886.k f883 (by decide)
  have f908 := e886.k f884 (by decide)
  replace H := obh H; obtain ⟨h909, e910, H⟩ := H
  refine e_hq e910 ?_
  have f911 := kT e910 f887
  have f912 := kT e910 f888
  have f913 := kT e910 f889
  have f914 := kT e910 f890
  have f915 := kT e910 f891
  have f916 := kT e910 f892
  have f917 := kT e910 f893
  have f918 := kT e910 f894
  have f919 := kT e910 f895
  have f920 := kT e910 f896
  have f921 := kT e910 f897
  have f922 := kT e910 f898
  have f923 := kT e910 f899
  have f924 := kT e910 f900
  have f925 := kT e910 f901
  have f926 := kT e910 f902
  have f927 := kT e910 f903
  have f928 := kT e910 f904
  have f929 := kT e910 f905
  have f930 := kT e910 f906
  have f931 := kT e910 f907
  have f932 := kT e910 f908
  have f933 := kT e910 hT_new
  refine e_putR f912 fpX12_77_13i (by first | exact Or.inl ⟨_, rfl⟩ | exact Or.inr ⟨_, rfl⟩) dX12_init_179 ?_
  have e934 := Prw.sR (h := h909) (a := p0) (k := 46) (v := some (hN (sR h838 p0 45 (some (hN (sR h770 p0 43 (some (hN (sR h705 p0 42 (some (hN h663))))))))))) Prw.rf 
  have f935 := e934.k f911 (by decide)
  have f936 := e934.k f912 (by decide)
  have f937 := e934.k f913 (by decide)
  have f938 := e934.k f914 (by decide)
  have f939 := e934.k f915 (by decide)
  have f940 := e934.k f916 (by decide)
  have f941 := e934.k f917 (by decide)
  have f942 := e934.k f918 (by decide)
  have f943 := e934.k f919 (by decide)
  have f944 := e934.k f920 (by decide)
  have f945 := e934.k f921 (by decide)
  have f946 := e934.k f922 (by decide)
  have f947 := e934.k f923 (by decide)
  have f948 := e934.k f924 (by decide)
  have f949 := e934.k f925 (by decide)
  have f950 := e934.k f926 (by decide)
  have f951 := e934.k f927 (by decide)
  have f952 := e934.k f928 (by decide)
  have f953 := e934.k f929 (by decide)
  have f954 := e934.k f930 (by decide)
  have f955 := e934.k f931 (by decide)
  have f956 := e934.k f932 (by decide)
  have f957 := e934.k f933 (by decide)
  refine g_aload_n dX12_init_182 rfl rfl ?_
  refine e_sipush (v := (201 : Int32)) dX12_init_183 (by decide) ?_
  replace H := og H; obtain ⟨g958, H⟩ := H
  refine e_newa (atype := .int) (kd := 15) rfl (by decide) la_int (by decide) (by decide) dX12_init_186 ?_
  have e959 := Prw.nw (h := (sR h909 p0 46 (some (hN (sR h838 p0 45 (some (hN (sR h770 p0 43 (some (hN (sR h705 p0 42 (some (hN h663))))))))))))) (kd := 15) (ln := (201 : Int32).toNatClampNeg) (ns := (201 : Int32).toNatClampNeg) Prw.rf g958
  have f960 := e959.k f935 (by decide)
  have f961 := e959.k f936 (by decide)
  have f962 := e959.k f937 (by decide)
  have f963 := e959.k f938 (by decide)
  have f964 := e959.k f939 (by decide)
  have f965 := e959.k f940 (by decide)
  have f966 := e959.k f941 (by decide)
  have f967 := e959.k f942 (by decide)
  have f968 := e959.k f943 (by decide)
  have f969 := e959.k f944 (by decide)
  have f970 := e959.k f945 (by decide)
  have f971 := e959.k f946 (by decide)
  have f972 := e959.k f947 (by decide)
  have f973 := e959.k f948 (by decide)
  have f974 := e959.k f949 (by decide)
  have f975 := e959.k f950 (by decide)
  have f976 := e959.k f951 (by decide)
  have f977 := e959.k f952 (by decide)
  have f978 := e959.k f953 (by decide)
  have f979 := e959.k f954 (by decide)
  have f980 := e959.k f955 (by decide)
  have f981 := e959.k f956 (by decide)
  have f982 := e959.k f957 (by decide)
  replace H := obh H; obtain ⟨h983, e984, H⟩ := H
  refine e_hq e984 ?_
  have f985 := kT e984 f960
  have f986 := kT e984 f961
  have f987 := kT e984 f962
  have f988 := kT e984 f963
  have f989 := kT e984 f964
  have f990 := kT e984 f965
  have f991 := kT e984 f966
  have f992 := kT e984 f967
  have f993 := kT e984 f968
  have f994 := kT e984 f969
  have f995 := kT e984 f970
  have f996 := kT e984 f971
  have f997 := kT e984 f972
  have f998 := kT e984 f973
  have f999 := kT e984 f974
  have f1000 := kT e984 f975
  have f1001 := kT e984 f976
  have f1002 := kT e984 f977
  have f1003 := kT e984 f978
  have f1004 := kT e984 f979
  have f1005 := kT e984 f980
  have f1006 := kT e984 f981
  have f1007 := kT e984 f982
  have f1008 := kT e984 hT_new
  refine e_putR f986 fpX12_80_13i (by first | exact Or.inl ⟨_, rfl⟩ | exact Or.inr ⟨_, rfl⟩) dX12_init_188 ?_
  have e1009 := Prw.sR (h := h983) (a := p0) (k := 47) (v := some (hN (sR h909 p0 46 (some (hN (sR h838 p0 45 (some (hN (sR h770 p0 43 (some (hN (sR h705 p0 42 (some (hN h663)))))))))))))) Prw.rf 
  have f1010 := e1009.k f985 (by decide)
  have f1011 := e1009.k f986 (by decide)
  have f1012 := e1009.k f987 (by decide)
  have f1013 := e1009.k f988 (by decide)
  have f1014 := e1009.k f989 (by decide)
  have f1015 := e1009.k f990 (by decide)
  have f1016 := e1009.k f991 (by decide)
  have f1017 := e1009.k f992 (by decide)
  have f1018 := e1009.k f993 (by decide)
  have f1019 := e1009.k f994 (by decide)
  have f1020 := e1009.k f995 (by decide)
  have f1021 := e1009.k f996 (by decide)
  have f1022 := e1009.k f997 (by decide)
  have f1023 := e1009.k f998 (by decide)
  have f1024 := e1009.k f999 (by decide)
  have f1025 := e1009.k f1000 (by decide)
  have f1026 := e1009.k f1001 (by decide)
  have f1027 := e1009.k f1002 (by decide)
  have f1028 := e1009.k f1003 (by decide)
  have f1029 := e1009.k f1004 (by decide)
  have f1030 := e1009.k f1005 (by decide)
  have f1031 := e1009.k f1006 (by decide)
  have f1032 := e1009.k f1007 (by decide)
  have f1033 := e1009.k f1008 (by decide)
  refine g_aload_n dX12_init_191 rfl rfl ?_
  refine e_bipush (v := (32 : Int32)) dX12_init_192 (by decide) ?_
  replace H := og H; obtain ⟨g1034, H⟩ := H
  refine e_newa (atype := .int) (kd := 15) rfl (by decide) la_int (by decide) (by decide) dX12_init_194 ?_
  have e1035 := Prw.nw (h := (sR h983 p0 47 (some (hN (sR h909 p0 46 (some (hN (sR h838 p0 45 (some (hN (sR h770 p0 43 (some (hN (sR h705 p0 42 (some (hN h663)))))))))))))))) (kd := 15) (ln := (32 : Int32).toNatClampNeg) (ns := (32 : Int32).toNatClampNeg) Prw.rf g1034
  have f1036 := e1035.k f1010 (by decide)
  have f1037 := e1035.k f1011 (by decide)
  have f1038 := e1035.k f1012 (by decide)
  have f1039 := e1035.k f1013 (by decide)
  have f1040 := e1035.k f1014 (by decide)
  have f1041 := e1035.k f1015 (by decide)
  have f1042 := e1035.k f1016 (by decide)
  have f1043 := e1035.k f1017 (by decide)
  have f1044 := e1035.k f1018 (by decide)
  have f1045 := e1035.k f1019 (by decide)
  have f1046 := e1035.k f1020 (by decide)
  have f1047 := e1035.k f1021 (by decide)
  have f1048 := e1035.k f1022 (by decide)
  have f1049 := e1035.k f1023 (by decide)
  have f1050 := e1035.k f1024 (by decide)
  have f1051 := e1035.k f1025 (by decide)
  have f1052 := e1035.k f1026 (by decide)
  have f1053 := e1035.k f1027 (by decide)
  have f1054 := e1035.k f1028 (by decide)
  have f1055 := e1035.k f1029 (by decide)
  have f1056 := e1035.k f1030 (by decide)
  have f1057 := e1035.k f1031 (by decide)
  have f1058 := e1035.k f1032 (by decide)
  have f1059 := e1035.k f1033 (by decide)
  replace H := obh H; obtain ⟨h1060, e1061, H⟩ := H
  refine e_hq e1061 ?_
  have f1062 := kT e1061 f1036
  have f1063 := kT e1061 f1037
  have f1064 := kT e1061 f1038
  have f1065 := kT e1061 f1039
  have f1066 := kT e1061 f1040
  have f1067 := kT e1061 f1041
  have f1068 := kT e1061 f1042
  have f1069 := kT e1061 f1043
  have f1070 := kT e1061 f1044
  have f1071 := kT e1061 f1045
  have f1072 := kT e1061 f1046
  have f1073 := kT e1061 f1047
  have f1074 := kT e1061 f1048
  have f1075 := kT e1061 f1049
  have f1076 := kT e1061 f1050
  have f1077 := kT e1061 f1051
  have f1078 := kT e1061 f1052
  have f1079 := kT e1061 f1053
  have f1080 := kT e1061 f1054
  have f1081 := kT e1061 f1055
  have f1082 := kT e1061 f1056
  have f1083 := kT e1061 f1057
  have f1084 := kT e1061 f1058
  have f1085 := kT e1061 f1059
  have f1086 := kT e1061 hT_new
  refine e_putR f1063 fpX12_83_13i (by first | exact Or.inl ⟨_, rfl⟩ | exact Or.inr ⟨_, rfl⟩) dX12_init_196 ?_
  have e1087 := Prw.sR (h := h1060) (a := p0) (k := 48) (v := some (hN (sR h983 p0 47 (some (hN (sR h909 p0 46 (some (hN (sR h838 p0 45 (some (hN (sR h770 p0 43 (some (hN (sR h705 p0 42 (some (hN h663))))))))))))))))) Prw.rf 
  have f1088 := e1087.k f1062 (by decide)
  have f1089 := e1087.k f1063 (by decide)
  have f1090 := e1087.k f1064 (by decide)
  have f1091 := e1087.k f1065 (by decide)
  have f1092 := e1087.k f1066 (by decide)
  have f1093 := e1087.k f1067 (by decide)
  have f1094 := e1087.k f1068 (by decide)
  have f1095 := e1087.k f1069 (by decide)
  have f1096 := e1087.k f1070 (by decide)
  have f1097 := e1087.k f1071 (by decide)
  have f1098 := e1087.k f1072 (by decide)
  have f1099 := e1087.k f1073 (by decide)
  have f1100 := e1087.k f1074 (by decide)
  have f1101 := e1087.k f1075 (by decide)
  have f1102 := e1087.k f1076 (by decide)
  have f1103 := e1087.k f1077 (by decide)
  have f1104 := e1087.k f1078 (by decide)
  have f1105 := e1087.k f1079 (by decide)
  have f1106 := e1087.k f1080 (by decide)
  have f1107 := e1087.k f1081 (by decide)
  have f1108 := e1087.k f1082 (by decide)
  have f1109 := e1087.k f1083 (by decide)
  have f1110 := e1087.k f1084 (by decide)
  have f1111 := e1087.k f1085 (by decide)
  have f1112 := e1087.k f1086 (by decide)
  replace H := obh H; obtain ⟨h1113, e1114, H⟩ := H
  refine e_hq e1114 ?_
  have f1115 := kT e1114 f1088
  have f1116 := kT e1114 f1089
  have f1117 := kT e1114 f1090
  have f1118 := kT e1114 f1091
  have f1119 := kT e1114 f1092
  have f1120 := kT e1114 f1093
  have f1121 := kT e1114 f1094
  have f1122 := kT e1114 f1095
  have f1123 := kT e1114 f1096
  have f1124 := kT e1114 f1097
  have f1125 := kT e1114 f1098
  have f1126 := kT e1114 f1099
  have f1127 := kT e1114 f1100
  have f1128 := kT e1114 f1101
  have f1129 := kT e1114 f1102
  have f1130 := kT e1114 f1103
  have f1131 := kT e1114 f1104
  have f1132 := kT e1114 f1105
  have f1133 := kT e1114 f1106
  have f1134 := kT e1114 f1107
  have f1135 := kT e1114 f1108
  have f1136 := kT e1114 f1109
  have f1137 := kT e1114 f1110
  have f1138 := kT e1114 f1111
  have f1139 := kT e1114 f1112
  refine g_aload_n dX12_init_199 rfl rfl ?_
  refine e_iconst (v := (4 : Int32)) dX12_init_200 (by decide) ?_
  replace H := og H; obtain ⟨g1140, H⟩ := H
  refine e_newa (atype := .boolean) (kd := 17) rfl (by decide) la_boolean (by decide) (by decide) dX12_init_201 ?_
  have e1141 := Prw.nw (h := h1113) (kd := 17) (ln := (4 : Int32).toNatClampNeg) (ns := (4 : Int32).toNatClampNeg) Prw.rf g1140
  have f1142 := e1141.k f1115 (by decide)
  have f1143 := e1141.k f1116 (by decide)
  have f1144 := e1141.k f1117 (by decide)
  have f1145 := e1141.k f1118 (by decide)
  have f1146 := e1141.k f1119 (by decide)
  have f1147 := e1141.k f1120 (by decide)
  have f1148 := e1141.k f1121 (by decide)
  have f1149 := e1141.k f1122 (by decide)
  have f1150 := e1141.k f1123 (by decide)
  have f1151 := e1141.k f1124 (by decide)
  have f1152 := e1141.k f1125 (by decide)
  have f1153 := e1141.k f1126 (by decide)
  have f1154 := e1141.k f1127 (by decide)
  have f1155 := e1141.k f1128 (by decide)
  have f1156 := e1141.k f1129 (by decide)
  have f1157 := e1141.k f1130 (by decide)
  have f1158 := e1141.k f1131 (by decide)
  have f1159 := e1141.k f1132 (by decide)
  have f1160 := e1141.k f1133 (by decide)
  have f1161 := e1141.k f1134 (by decide)
  have f1162 := e1141.k f1135 (by decide)
  have f1163 := e1141.k f1136 (by decide)
  have f1164 := e1141.k f1137 (by decide)
  have f1165 := e1141.k f1138 (by decide)
  have f1166 := e1141.k f1139 (by decide)
  replace H := obh H; obtain ⟨h1167, e1168, H⟩ := H
  refine e_hq e1168 ?_
  have f1169 := kT e1168 f1142
  have f1170 := kT e1168 f1143
  have f1171 := kT e1168 f1144
  have f1172 := kT e1168 f1145
  have f1173 := kT e1168 f1146
  have f1174 := kT e1168 f1147
  have f1175 := kT e1168 f1148
  have f1176 := kT e1168 f1149
  have f1177 := kT e1168 f1150
  have f1178 := kT e1168 f1151
  have f1179 := kT e1168 f1152
  have f1180 := kT e1168 f1153
  have f1181 := kT e1168 f1154
  have f1182 := kT e1168 f1155
  have f1183 := kT e1168 f1156
  have f1184 := kT e1168 f1157
  have f1185 := kT e1168 f1158
  have f1186 := kT e1168 f1159
  have f1187 := kT e1168 f1160
  have f1188 := kT e1168 f1161
  have f1189 := kT e1168 f1162
  have f1190 := kT e1168 f1163
  have f1191 := kT e1168 f1164
  have f1192 := kT e1168 f1165
  have f1193 := kT e1168 f1166
  have f1194 := kT e1168 hT_new
  refine e_putR f1170 fpX12_86_13i (by first | exact Or.inl ⟨_, rfl⟩ | exact Or.inr ⟨_, rfl⟩) dX12_init_203 ?_
  have e1195 := Prw.sR (h := h1167) (a := p0) (k := 53) (v := some (hN h1113)) Prw.rf 
  have f1196 := e1195.k f1169 (by decide)
  have f1197 := e1195.k f1170 (by decide)
  have f1198 := e1195.k f1171 (by decide)
  have f1199 := e1195.k f1172 (by decide)
  have f1200 := e1195.k f1173 (by decide)
  have f1201 := e1195.k f1174 (by decide)
  have f1202 := e1195.k f1175 (by decide)
  have f1203 := e1195.k f1176 (by decide)
  have f1204 := e1195.k f1177 (by decide)
  have f1205 := e1195.k f1178 (by decide)
  have f1206 := e1195.k f1179 (by decide)
  have f1207 := e1195.k f1180 (by decide)
  have f1208 := e1195.k f1181 (by decide)
  have f1209 := e1195.k f1182 (by decide)
  have f1210 := e1195.k f1183 (by decide)
  have f1211 := e1195.k f1184 (by decide)
  have f1212 := e1195.k f1185 (by decide)
  have f1213 := e1195.k f1186 (by decide)
  have f1214 := e1195.k f1187 (by decide)
  have f1215 := e1195.k f1188 (by decide)
  have f1216 := e1195.k f1189 (by decide)
  have f1217 := e1195.k f1190 (by decide)
  have f1218 := e1195.k f1191 (by decide)
  have f1219 := e1195.k f1192 (by decide)
  have f1220 := e1195.k f1193 (by decide)
  have f1221 := e1195.k f1194 (by decide)
  refine g_aload_n dX12_init_206 rfl rfl ?_
  refine e_iconst (v := (4 : Int32)) dX12_init_207 (by decide) ?_
  replace H := og H; obtain ⟨g1222, H⟩ := H
  refine e_newa (atype := .int) (kd := 15) rfl (by decide) la_int (by decide) (by decide) dX12_init_208 ?_
  have e1223 := Prw.nw (h := (sR h1167 p0 53 (some (hN h1113)))) (kd := 15) (ln := (4 : Int32).toNatClampNeg) (ns := (4 : Int32).toNatClampNeg) Prw.rf g1222
  have f1224 := e1223.k f1196 (by decide)
  have f1225 := e1223.k f1197 (by decide)
  have f1226 := e1223.k f1198 (by decide)
  have f1227 := e1223.k f1199 (by decide)
  have f1228 := e1223.k f1200 (by decide)
  have f1229 := e1223.k f1201 (by decide)
  have f1230 := e1223.k f1202 (by decide)
  have f1231 := e1223.k f1203 (by decide)
  have f1232 := e1223.k f1204 (by decide)
  have f1233 := e1223.k f1205 (by decide)
  have f1234 := e1223.k f1206 (by decide)
  have f1235 := e1223.k f1207 (by decide)
  have f1236 := e1223.k f1208 (by decide)
  have f1237 := e1223.k f1209 (by decide)
  have f1238 := e1223.k f1210 (by decide)
  have f1239 := e1223.k f1211 (by decide)
  have f1240 := e1223.k f1212 (by decide)
  have f1241 := e1223.k f1213 (by decide)
  have f1242 := e1223.k f1214 (by decide)
  have f1243 := e1223.k f1215 (by decide)
  have f1244 := e1223.k f1216 (by decide)
  have f1245 := e1223.k f1217 (by decide)
  have f1246 := e1223.k f1218 (by decide)
  have f1247 := e1223.k f1219 (by decide)
  have f1248 := e1223.k f1220 (by decide)
  have f1249 := e1223.k f1221 (by decide)
  replace H := obh H; obtain ⟨h1250, e1251, H⟩ := H
  refine e_hq e1251 ?_
  have f1252 := kT e1251 f1224
  have f1253 := kT e1251 f1225
  have f1254 := kT e1251 f1226
  have f1255 := kT e1251 f1227
  have f1256 := kT e1251 f1228
  have f1257 := kT e1251 f1229
  have f1258 := kT e1251 f1230
  have f1259 := kT e1251 f1231
  have f1260 := kT e1251 f1232
  have f1261 := kT e1251 f1233
  have f1262 := kT e1251 f1234
  have f1263 := kT e1251 f1235
  have f1264 := kT e1251 f1236
  have f1265 := kT e1251 f1237
  have f1266 := kT e1251 f1238
  have f1267 := kT e1251 f1239
  have f1268 := kT e1251 f1240
  have f1269 := kT e1251 f1241
  have f1270 := kT e1251 f1242
  have f1271 := kT e1251 f1243
  have f1272 := kT e1251 f1244
  have f1273 := kT e1251 f1245
  have f1274 := kT e1251 f1246
  have f1275 := kT e1251 f1247
  have f1276 := kT e1251 f1248
  have f1277 := kT e1251 f1249
  have f1278 := kT e1251 hT_new
  refine e_putR f1253 fpX12_90_13i (by first | exact Or.inl ⟨_, rfl⟩ | exact Or.inr ⟨_, rfl⟩) dX12_init_210 ?_
  have e1279 := Prw.sR (h := h1250) (a := p0) (k := 54) (v := some (hN (sR h1167 p0 53 (some (hN h1113))))) Prw.rf 
  have f1280 := e1279.k f1252 (by decide)
  have f1281 := e1279.k f1253 (by decide)
  have f1282 := e1279.k f1254 (by decide)
  have f1283 := e1279.k f1255 (by decide)
  have f1284 := e1279.k f1256 (by decide)
  have f1285 := e1279.k f1257 (by decide)
  have f1286 := e1279.k f1258 (by decide)
  have f1287 := e1279.k f1259 (by decide)
  have f1288 := e1279.k f1260 (by decide)
  have f1289 := e1279.k f1261 (by decide)
  have f1290 := e1279.k f1262 (by decide)
  have f1291 := e1279.k f1263 (by decide)
  have f1292 := e1279.k f1264 (by decide)
  have f1293 := e1279.k f1265 (by decide)
  have f1294 := e1279.k f1266 (by decide)
  have f1295 := e1279.k f1267 (by decide)
  have f1296 := e1279.k f1268 (by decide)
  have f1297 := e1279.k f1269 (by decide)
  have f1298 := e1279.k f1270 (by decide)
  have f1299 := e1279.k f1271 (by decide)
  have f1300 := e1279.k f1272 (by decide)
  have f1301 := e1279.k f1273 (by decide)
  have f1302 := e1279.k f1274 (by decide)
  have f1303 := e1279.k f1275 (by decide)
  have f1304 := e1279.k f1276 (by decide)
  have f1305 := e1279.k f1277 (by decide)
  have f1306 := e1279.k f1278 (by decide)
  refine g_aload_n dX12_init_213 rfl rfl ?_
  refine e_iconst (v := (4 : Int32)) dX12_init_214 (by decide) ?_
  replace H := og H; obtain ⟨g1307, H⟩ := H
  refine e_newa (atype := .int) (kd := 15) rfl (by decide) la_int (by decide) (by decide) dX12_init_215 ?_
  have e1308 := Prw.nw (h := (sR h1250 p0 54 (some (hN (sR h1167 p0 53 (some (hN h1113))))))) (kd := 15) (ln := (4 : Int32).toNatClampNeg) (ns := (4 : Int32).toNatClampNeg) Prw.rf g1307
  have f1309 := e1308.k f1280 (by decide)
  have f1310 := e1308.k f1281 (by decide)
  have f1311 := e1308.k f1282 (by decide)
  have f1312 := e1308.k f1283 (by decide)
  have f1313 := e1308.k f1284 (by decide)
  have f1314 := e1308.k f1285 (by decide)
  have f1315 := e1308.k f1286 (by decide)
  have f1316 := e1308.k f1287 (by decide)
  have f1317 := e1308.k f1288 (by decide)
  have f1318 := e1308.k f1289 (by decide)
  have f1319 := e1308.k f1290 (by decide)
  have f1320 := e1308.k f1291 (by decide)
  have f1321 := e1308.k f1292 (by decide)
  have f1322 := e1308.k f1293 (by decide)
  have f1323 := e1308.k f1294 (by decide)
  have f1324 := e1308.k f1295 (by decide)
  have f1325 := e1308.k f1296 (by decide)
  have f1326 := e1308.k f1297 (by decide)
  have f1327 := e1308.k f1298 (by decide)
  have f1328 := e1308.k f1299 (by decide)
  have f1329 := e1308.k f1300 (by decide)
  have f1330 := e1308.k f1301 (by decide)
  have f1331 := e1308.k f1302 (by decide)
  have f1332 := e1308.k f1303 (by decide)
  have f1333 := e1308.k f1304 (by decide)
  have f1334 := e1308.k f1305 (by decide)
  have f1335 := e1308.k f1306 (by decide)
  replace H := obh H; obtain ⟨h1336, e1337, H⟩ := H
  refine e_hq e1337 ?_
  have f1338 := kT e1337 f1309
  have f1339 := kT e1337 f1310
  have f1340 := kT e1337 f1311
  have f1341 := kT e1337 f1312
  have f1342 := kT e1337 f1313
  have f1343 := kT e1337 f1314
  have f1344 := kT e1337 f1315
  have f1345 := kT e1337 f1316
  have f1346 := kT e1337 f1317
  have f1347 := kT e1337 f1318
  have f1348 := kT e1337 f1319
  have f1349 := kT e1337 f1320
  have f1350 := kT e1337 f1321
  have f1351 := kT e1337 f1322
  have f1352 := kT e1337 f1323
  have f1353 := kT e1337 f1324
  have f1354 := kT e1337 f1325
  have f1355 := kT e1337 f1326
  have f1356 := kT e1337 f1327
  have f1357 := kT e1337 f1328
  have f1358 := kT e1337 f1329
  have f1359 := kT e1337 f1330
  have f1360 := kT e1337 f1331
  have f1361 := kT e1337 f1332
  have f1362 := kT e1337 f1333
  have f1363 := kT e1337 f1334
  have f1364 := kT e1337 f1335
  have f1365 := kT e1337 hT_new
  refine e_putR f1339 fpX12_93_13i (by first | exact Or.inl ⟨_, rfl⟩ | exact Or.inr ⟨_, rfl⟩) dX12_init_217 ?_
  have e1366 := Prw.sR (h := h1336) (a := p0) (k := 55) (v := some (hN (sR h1250 p0 54 (some (hN (sR h1167 p0 53 (some (hN h1113)))))))) Prw.rf 
  have f1367 := e1366.k f1338 (by decide)
  have f1368 := e1366.k f1339 (by decide)
  have f1369 := e1366.k f1340 (by decide)
  have f1370 := e1366.k f1341 (by decide)
  have f1371 := e1366.k f1342 (by decide)
  have f1372 := e1366.k f1343 (by decide)
  have f1373 := e1366.k f1344 (by decide)
  have f1374 := e1366.k f1345 (by decide)
  have f1375 := e1366.k f1346 (by decide)
  have f1376 := e1366.k f1347 (by decide)
  have f1377 := e1366.k f1348 (by decide)
  have f1378 := e1366.k f1349 (by decide)
  have f1379 := e1366.k f1350 (by decide)
  have f1380 := e1366.k f1351 (by decide)
  have f1381 := e1366.k f1352 (by decide)
  have f1382 := e1366.k f1353 (by decide)
  have f1383 := e1366.k f1354 (by decide)
  have f1384 := e1366.k f1355 (by decide)
  have f1385 := e1366.k f1356 (by decide)
  have f1386 := e1366.k f1357 (by decide)
  have f1387 := e1366.k f1358 (by decide)
  have f1388 := e1366.k f1359 (by decide)
  have f1389 := e1366.k f1360 (by decide)
  have f1390 := e1366.k f1361 (by decide)
  have f1391 := e1366.k f1362 (by decide)
  have f1392 := e1366.k f1363 (by decide)
  have f1393 := e1366.k f1364 (by decide)
  have f1394 := e1366.k f1365 (by decide)
  refine g_aload_n dX12_init_220 rfl rfl ?_
  refine e_sipush (v := (160 : Int32)) dX12_init_221 (by decide) ?_
  replace H := og H; obtain ⟨g1395, H⟩ := H
  refine e_newa (atype := .int) (kd := 15) rfl (by decide) la_int (by decide) (by decide) dX12_init_224 ?_
  have e1396 := Prw.nw (h := (sR h1336 p0 55 (some (hN (sR h1250 p0 54 (some (hN (sR h1167 p0 53 (some (hN h1113)))))))))) (kd := 15) (ln := (160 : Int32).toNatClampNeg) (ns := (160 : Int32).toNatClampNeg) Prw.rf g1395
  have f1397 := e1396.k f1367 (by decide)
  have f1398 := e1396.k f1368 (by decide)
  have f1399 := e1396.k f1369 (by decide)
  have f1400 := e1396.k f1370 (by decide)
  have f1401 := e1396.k f1371 (by decide)
  have f1402 := e1396.k f1372 (by decide)
  have f1403 := e1396.k f1373 (by decide)
  have f1404 := e1396.k f1374 (by decide)
  have f1405 := e1396.k f1375 (by decide)
  have f1406 := e1396.k f1376 (by decide)
  have f1407 := e1396.k f1377 (by decide)
  have f1408 := e1396.k f1378 (by decide)
  have f1409 := e1396.k f1379 (by decide)
  have f1410 := e1396.k f1380 (by decide)
  have f1411 := e1396.k f1381 (by decide)
  have f1412 := e1396.k f1382 (by decide)
  have f1413 := e1396.k f1383 (by decide)
  have f1414 := e1396.k f1384 (by decide)
  have f1415 := e1396.k f1385 (by decide)
  have f1416 := e1396.k f1386 (by decide)
  have f1417 := e1396.k f1387 (by decide)
  have f1418 := e1396.k f1388 (by decide)
  have f1419 := e1396.k f1389 (by decide)
  have f1420 := e1396.k f1390 (by decide)
  have f1421 := e1396.k f1391 (by decide)
  have f1422 := e1396.k f1392 (by decide)
  have f1423 := e1396.k f1393 (by decide)
  have f1424 := e1396.k f1394 (by decide)
  replace H := obh H; obtain ⟨h1425, e1426, H⟩ := H
  refine e_hq e1426 ?_
  have f1427 := kT e1426 f1397
  have f1428 := kT e1426 f1398
  have f1429 := kT e1426 f1399
  have f1430 := kT e1426 f1400
  have f1431 := kT e1426 f1401
  have f1432 := kT e1426 f1402
  have f1433 := kT e1426 f1403
  have f1434 := kT e1426 f1404
  have f1435 := kT e1426 f1405
  have f1436 := kT e1426 f1406
  have f1437 := kT e1426 f1407
  have f1438 := kT e1426 f1408
  have f1439 := kT e1426 f1409
  have f1440 := kT e1426 f1410
  have f1441 := kT e1426 f1411
  have f1442 := kT e1426 f1412
  have f1443 := kT e1426 f1413
  have f1444 := kT e1426 f1414
  have f1445 := kT e1426 f1415
  have f1446 := kT e1426 f1416
  have f1447 := kT e1426 f1417
  have f1448 := kT e1426 f1418
  have f1449 := kT e1426 f1419
  have f1450 := kT e1426 f1420
  have f1451 := kT e1426 f1421
  have f1452 := kT e1426 f1422
  have f1453 := kT e1426 f1423
  have f1454 := kT e1426 f1424
  have f1455 := kT e1426 hT_new
  refine e_putR f1428 fpX12_96_13i (by first | exact Or.inl ⟨_, rfl⟩ | exact Or.inr ⟨_, rfl⟩) dX12_init_226 ?_
  have e1456 := Prw.sR (h := h1425) (a := p0) (k := 56) (v := some (hN (sR h1336 p0 55 (some (hN (sR h1250 p0 54 (some (hN (sR h1167 p0 53 (some (hN h1113))))))))))) Prw.rf 
  have f1457 := e1456.k f1427 (by decide)
  have f1458 := e1456.k f1428 (by decide)
  have f1459 := e1456.k f1429 (by decide)
  have f1460 := e1456.k f1430 (by decide)
  have f1461 := e1456.k f1431 (by decide)
  have f1462 := e1456.k f1432 (by decide)
  have f1463 := e1456.k f1433 (by decide)
  have f1464 := e1456.k f1434 (by decide)
  have f1465 := e1456.k f1435 (by decide)
  have f1466 := e1456.k f1436 (by decide)
  have f1467 := e1456.k f1437 (by decide)
  have f1468 := e1456.k f1438 (by decide)
  have f1469 := e1456.k f1439 (by decide)
  have f1470 := e1456.k f1440 (by decide)
  have f1471 := e1456.k f1441 (by decide)
  have f1472 := e1456.k f1442 (by decide)
  have f1473 := e1456.k f1443 (by decide)
  have f1474 := e1456.k f1444 (by decide)
  have f1475 := e1456.k f1445 (by decide)
  have f1476 := e1456.k f1446 (by decide)
  have f1477 := e1456.k f1447 (by decide)
  have f1478 := e1456.k f1448 (by decide)
  have f1479 := e1456.k f1449 (by decide)
  have f1480 := e1456.k f1450 (by decide)
  have f1481 := e1456.k f1451 (by decide)
  have f1482 := e1456.k f1452 (by decide)
  have f1483 := e1456.k f1453 (by decide)
  have f1484 := e1456.k f1454 (by decide)
  have f1485 := e1456.k f1455 (by decide)
  refine g_aload_n dX12_init_229 rfl rfl ?_
  refine e_iconst (v := (0 : Int32)) dX12_init_230 (by decide) ?_
  refine e_ldc2 (v := (8100957002595857001 : Int64)) lkX12_99 dX12_init_231 ?_
  replace H := ob H; obtain ⟨q1486, c1487, H⟩ := H
  refine v0 f1458 (by decide) rfl rfl lmX12_101 liX12_spell lvX12_X12_spell msX12_spell dX12_init_234 (t_X12_spell (d + 0) c1487) rfl (Nat.le_of_ble_eq_true rfl) (Nat.le_refl _) ?_
  have e1489 := p_X12_spell c1487
  have e1488 := e1489.w
  have f1490 := e1488.k f1457 (by decide)
  have f1491 := e1488.k f1458 (by decide)
  have f1492 := e1488.k f1459 (by decide)
  have f1493 := e1488.k f1460 (by decide)
  have f1494 := e1488.k f1461 (by decide)
  have f1495 := e1488.k f1462 (by decide)
  have f1496 := e1488.k f1463 (by decide)
  have f1497 := e1488.k f1464 (by decide)
  have f1498 := e1488.k f1465 (by decide)
  have f1499 := e1488.k f1466 (by decide)
  have f1500 := e1488.k f1467 (by decide)
  have f1501 := e1488.k f1468 (by decide)
  have f1502 := e1488.k f1469 (by decide)
  have f1503 := e1488.k f1470 (by decide)
  have f1504 := e1488.k f1471 (by decide)
  have f1505 := e1488.k f1472 (by decide)
  have f1506 := e1488.k f1473 (by decide)
  have f1507 := e1488.k f1474 (by decide)
  have f1508 := e1488.k f1475 (by decide)
  have f1509 := e1488.k f1476 (by decide)
  have f1510 := e1488.k f1477 (by decide)
  have f1511 := e1488.k f1478 (by decide)
  have f1512 := e1488.k f1479 (by decide)
  have f1513 := e1488.k f1480 (by decide)
  have f1514 := e1488.k f1481 (by decide)
  have f1515 := e1488.k f1482 (by decide)
  have f1516 := e1488.k f1483 (by decide)
  have f1517 := e1488.k f1484 (by decide)
  have f1518 := e1488.k f1485 (by decide)
  refine g_aload_n dX12_init_237 rfl rfl ?_
  refine e_bipush (v := (8 : Int32)) dX12_init_238 (by decide) ?_
  refine e_ldc2 (v := (7162166225016939620 : Int64)) lkX12_105 dX12_init_240 ?_
  replace H := ob H; obtain ⟨q1519, c1520, H⟩ := H
  refine v0 f1491 (by decide) rfl rfl lmX12_101 liX12_spell lvX12_X12_spell msX12_spell dX12_init_243 (t_X12_spell (d + 0) c1520) rfl (Nat.le_of_ble_eq_true rfl) (Nat.le_refl _) ?_
  have e1522 := p_X12_spell c1520
  have e1521 := e1522.w
  have f1523 := e1521.k f1490 (by decide)
  have f1524 := e1521.k f1491 (by decide)
  have f1525 := e1521.k f1492 (by decide)
  have f1526 := e1521.k f1493 (by decide)
  have f1527 := e1521.k f1494 (by decide)
  have f1528 := e1521.k f1495 (by decide)
  have f1529 := e1521.k f1496 (by decide)
  have f1530 := e1521.k f1497 (by decide)
  have f1531 := e1521.k f1498 (by decide)
  have f1532 := e1521.k f1499 (by decide)
  have f1533 := e1521.k f1500 (by decide)
  have f1534 := e1521.k f1501 (by decide)
  have f1535 := e1521.k f1502 (by decide)
  have f1536 := e1521.k f1503 (by decide)
  have f1537 := e1521.k f1504 (by decide)
  have f1538 := e1521.k f1505 (by decide)
  have f1539 := e1521.k f1506 (by decide)
  have f1540 := e1521.k f1507 (by decide)
  have f1541 := e1521.k f1508 (by decide)
  have f1542 := e1521.k f1509 (by decide)
  have f1543 := e1521.k f1510 (by decide)
  have f1544 := e1521.k f1511 (by decide)
  have f1545 := e1521.k f1512 (by decide)
  have f1546 := e1521.k f1513 (by decide)
  have f1547 := e1521.k f1514 (by decide)
  have f1548 := e1521.k f1515 (by decide)
  have f1549 := e1521.k f1516 (by decide)
  have f1550 := e1521.k f1517 (by decide)
  have f1551 := e1521.k f1518 (by decide)
  refine g_aload_n dX12_init_246 rfl rfl ?_
  refine e_bipush (v := (16 : Int32)) dX12_init_247 (by decide) ?_
  refine e_ldc2 (v := (8295677931991426413 : Int64)) lkX12_107 dX12_init_249 ?_
  replace H := ob H; obtain ⟨q1552, c1553, H⟩ := H
  refine v0 f1524 (by decide) rfl rfl lmX12_101 liX12_spell lvX12_X12_spell msX12_spell dX12_init_252 (t_X12_spell (d + 0) c1553) rfl (Nat.le_of_ble_eq_true rfl) (Nat.le_refl _) ?_
  have e1555 := p_X12_spell c1553
  have e1554 := e1555.w
  have f1556 := e1554.k f1523 (by decide)
  have f1557 := e1554.k f1524 (by decide)
  have f1558 := e1554.k f1525 (by decide)
  have f1559 := e1554.k f1526 (by decide)
  have f1560 := e1554.k f1527 (by decide)
  have f1561 := e1554.k f1528 (by decide)
  have f1562 := e1554.k f1529 (by decide)
  have f1563 := e1554.k f1530 (by decide)
  have f1564 := e1554.k f1531 (by decide)
  have f1565 := e1554.k f1532 (by decide)
  have f1566 := e1554.k f1533 (by decide)
  have f1567 := e1554.k f1534 (by decide)
  have f1568 := e1554.k f1535 (by decide)
  have f1569 := e1554.k f1536 (by decide)
  have f1570 := e1554.k f1537 (by decide)
  have f1571 := e1554.k f1538 (by decide)
  have f1572 := e1554.k f1539 (by decide)
  have f1573 := e1554.k f1540 (by decide)
  have f1574 := e1554.k f1541 (by decide)
  have f1575 := e1554.k f1542 (by decide)
  have f1576 := e1554.k f1543 (by decide)
  have f1577 := e1554.k f1544 (by decide)
  have f1578 := e1554.k f1545 (by decide)
  have f1579 := e1554.k f1546 (by decide)
  have f1580 := e1554.k f1547 (by decide)
  have f1581 := e1554.k f1548 (by decide)
  have f1582 := e1554.k f1549 (by decide)
  have f1583 := e1554.k f1550 (by decide)
  have f1584 := e1554.k f1551 (by decide)
  refine g_aload_n dX12_init_255 rfl rfl ?_
  refine e_bipush (v := (24 : Int32)) dX12_init_256 (by decide) ?_
  refine e_ldc2 (v := (8295695524177865068 : Int64)) lkX12_109 dX12_init_258 ?_
  replace H := ob H; obtain ⟨q1585, c1586, H⟩ := H
  refine v0 f1557 (by decide) rfl rfl lmX12_101 liX12_spell lvX12_X12_spell msX12_spell dX12_init_261 (t_X12_spell (d + 0) c1586) rfl (Nat.le_of_ble_eq_true rfl) (Nat.le_refl _) ?_
  have e1588 := p_X12_spell c1586
  have e1587 := e1588.w
  have f1589 := e1587.k f1556 (by decide)
  have f1590 := e1587.k f1557 (by decide)
  have f1591 := e1587.k f1558 (by decide)
  have f1592 := e1587.k f1559 (by decide)
  have f1593 := e1587.k f1560 (by decide)
  have f1594 := e1587.k f1561 (by decide)
  have f1595 := e1587.k f1562 (by decide)
  have f1596 := e1587.k f1563 (by decide)
  have f1597 := e1587.k f1564 (by decide)
  have f1598 := e1587.k f1565 (by decide)
  have f1599 := e1587.k f1566 (by decide)
  have f1600 := e1587.k f1567 (by decide)
  have f1601 := e1587.k f1568 (by decide)
  have f1602 := e1587.k f1569 (by decide)
  have f1603 := e1587.k f1570 (by decide)
  have f1604 := e1587.k f1571 (by decide)
  have f1605 := e1587.k f1572 (by decide)
  have f1606 := e1587.k f1573 (by decide)
  have f1607 := e1587.k f1574 (by decide)
  have f1608 := e1587.k f1575 (by decide)
  have f1609 := e1587.k f1576 (by decide)
  have f1610 := e1587.k f1577 (by decide)
  have f1611 := e1587.k f1578 (by decide)
  have f1612 := e1587.k f1579 (by decide)
  have f1613 := e1587.k f1580 (by decide)
  have f1614 := e1587.k f1581 (by decide)
  have f1615 := e1587.k f1582 (by decide)
  have f1616 := e1587.k f1583 (by decide)
  have f1617 := e1587.k f1584 (by decide)
  refine g_aload_n dX12_init_264 rfl rfl ?_
  refine e_bipush (v := (32 : Int32)) dX12_init_265 (by decide) ?_
  refine e_ldc2 (v := (7791290272867688559 : Int64)) lkX12_111 dX12_init_267 ?_
  replace H := ob H; obtain ⟨q1618, c1619, H⟩ := H
  refine v0 f1590 (by decide) rfl rfl lmX12_101 liX12_spell lvX12_X12_spell msX12_spell dX12_init_270 (t_X12_spell (d + 0) c1619) rfl (Nat.le_of_ble_eq_true rfl) (Nat.le_refl _) ?_
  have e1621 := p_X12_spell c1619
  have e1620 := e1621.w
  have f1622 := e1620.k f1589 (by decide)
  have f1623 := e1620.k f1590 (by decide)
  have f1624 := e1620.k f1591 (by decide)
  have f1625 := e1620.k f1592 (by decide)
  have f1626 := e1620.k f1593 (by decide)
  have f1627 := e1620.k f1594 (by decide)
  have f1628 := e1620.k f1595 (by decide)
  have f1629 := e1620.k f1596 (by decide)
  have f1630 := e1620.k f1597 (by decide)
  have f1631 := e1620.k f1598 (by decide)
  have f1632 := e1620.k f1599 (by decide)
  have f1633 := e1620.k f1600 (by decide)
  have f1634 := e1620.k f1601 (by decide)
  have f1635 := e1620.k f1602 (by decide)
  have f1636 := e1620.k f1603 (by decide)
  have f1637 := e1620.k f1604 (by decide)
  have f1638 := e1620.k f1605 (by decide)
  have f1639 := e1620.k f1606 (by decide)
  have f1640 := e1620.k f1607 (by decide)
  have f1641 := e1620.k f1608 (by decide)
  have f1642 := e1620.k f1609 (by decide)
  have f1643 := e1620.k f1610 (by decide)
  have f1644 := e1620.k f1611 (by decide)
  have f1645 := e1620.k f1612 (by decide)
  have f1646 := e1620.k f1613 (by decide)
  have f1647 := e1620.k f1614 (by decide)
  have f1648 := e1620.k f1615 (by decide)
  have f1649 := e1620.k f1616 (by decide)
  have f1650 := e1620.k f1617 (by decide)
  refine g_aload_n dX12_init_273 rfl rfl ?_
  refine e_bipush (v := (40 : Int32)) dX12_init_274 (by decide) ?_
  refine e_ldc2 (v := (7234033483731987557 : Int64)) lkX12_113 dX12_init_276 ?_
  replace H := ob H; obtain ⟨q1651, c1652, H⟩ := H
  refine v0 f1623 (by decide) rfl rfl lmX12_101 liX12_spell lvX12_X12_spell msX12_spell dX12_init_279 (t_X12_spell (d + 0) c1652) rfl (Nat.le_of_ble_eq_true rfl) (Nat.le_refl _) ?_
  have e1654 := p_X12_spell c1652
  have e1653 := e1654.w
  have f1655 := e1653.k f1622 (by decide)
  have f1656 := e1653.k f1623 (by decide)
  have f1657 := e1653.k f1624 (by decide)
  have f1658 := e1653.k f1625 (by decide)
  have f1659 := e1653.k f1626 (by decide)
  have f1660 := e1653.k f1627 (by decide)
  have f1661 := e1653.k f1628 (by decide)
  have f1662 := e1653.k f1629 (by decide)
  have f1663 := e1653.k f1630 (by decide)
  have f1664 := e1653.k f1631 (by decide)
  have f1665 := e1653.k f1632 (by decide)
  have f1666 := e1653.k f1633 (by decide)
  have f1667 := e1653.k f1634 (by decide)
  have f1668 := e1653.k f1635 (by decide)
  have f1669 := e1653.k f1636 (by decide)
  have f1670 := e1653.k f1637 (by decide)
  have f1671 := e1653.k f1638 (by decide)
  have f1672 := e1653.k f1639 (by decide)
  have f1673 := e1653.k f1640 (by decide)
  have f1674 := e1653.k f1641 (by decide)
  have f1675 := e1653.k f1642 (by decide)
  have f1676 := e1653.k f1643 (by decide)
  have f1677 := e1653.k f1644 (by decide)
  have f1678 := e1653.k f1645 (by decide)
  have f1679 := e1653.k f1646 (by decide)
  have f1680 := e1653.k f1647 (by decide)
  have f1681 := e1653.k f1648 (by decide)
  have f1682 := e1653.k f1649 (by decide)
  have f1683 := e1653.k f1650 (by decide)
  refine g_aload_n dX12_init_282 rfl rfl ?_
  refine e_bipush (v := (48 : Int32)) dX12_init_283 (by decide) ?_
  refine e_ldc2 (v := (7022911857885199136 : Int64)) lkX12_115 dX12_init_285 ?_
  replace H := ob H; obtain ⟨q1684, c1685, H⟩ := H
  refine v0 f1656 (by decide) rfl rfl lmX12_101 liX12_spell lvX12_X12_spell msX12_spell dX12_init_288 (t_X12_spell (d + 0) c1685) rfl (Nat.le_of_ble_eq_true rfl) (Nat.le_refl _) ?_
  have e1687 := p_X12_spell c1685
  have e1686 := e1687.w
  have f1688 := e1686.k f1655 (by decide)
  have f1689 := e1686.k f1656 (by decide)
  have f1690 := e1686.k f1657 (by decide)
  have f1691 := e1686.k f1658 (by decide)
  have f1692 := e1686.k f1659 (by decide)
  have f1693 := e1686.k f1660 (by decide)
  have f1694 := e1686.k f1661 (by decide)
  have f1695 := e1686.k f1662 (by decide)
  have f1696 := e1686.k f1663 (by decide)
  have f1697 := e1686.k f1664 (by decide)
  have f1698 := e1686.k f1665 (by decide)
  have f1699 := e1686.k f1666 (by decide)
  have f1700 := e1686.k f1667 (by decide)
  have f1701 := e1686.k f1668 (by decide)
  have f1702 := e1686.k f1669 (by decide)
  have f1703 := e1686.k f1670 (by decide)
  have f1704 := e1686.k f1671 (by decide)
  have f1705 := e1686.k f1672 (by decide)
  have f1706 := e1686.k f1673 (by decide)
  have f1707 := e1686.k f1674 (by decide)
  have f1708 := e1686.k f1675 (by decide)
  have f1709 := e1686.k f1676 (by decide)
  have f1710 := e1686.k f1677 (by decide)
  have f1711 := e1686.k f1678 (by decide)
  have f1712 := e1686.k f1679 (by decide)
  have f1713 := e1686.k f1680 (by decide)
  have f1714 := e1686.k f1681 (by decide)
  have f1715 := e1686.k f1682 (by decide)
  have f1716 := e1686.k f1683 (by decide)
  refine g_aload_n dX12_init_291 rfl rfl ?_
  replace H := oom H; obtain ⟨-, H⟩ | ⟨b1717, e1718, H⟩ := H
  · exact nz H
  refine e_getR f1689 flX12_17_13 dX12_init_292 rfl e1718 ?_
  refine e_iconst (v := (0 : Int32)) dX12_init_295 (by decide) ?_
  refine e_bipush (v := (56 : Int32)) dX12_init_296 (by decide) ?_
  replace H := og H; obtain ⟨g1719, H⟩ := H
  replace H := og H; obtain ⟨g1720, H⟩ := H
  refine e_iast g1719 (ixb_y rfl g1720) dX12_init_298 ?_
  refine g_aload_n dX12_init_299 rfl rfl ?_
  refine e_iconst (v := (1 : Int32)) dX12_init_300 (by decide) ?_
  refine e_putI (kI f1689) fpX12_117_13i rfl dX12_init_301 ?_
  obtain rfl := Option.some.inj H
  exact z_vret rfl dX12_init_304 rfl rfl
