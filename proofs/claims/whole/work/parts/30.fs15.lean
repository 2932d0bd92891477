-- X12_player
def f_X12_player (p1 : Int32) (p2 : Int32) (p3 : Int32) (p4 : Int32) (p5 : Int32) (h : HS) : Option (Int64 × HS) := (Option.bind (f_X12_isPlayer p1 p2 p3 p4 h) (fun q1 => (if q1 = true then (if p5 < 0 then (some ((-4611686018427387904 : Int64), h)) else (if (63 : Int32) < (p5 / (10 : Int32)) then (some ((-4611686018427387904 : Int64), h)) else (if (p5 - p5 / (10 : Int32) * (10 : Int32)) ≤ (3 : Int32) then (Option.bind (f_X12_plays (p1 / (10 : Int32)) (p1 - p1 / (10 : Int32) * (10 : Int32)) p2 p3 p4 (p5 / (10 : Int32)) h) (fun q7 => (if (p5 - p5 / (10 : Int32) * (10 : Int32)) = (0 : Int32) then (some ((hI q7 60 39).toInt64, q7)) else (if (p5 - p5 / (10 : Int32) * (10 : Int32)) = (1 : Int32) then (some ((hI q7 60 40).toInt64, q7)) else (if (p5 - p5 / (10 : Int32) * (10 : Int32)) = (2 : Int32) then (some ((hI q7 60 41).toInt64, q7)) else (if ixb (p1 / (10 : Int32)) 8 = true then (if ixb (p1 / (10 : Int32)) 8 = true then (some ((((hI q7 60 39).toInt64 * (hI q7 67 (p1 / (10 : Int32)).toNatClampNeg).toInt64) - ((hI q7 60 40).toInt64 * (hI q7 68 (p1 / (10 : Int32)).toNatClampNeg).toInt64)), q7)) else none) else none)))))) else (some ((-4611686018427387904 : Int64), h))))) else (some ((-4611686018427387904 : Int64), h)))))
set_option maxHeartbeats 4000000 in
set_option maxRecDepth 20000 in
theorem p_X12_player {p1 : Int32} {p2 : Int32} {p3 : Int32} {p4 : Int32} {p5 : Int32} {h : HS} {q : (Int64 × HS)} (H : f_X12_player p1 p2 p3 p4 p5 h = some q) : Pr h q.2 := by
  unfold f_X12_player at H
  replace H := ob H; obtain ⟨q1, c2, H⟩ := H
  replace H := oi H; obtain ⟨c3, H⟩ | ⟨c3, H⟩ := H
  · replace H := oi H; obtain ⟨c4, H⟩ | ⟨c4, H⟩ := H
    · obtain rfl := Option.some.inj H
      exact Pr.rf
    · replace H := oi H; obtain ⟨c5, H⟩ | ⟨c5, H⟩ := H
      · obtain rfl := Option.some.inj H
        exact Pr.rf
      · replace H := oi H; obtain ⟨c6, H⟩ | ⟨c6, H⟩ := H
        · replace H := ob H; obtain ⟨q7, c8, H⟩ := H
          have e9 := p_X12_plays c8
          replace H := oi H; obtain ⟨k11, H⟩ | ⟨k11, H⟩ := H
          · obtain rfl := Option.some.inj H
            exact e9
          · replace H := oi H; obtain ⟨k12, H⟩ | ⟨k12, H⟩ := H
            · obtain rfl := Option.some.inj H
              exact e9
            · replace H := oi H; obtain ⟨k13, H⟩ | ⟨k13, H⟩ := H
              · obtain rfl := Option.some.inj H
                exact e9
              · replace H := og H; obtain ⟨g14, H⟩ := H
                replace H := og H; obtain ⟨g15, H⟩ := H
                obtain rfl := Option.some.inj H
                exact e9
        · obtain rfl := Option.some.inj H
          exact Pr.rf
  · obtain rfl := Option.some.inj H
    exact Pr.rf
set_option maxHeartbeats 4000000 in
set_option maxRecDepth 20000 in
theorem t_X12_player {G : GE} (d : Nat) {p1 : Int32} {p2 : Int32} {p3 : Int32} {p4 : Int32} {p5 : Int32} {h : HS} {q : (Int64 × HS)} (hY : LY TM h) (H : f_X12_player p1 p2 p3 p4 p5 h = some q) : CE G (d + 66) yX12_player miX12_player [.ref 60, .int p1, .int p2, .int p3, .int p4, .int p5] h (some (.long q.1)) (q.2) := by
  unfold f_X12_player at H
  refine ce_of rfl (by decide) (fun q => by first | rfl | cases q) (Nat.le_of_ble_eq_true rfl) rfl ?_
  refine g_aload_n dX12_player_0 rfl rfl ?_
  refine e_iload_n dX12_player_1 rfl ?_
  refine e_iload_n dX12_player_2 rfl ?_
  refine e_iload_n dX12_player_3 rfl ?_
  refine e_iload dX12_player_4 rfl ?_
  replace H := ob H; obtain ⟨q1, c2, H⟩ := H
  refine v1 (hY.t 0 rfl) (by decide) rfl rfl lmX12_390 liX12_isPlayer lvX12_X12_isPlayer msX12_isPlayer dX12_player_6 (t_X12_isPlayer (d + 63) hY c2) rfl (Nat.le_of_ble_eq_true rfl) (Nat.le_refl _) ?_
  refine e_ifB_eq (tgt := 36) dX12_player_9 (by decide) (fun c3 => ?_) (fun c3 => ?_)
  · replace H := of_ (nb c3) H
    refine e_ldc2 (v := (-4611686018427387904 : Int64)) lkX12_204 dX12_player_36 ?_
    obtain rfl := Option.some.inj H
    exact z_lret rfl dX12_player_39 rfl rfl
  · replace H := ot c3 H
    refine e_iload dX12_player_12 rfl ?_
    refine e_if_lt (tgt := 36) dX12_player_14 (by decide) (fun c4 => ?_) (fun c4 => ?_)
    · replace H := ot c4 H
      refine e_ldc2 (v := (-4611686018427387904 : Int64)) lkX12_204 dX12_player_36 ?_
      obtain rfl := Option.some.inj H
      exact z_lret rfl dX12_player_39 rfl rfl
    · replace H := of_ c4 H
      refine e_iload dX12_player_17 rfl ?_
      refine e_bipush (v := (10 : Int32)) dX12_player_19 (by decide) ?_
      refine e_idiv dX12_player_21 (by decide) ?_
      refine e_bipush (v := (63 : Int32)) dX12_player_22 (by decide) ?_
      refine e_icmp_gt (tgt := 36) dX12_player_24 (by decide) (fun c5 => ?_) (fun c5 => ?_)
      · replace H := ot c5 H
        refine e_ldc2 (v := (-4611686018427387904 : Int64)) lkX12_204 dX12_player_36 ?_
        obtain rfl := Option.some.inj H
        exact z_lret rfl dX12_player_39 rfl rfl
      · replace H := of_ c5 H
        refine e_iload dX12_player_27 rfl ?_
        refine e_bipush (v := (10 : Int32)) dX12_player_29 (by decide) ?_
        refine e_irem dX12_player_31 (by decide) ?_
        refine e_iconst (v := (3 : Int32)) dX12_player_32 (by decide) ?_
        refine e_icmp_le (tgt := 40) dX12_player_33 (by decide) (fun c6 => ?_) (fun c6 => ?_)
        · replace H := ot c6 H
          refine g_aload_n dX12_player_40 rfl rfl ?_
          refine e_iload_n dX12_player_41 rfl ?_
          refine e_bipush (v := (10 : Int32)) dX12_player_42 (by decide) ?_
          refine e_idiv dX12_player_44 (by decide) ?_
          refine e_iload_n dX12_player_45 rfl ?_
          refine e_bipush (v := (10 : Int32)) dX12_player_46 (by decide) ?_
          refine e_irem dX12_player_48 (by decide) ?_
          refine e_iload_n dX12_player_49 rfl ?_
          refine e_iload_n dX12_player_50 rfl ?_
          refine e_iload dX12_player_51 rfl ?_
          refine e_iload dX12_player_53 rfl ?_
          refine e_bipush (v := (10 : Int32)) dX12_player_55 (by decide) ?_
          refine e_idiv dX12_player_57 (by decide) ?_
          replace H := ob H; obtain ⟨q7, c8, H⟩ := H
          refine v0 (hY.t 0 rfl) (by decide) rfl rfl lmX12_394 liX12_plays lvX12_X12_plays msX12_plays dX12_player_58 (t_X12_plays (d + 0) hY c8) rfl (Nat.le_of_ble_eq_true rfl) (Nat.le_refl _) ?_
          have e9 := p_X12_plays c8
          have hY10 := hY.pr okM e9
          refine e_iload dX12_player_61 rfl ?_
          refine e_bipush (v := (10 : Int32)) dX12_player_63 (by decide) ?_
          refine e_irem dX12_player_65 (by decide) ?_
          by_cases k11 : (p5 - p5 / (10 : Int32) * (10 : Int32)) = (0 : Int32)
          · replace H := ot k11 H
            refine e_tableIn (off := 26) (tgt := 92) dX12_player_66 (by rw [k11]; decide) (by rw [k11]; decide) (by rw [k11]; rfl) (by decide) ?_
            refine g_aload_n dX12_player_92 rfl rfl ?_
            refine e_getI (hY10.t 0 rfl) flX12_381_13 dX12_player_93 rfl ?_
            refine e_i2l dX12_player_96 ?_
            obtain rfl := Option.some.inj H
            exact z_lret rfl dX12_player_97 rfl rfl
          · replace H := of_ k11 H
            by_cases k12 : (p5 - p5 / (10 : Int32) * (10 : Int32)) = (1 : Int32)
            · replace H := ot k12 H
              refine e_tableIn (off := 32) (tgt := 98) dX12_player_66 (by rw [k12]; decide) (by rw [k12]; decide) (by rw [k12]; rfl) (by decide) ?_
              refine g_aload_n dX12_player_98 rfl rfl ?_
              refine e_getI (hY10.t 0 rfl) flX12_384_13 dX12_player_99 rfl ?_
              refine e_i2l dX12_player_102 ?_
              obtain rfl := Option.some.inj H
              exact z_lret rfl dX12_player_103 rfl rfl
            · replace H := of_ k12 H
              by_cases k13 : (p5 - p5 / (10 : Int32) * (10 : Int32)) = (2 : Int32)
              · replace H := ot k13 H
                refine e_tableIn (off := 38) (tgt := 104) dX12_player_66 (by rw [k13]; decide) (by rw [k13]; decide) (by rw [k13]; rfl) (by decide) ?_
                refine g_aload_n dX12_player_104 rfl rfl ?_
                refine e_getI (hY10.t 0 rfl) flX12_387_13 dX12_player_105 rfl ?_
                refine e_i2l dX12_player_108 ?_
                obtain rfl := Option.some.inj H
                exact z_lret rfl dX12_player_109 rfl rfl
              · replace H := of_ k13 H
                refine e_tableOut (tgt := 110) dX12_player_66 (by have q0 : (p5 - p5 / (10 : Int32) * (10 : Int32)).toInt ≠ 0 := i32_ne k11; have q1 : (p5 - p5 / (10 : Int32) * (10 : Int32)).toInt ≠ 1 := i32_ne k12; have q2 : (p5 - p5 / (10 : Int32) * (10 : Int32)).toInt ≠ 2 := i32_ne k13; omega) (by decide) ?_
                refine g_aload_n dX12_player_110 rfl rfl ?_
                refine e_getI (hY10.t 0 rfl) flX12_381_13 dX12_player_111 rfl ?_
                refine e_i2l dX12_player_114 ?_
                refine g_aload_n dX12_player_115 rfl rfl ?_
                refine e_getR (hY10.t 0 rfl) flX12_32_13 dX12_player_116 rfl (hY10.r 6 rfl) ?_
                refine e_iload_n dX12_player_119 rfl ?_
                refine e_bipush (v := (10 : Int32)) dX12_player_120 (by decide) ?_
                refine e_idiv dX12_player_122 (by decide) ?_
                replace H := og H; obtain ⟨g14, H⟩ := H
                refine e_iald (hY10.t 7 rfl) (ixb_y (hY10.n 7 rfl) g14) dX12_player_123 ?_
                refine e_i2l dX12_player_124 ?_
                refine e_lmul dX12_player_125 ?_
                refine g_aload_n dX12_player_126 rfl rfl ?_
                refine e_getI (hY10.t 0 rfl) flX12_384_13 dX12_player_127 rfl ?_
                refine e_i2l dX12_player_130 ?_
                refine g_aload_n dX12_player_131 rfl rfl ?_
                refine e_getR (hY10.t 0 rfl) flX12_35_13 dX12_player_132 rfl (hY10.r 7 rfl) ?_
                refine e_iload_n dX12_player_135 rfl ?_
                refine e_bipush (v := (10 : Int32)) dX12_player_136 (by decide) ?_
                refine e_idiv dX12_player_138 (by decide) ?_
                replace H := og H; obtain ⟨g15, H⟩ := H
                refine e_iald (hY10.t 8 rfl) (ixb_y (hY10.n 8 rfl) g15) dX12_player_139 ?_
                refine e_i2l dX12_player_140 ?_
                refine e_lmul dX12_player_141 ?_
                refine e_lsub dX12_player_142 ?_
                obtain rfl := Option.some.inj H
                exact z_lret rfl dX12_player_143 rfl rfl
        · replace H := of_ c6 H
          refine e_ldc2 (v := (-4611686018427387904 : Int64)) lkX12_204 dX12_player_36 ?_
          obtain rfl := Option.some.inj H
          exact z_lret rfl dX12_player_39 rfl rfl
-- X12_bitsOf
def l_X12_bitsOf_4  : Nat → Int32 → Int32 → Option Int32
  | 0, _, _ => none
  | n + 1, x1, x2 => (if x2 = 0 then (some x1) else (l_X12_bitsOf_4  n (x1 + (1 : Int32)) (x2 &&& (x2 - (1 : Int32)))))
set_option maxHeartbeats 4000000 in
set_option maxRecDepth 20000 in
theorem w_X12_bitsOf_4 {G : GE} (d : Nat)  {h : HS} {r : Option Value} {h' : HS}  : ∀ (n : Nat) {x1 : Int32} {x2 : Int32} {q : Int32}, l_X12_bitsOf_4  n x1 x2 = some q → En G (d + 0) miX12_bitsOf 20 [dum, .int q, dum] [] h r h' → En G (d + 0) miX12_bitsOf 4 [dum, .int x1, .int x2] [] h r h' := by
  intro n
  induction n with
  | zero => intro x1 x2 q H kE; exact nz H
  | succ n ih =>
    intro x1 x2 q H kE
    unfold l_X12_bitsOf_4 at H
    refine e_iload_n dX12_bitsOf_4 rfl ?_
    refine e_if_eq (tgt := 20) dX12_bitsOf_5 (by decide) (fun c2 => ?_) (fun c2 => ?_)
    · replace H := ot c2 H
      obtain rfl := Option.some.inj H
      exact e_wk (lk1 (lk1 (lk0 lkn))) kE
    · replace H := of_ c2 H
      refine e_iinc dX12_bitsOf_8 rfl (ii_ (by decide : Int32.ofInt (1) = (1 : Int32))) (Nat.le_of_ble_eq_true rfl) rfl rfl ?_
      refine e_iload_n dX12_bitsOf_11 rfl ?_
      refine e_iload_n dX12_bitsOf_12 rfl ?_
      refine e_iconst (v := (1 : Int32)) dX12_bitsOf_13 (by decide) ?_
      refine e_isub dX12_bitsOf_14 ?_
      refine e_iand dX12_bitsOf_15 ?_
      refine e_istore_n dX12_bitsOf_16 (Nat.le_of_ble_eq_true rfl) rfl rfl ?_
      refine e_goto (tgt := 4) dX12_bitsOf_17 (by decide) ?_
      exact e_wk (lk1 (lk1 (lk1 lkn))) (ih H kE)
def f_X12_bitsOf (p0 : Int32) : Option Int32 := (Option.bind (l_X12_bitsOf_4  1000 (0 : Int32) p0) (fun q3 => (some q3)))
set_option maxHeartbeats 4000000 in
set_option maxRecDepth 20000 in
theorem t_X12_bitsOf {G : GE} (d : Nat) {p0 : Int32} {h : HS} {q : Int32} (H : f_X12_bitsOf p0 = some q) : CE G (d + 0) yX12_bitsOf miX12_bitsOf [.int p0] h (some (.int q)) (h) := by
  unfold f_X12_bitsOf at H
  refine ce_of rfl (by decide) (fun q => by first | rfl | cases q) (Nat.le_of_ble_eq_true rfl) rfl ?_
  refine e_iconst (v := (0 : Int32)) dX12_bitsOf_0 (by decide) ?_
  refine e_istore_n dX12_bitsOf_1 (Nat.le_of_ble_eq_true rfl) rfl rfl ?_
  refine e_iload_n dX12_bitsOf_2 rfl ?_
  refine e_istore_n dX12_bitsOf_3 (Nat.le_of_ble_eq_true rfl) rfl rfl ?_
  replace H := ob H; obtain ⟨q3, c4, H⟩ := H
  refine e_wk (lk0 (lk1 (lk1 lkn))) (w_X12_bitsOf_4 d 1000 c4 ?_)
  refine e_iload_n dX12_bitsOf_20 rfl ?_
  obtain rfl := Option.some.inj H
  exact z_iret rfl rfl dX12_bitsOf_21 rfl rfl
-- X12_most
def l_X12_most_37 (y1 : Int32) (y2 : Int32) (y3 : Int32) (y4 : Int32) (y5 : Int32)  : Nat → Int32 → Int32 → Int32 → HS → Option (Int32 × HS)
  | 0, _, _, _, _ => none
  | n + 1, x6, x7, x8, h => (if (64 : Int32) ≤ x8 then (some (x6, h)) else (Option.bind (f_X12_bitsOf x8) (fun q17 => (if q17 ≤ y5 then (Option.bind (f_X12_plays (y1 / (10 : Int32)) (y1 - y1 / (10 : Int32) * (10 : Int32)) y2 y3 y4 x8 h) (fun q20 => (if x7 < (hI q20 60 39) then (l_X12_most_37 y1 y2 y3 y4 y5 n x8 (hI q20 60 39) (x8 + (1 : Int32)) q20) else (l_X12_most_37 y1 y2 y3 y4 y5 n x6 x7 (x8 + (1 : Int32)) q20)))) else (l_X12_most_37 y1 y2 y3 y4 y5 n x6 x7 (x8 + (1 : Int32)) h)))))
set_option maxHeartbeats 4000000 in
set_option maxRecDepth 20000 in
theorem p_X12_most_37 {y1 : Int32} {y2 : Int32} {y3 : Int32} {y4 : Int32} {y5 : Int32} : ∀ (n : Nat) {x6 : Int32} {x7 : Int32} {x8 : Int32} {h : HS} {q : (Int32 × HS)}, l_X12_most_37 y1 y2 y3 y4 y5 n x6 x7 x8 h = some q → Pr h q.2 := by
  intro n
  induction n with
  | zero => intro x6 x7 x8 h q H; exact nz H
  | succ n ih =>
    intro x6 x7 x8 h q H
    unfold l_X12_most_37 at H
    replace H := oi H; obtain ⟨c16, H⟩ | ⟨c16, H⟩ := H
    · obtain rfl := Option.some.inj H
      exact Pr.rf
    · replace H := ob H; obtain ⟨q17, c18, H⟩ := H
      replace H := oi H; obtain ⟨c19, H⟩ | ⟨c19, H⟩ := H
      · replace H := ob H; obtain ⟨q20, c21, H⟩ := H
        have e22 := p_X12_plays c21
        replace H := oi H; obtain ⟨c24, H⟩ | ⟨c24, H⟩ := H
        · exact e22.tr (ih H)
        · exact e22.tr (ih H)
      · exact id (ih H)
set_option maxHeartbeats 4000000 in
set_option maxRecDepth 20000 in
theorem w_X12_most_37 {G : GE} (d : Nat) {y1 : Int32} {y2 : Int32} {y3 : Int32} {y4 : Int32} {y5 : Int32} {r : Option Value} {h' : HS}  : ∀ (n : Nat) {x6 : Int32} {x7 : Int32} {x8 : Int32} {h : HS} {q : (Int32 × HS)}, LY TM h → l_X12_most_37 y1 y2 y3 y4 y5 n x6 x7 x8 h = some q → En G (d + 66) miX12_most 103 [dum, dum, dum, dum, dum, dum, .int q.1, dum, dum] [] q.2 r h' → En G (d + 66) miX12_most 37 [.ref 60, .int y1, .int y2, .int y3, .int y4, .int y5, .int x6, .int x7, .int x8] [] h r h' := by
  intro n
  induction n with
  | zero => intro x6 x7 x8 h q hYTM H kE; exact nz H
  | succ n ih =>
    intro x6 x7 x8 h q hYTM H kE
    unfold l_X12_most_37 at H
    refine e_iload dX12_most_37 rfl ?_
    refine e_bipush (v := (64 : Int32)) dX12_most_39 (by decide) ?_
    refine e_icmp_ge (tgt := 103) dX12_most_41 (by decide) (fun c16 => ?_) (fun c16 => ?_)
    · replace H := ot c16 H
      obtain rfl := Option.some.inj H
      exact e_wk (lk0 (lk0 (lk0 (lk0 (lk0 (lk0 (lk1 (lk0 (lk0 lkn))))))))) kE
    · replace H := of_ c16 H
      refine e_iload dX12_most_44 rfl ?_
      replace H := ob H; obtain ⟨q17, c18, H⟩ := H
      refine s1 lmX12_400 lsX12_bitsOf msX12_bitsOf dX12_most_46 (t_X12_bitsOf (d + 65) c18) rfl (Nat.le_of_ble_eq_true rfl) (Nat.le_refl _) ?_
      refine e_iload dX12_most_49 rfl ?_
      refine e_icmp_le (tgt := 57) dX12_most_51 (by decide) (fun c19 => ?_) (fun c19 => ?_)
      · replace H := ot c19 H
        refine g_aload_n dX12_most_57 rfl rfl ?_
        refine e_iload_n dX12_most_58 rfl ?_
        refine e_bipush (v := (10 : Int32)) dX12_most_59 (by decide) ?_
        refine e_idiv dX12_most_61 (by decide) ?_
        refine e_iload_n dX12_most_62 rfl ?_
        refine e_bipush (v := (10 : Int32)) dX12_most_63 (by decide) ?_
        refine e_irem dX12_most_65 (by decide) ?_
        refine e_iload_n dX12_most_66 rfl ?_
        refine e_iload_n dX12_most_67 rfl ?_
        refine e_iload dX12_most_68 rfl ?_
        refine e_iload dX12_most_70 rfl ?_
        replace H := ob H; obtain ⟨q20, c21, H⟩ := H
        refine v0 (hYTM.t 0 rfl) (by decide) rfl rfl lmX12_394 liX12_plays lvX12_X12_plays msX12_plays dX12_most_72 (t_X12_plays (d + 0) hYTM c21) rfl (Nat.le_of_ble_eq_true rfl) (Nat.le_refl _) ?_
        have e22 := p_X12_plays c21
        have hY23 := hYTM.pr okM e22
        refine g_aload_n dX12_most_75 rfl rfl ?_
        refine e_getI (hY23.t 0 rfl) flX12_381_13 dX12_most_76 rfl ?_
        refine e_iload dX12_most_79 rfl ?_
        refine e_icmp_gt (tgt := 87) dX12_most_81 (by decide) (fun c24 => ?_) (fun c24 => ?_)
        · replace H := ot c24 H
          refine g_aload_n dX12_most_87 rfl rfl ?_
          refine e_getI (hY23.t 0 rfl) flX12_381_13 dX12_most_88 rfl ?_
          refine e_istore dX12_most_91 (Nat.le_of_ble_eq_true rfl) rfl rfl ?_
          refine e_iload dX12_most_93 rfl ?_
          refine e_istore dX12_most_95 (Nat.le_of_ble_eq_true rfl) rfl rfl ?_
          refine e_iinc dX12_most_97 rfl (ii_ (by decide : Int32.ofInt (1) = (1 : Int32))) (Nat.le_of_ble_eq_true rfl) rfl rfl ?_
          refine e_goto (tgt := 37) dX12_most_100 (by decide) ?_
          exact e_wk (lk1 (lk1 (lk1 (lk1 (lk1 (lk1 (lk1 (lk1 (lk1 lkn))))))))) (ih hY23 H kE)
        · replace H := of_ c24 H
          refine e_goto (tgt := 97) dX12_most_84 (by decide) ?_
          refine e_iinc dX12_most_97 rfl (ii_ (by decide : Int32.ofInt (1) = (1 : Int32))) (Nat.le_of_ble_eq_true rfl) rfl rfl ?_
          refine e_goto (tgt := 37) dX12_most_100 (by decide) ?_
          exact e_wk (lk1 (lk1 (lk1 (lk1 (lk1 (lk1 (lk1 (lk1 (lk1 lkn))))))))) (ih hY23 H kE)
      · replace H := of_ c19 H
        refine e_goto (tgt := 97) dX12_most_54 (by decide) ?_
        refine e_iinc dX12_most_97 rfl (ii_ (by decide : Int32.ofInt (1) = (1 : Int32))) (Nat.le_of_ble_eq_true rfl) rfl rfl ?_
        refine e_goto (tgt := 37) dX12_most_100 (by decide) ?_
        exact e_wk (lk1 (lk1 (lk1 (lk1 (lk1 (lk1 (lk1 (lk1 (lk1 lkn))))))))) (ih hYTM H kE)
def f_X12_most (p1 : Int32) (p2 : Int32) (p3 : Int32) (p4 : Int32) (p5 : Int32) (h : HS) : Option (Int32 × HS) := (Option.bind (f_X12_isPlayer p1 p2 p3 p4 h) (fun q1 => (if q1 = true then (Option.bind (f_X12_in p5.toInt64 (0 : Int64) (6 : Int64)) (fun q4 => (if q4 = true then (Option.bind (l_X12_most_37 p1 p2 p3 p4 p5 1000 (0 : Int32) (-1 : Int32) (0 : Int32) h) (fun q25 => (some (q25.1, q25.2)))) else (some ((-2 : Int32), h))))) else (some ((-2 : Int32), h)))))
set_option maxHeartbeats 4000000 in
set_option maxRecDepth 20000 in
theorem p_X12_most {p1 : Int32} {p2 : Int32} {p3 : Int32} {p4 : Int32} {p5 : Int32} {h : HS} {q : (Int32 × HS)} (H : f_X12_most p1 p2 p3 p4 p5 h = some q) : Pr h q.2 := by
  unfold f_X12_most at H
  replace H := ob H; obtain ⟨q1, c2, H⟩ := H
  replace H := oi H; obtain ⟨c3, H⟩ | ⟨c3, H⟩ := H
  · replace H := ob H; obtain ⟨q4, c5, H⟩ := H
    replace H := oi H; obtain ⟨c6, H⟩ | ⟨c6, H⟩ := H
    · replace H := ob H; obtain ⟨q25, c26, H⟩ := H
      have e27 := p_X12_most_37 1000 c26
      obtain rfl := Option.some.inj H
      exact e27
    · obtain rfl := Option.some.inj H
      exact Pr.rf
  · obtain rfl := Option.some.inj H
    exact Pr.rf
set_option maxHeartbeats 4000000 in
set_option maxRecDepth 20000 in
theorem t_X12_most {G : GE} (d : Nat) {p1 : Int32} {p2 : Int32} {p3 : Int32} {p4 : Int32} {p5 : Int32} {h : HS} {q : (Int32 × HS)} (hY : LY TM h) (H : f_X12_most p1 p2 p3 p4 p5 h = some q) : CE G (d + 66) yX12_most miX12_most [.ref 60, .int p1, .int p2, .int p3, .int p4, .int p5] h (some (.int q.1)) (q.2) := by
  unfold f_X12_most at H
  refine ce_of rfl (by decide) (fun q => by first | rfl | cases q) (Nat.le_of_ble_eq_true rfl) rfl ?_
  refine g_aload_n dX12_most_0 rfl rfl ?_
  refine e_iload_n dX12_most_1 rfl ?_
  refine e_iload_n dX12_most_2 rfl ?_
  refine e_iload_n dX12_most_3 rfl ?_
  refine e_iload dX12_most_4 rfl ?_
  replace H := ob H; obtain ⟨q1, c2, H⟩ := H
  refine v1 (hY.t 0 rfl) (by decide) rfl rfl lmX12_390 liX12_isPlayer lvX12_X12_isPlayer msX12_isPlayer dX12_most_6 (t_X12_isPlayer (d + 63) hY c2) rfl (Nat.le_of_ble_eq_true rfl) (Nat.le_refl _) ?_
  refine e_ifB_eq (tgt := 25) dX12_most_9 (by decide) (fun c3 => ?_) (fun c3 => ?_)
  · replace H := of_ (nb c3) H
    refine e_bipush (v := (-2 : Int32)) dX12_most_25 (by decide) ?_
    obtain rfl := Option.some.inj H
    exact z_iret rfl rfl dX12_most_27 rfl rfl
  · replace H := ot c3 H
    refine e_iload dX12_most_12 rfl ?_
    refine e_i2l dX12_most_14 ?_
    refine e_lconst (v := (0 : Int64)) dX12_most_15 (by decide) ?_
    refine e_ldc2 (v := (6 : Int64)) lkX12_398 dX12_most_16 ?_
    replace H := ob H; obtain ⟨q4, c5, H⟩ := H
    refine s1 lmX12_125 lsX12_in msX12_in dX12_most_19 (t_X12_in (d + 65) c5) rfl (Nat.le_of_ble_eq_true rfl) (Nat.le_refl _) ?_
    refine e_ifB_ne (tgt := 28) dX12_most_22 (by decide) (fun c6 => ?_) (fun c6 => ?_)
    · replace H := ot c6 H
      refine e_iconst (v := (0 : Int32)) dX12_most_28 (by decide) ?_
      refine e_istore dX12_most_29 (Nat.le_of_ble_eq_true rfl) rfl rfl ?_
      refine e_iconst (v := (-1 : Int32)) dX12_most_31 (by decide) ?_
      refine e_istore dX12_most_32 (Nat.le_of_ble_eq_true rfl) rfl rfl ?_
      refine e_iconst (v := (0 : Int32)) dX12_most_34 (by decide) ?_
      refine e_istore dX12_most_35 (Nat.le_of_ble_eq_true rfl) rfl rfl ?_
      replace H := ob H; obtain ⟨q25, c26, H⟩ := H
      have e27 := p_X12_most_37 1000 c26
      have hY28 := hY.pr okM e27
      refine e_wk (lk1 (lk1 (lk1 (lk1 (lk1 (lk1 (lk1 (lk1 (lk1 lkn))))))))) (w_X12_most_37 d 1000 hY c26 ?_)
      refine e_iload dX12_most_103 rfl ?_
      obtain rfl := Option.some.inj H
      exact z_iret rfl rfl dX12_most_105 rfl rfl
    · replace H := of_ (nb c6) H
      refine e_bipush (v := (-2 : Int32)) dX12_most_25 (by decide) ?_
      obtain rfl := Option.some.inj H
      exact z_iret rfl rfl dX12_most_27 rfl rfl
-- X12_test
def l_X12_test_32 (y1 : Int32) (y2 : Int32) (h : HS)  : Nat → Int32 → Int32 → Option ((Int32 × HS) ⊕ Unit)
  | 0, _, _ => none
  | n + 1, x3, x4 => (if (6 : Int32) ≤ x4 then (some (Sum.inr ())) else (if (x3 - x3 / (10 : Int32) * (10 : Int32)) ≤ (3 : Int32) then (l_X12_test_32 y1 y2 h n (x3 / (10 : Int32)) (x4 + (1 : Int32))) else (some (Sum.inl ((-2 : Int32), h)))))
set_option maxHeartbeats 4000000 in
set_option maxRecDepth 20000 in
theorem p_X12_test_32 {y1 : Int32} {y2 : Int32} {h : HS} : ∀ (n : Nat) {x3 : Int32} {x4 : Int32} {q : ((Int32 × HS) ⊕ Unit)}, l_X12_test_32 y1 y2 h n x3 x4 = some q → Pr h (Sum.elim (fun v => v.2) (fun e => h) q) := by
  intro n
  induction n with
  | zero => intro x3 x4 q H; exact nz H
  | succ n ih =>
    intro x3 x4 q H
    unfold l_X12_test_32 at H
    replace H := oi H; obtain ⟨c9, H⟩ | ⟨c9, H⟩ := H
    · obtain rfl := Option.some.inj H
      exact Pr.rf
    · replace H := oi H; obtain ⟨c10, H⟩ | ⟨c10, H⟩ := H
      · exact id (ih H)
      · obtain rfl := Option.some.inj H
        exact Pr.rf
set_option maxHeartbeats 4000000 in
set_option maxRecDepth 20000 in
theorem w_X12_test_32 {G : GE} (d : Nat) {y1 : Int32} {y2 : Int32} {h : HS} {r : Option Value} {h' : HS} (hYTM : LY TM h) : ∀ (n : Nat) {x3 : Int32} {x4 : Int32} {q : ((Int32 × HS) ⊕ Unit)}, l_X12_test_32 y1 y2 h n x3 x4 = some q → (∀ v, q = Sum.inl v → r = some (.int v.1) ∧ h' = v.2) → (∀ e, q = Sum.inr e → En G (d + 1) miX12_test 61 [.ref 60, .int y1, .int y2, dum, dum] [] h r h') → En G (d + 1) miX12_test 32 [.ref 60, .int y1, .int y2, .int x3, .int x4] [] h r h' := by
  intro n
  induction n with
  | zero => intro x3 x4 q H kR kE; exact nz H
  | succ n ih =>
    intro x3 x4 q H kR kE
    unfold l_X12_test_32 at H
    refine e_iload dX12_test_32 rfl ?_
    refine e_bipush (v := (6 : Int32)) dX12_test_34 (by decide) ?_
    refine e_icmp_ge (tgt := 61) dX12_test_36 (by decide) (fun c9 => ?_) (fun c9 => ?_)
    · replace H := ot c9 H
      obtain rfl := Option.some.inj H
      exact e_wk (lk1 (lk1 (lk1 (lk0 (lk0 lkn))))) (kE _ rfl)
    · replace H := of_ c9 H
      refine e_iload_n dX12_test_39 rfl ?_
      refine e_bipush (v := (10 : Int32)) dX12_test_40 (by decide) ?_
      refine e_irem dX12_test_42 (by decide) ?_
      refine e_iconst (v := (3 : Int32)) dX12_test_43 (by decide) ?_
      refine e_icmp_le (tgt := 50) dX12_test_44 (by decide) (fun c10 => ?_) (fun c10 => ?_)
      · replace H := ot c10 H
        refine e_iload_n dX12_test_50 rfl ?_
        refine e_bipush (v := (10 : Int32)) dX12_test_51 (by decide) ?_
        refine e_idiv dX12_test_53 (by decide) ?_
        refine e_istore_n dX12_test_54 (Nat.le_of_ble_eq_true rfl) rfl rfl ?_
        refine e_iinc dX12_test_55 rfl (ii_ (by decide : Int32.ofInt (1) = (1 : Int32))) (Nat.le_of_ble_eq_true rfl) rfl rfl ?_
        refine e_goto (tgt := 32) dX12_test_58 (by decide) ?_
        exact e_wk (lk1 (lk1 (lk1 (lk1 (lk1 lkn))))) (ih H kR kE)
      · replace H := of_ c10 H
        refine e_bipush (v := (-2 : Int32)) dX12_test_47 (by decide) ?_
        obtain rfl := Option.some.inj H
        obtain ⟨eR, eH⟩ := kR _ rfl
        exact z_iret rfl rfl dX12_test_49 eR eH
def l_X12_test_88  : Nat → Int32 → Int32 → HS → Option HS
  | 0, _, _, _ => none
  | n + 1, x3, x4, h => (if x4 < 0 then (some h) else (if ixb (((6 : Int32) * (hI h 60 44)) + x4) 36 = true then (l_X12_test_88  n (x3 / (10 : Int32)) (x4 + (-1 : Int32)) (sI h 80 (((6 : Int32) * (hI h 60 44)) + x4).toNatClampNeg (x3 - x3 / (10 : Int32) * (10 : Int32)))) else none))
set_option maxHeartbeats 4000000 in
set_option maxRecDepth 20000 in
theorem p_X12_test_88  : ∀ (n : Nat) {x3 : Int32} {x4 : Int32} {h : HS} {q : HS}, l_X12_test_88  n x3 x4 h = some q → Pr h q := by
  intro n
  induction n with
  | zero => intro x3 x4 h q H; exact nz H
  | succ n ih =>
    intro x3 x4 h q H
    unfold l_X12_test_88 at H
    replace H := oi H; obtain ⟨c18, H⟩ | ⟨c18, H⟩ := H
    · obtain rfl := Option.some.inj H
      exact Pr.rf
    · replace H := og H; obtain ⟨g19, H⟩ := H
      exact (Pr.rf.sI).tr (ih H)
set_option maxHeartbeats 4000000 in
set_option maxRecDepth 20000 in
theorem w_X12_test_88 {G : GE} (d : Nat)  {r : Option Value} {h' : HS}  : ∀ (n : Nat) {x3 : Int32} {x4 : Int32} {h : HS} {q : HS}, LY TM h → l_X12_test_88  n x3 x4 h = some q → En G (d + 1) miX12_test 123 [.ref 60, dum, dum, dum, dum] [] q r h' → En G (d + 1) miX12_test 88 [.ref 60, dum, dum, .int x3, .int x4] [] h r h' := by
  intro n
  induction n with
  | zero => intro x3 x4 h q hYTM H kE; exact nz H
  | succ n ih =>
    intro x3 x4 h q hYTM H kE
    unfold l_X12_test_88 at H
    refine e_iload dX12_test_88 rfl ?_
    refine e_if_lt (tgt := 123) dX12_test_90 (by decide) (fun c18 => ?_) (fun c18 => ?_)
    · replace H := ot c18 H
      obtain rfl := Option.some.inj H
      exact e_wk (lk1 (lk1 (lk1 (lk0 (lk0 lkn))))) kE
    · replace H := of_ c18 H
      refine g_aload_n dX12_test_93 rfl rfl ?_
      refine e_getR (hYTM.t 0 rfl) flX12_71_13 dX12_test_94 rfl (hYTM.r 19 rfl) ?_
      refine e_bipush (v := (6 : Int32)) dX12_test_97 (by decide) ?_
      refine g_aload_n dX12_test_99 rfl rfl ?_
      refine e_getI (hYTM.t 0 rfl) flX12_407_13 dX12_test_100 rfl ?_
      refine e_imul dX12_test_103 ?_
      refine e_iload dX12_test_104 rfl ?_
      refine e_iadd dX12_test_106 ?_
      refine e_iload_n dX12_test_107 rfl ?_
      refine e_bipush (v := (10 : Int32)) dX12_test_108 (by decide) ?_
      refine e_irem dX12_test_110 (by decide) ?_
      replace H := og H; obtain ⟨g19, H⟩ := H
      refine e_iast (hYTM.t 20 rfl) (ixb_y (hYTM.n 20 rfl) g19) dX12_test_111 ?_
      refine e_iload_n dX12_test_112 rfl ?_
      refine e_bipush (v := (10 : Int32)) dX12_test_113 (by decide) ?_
      refine e_idiv dX12_test_115 (by decide) ?_
      refine e_istore_n dX12_test_116 (Nat.le_of_ble_eq_true rfl) rfl rfl ?_
      refine e_iinc dX12_test_117 rfl (ii_ (by decide : Int32.ofInt (-1) = (-1 : Int32))) (Nat.le_of_ble_eq_true rfl) rfl rfl ?_
      refine e_goto (tgt := 88) dX12_test_120 (by decide) ?_
      exact e_wk (lk1 (lk1 (lk1 (lk1 (lk1 lkn))))) (ih (hYTM.sI) H kE)
def f_X12_test (p1 : Int32) (p2 : Int32) (h : HS) : Option (Int32 × HS) := (Option.bind (f_X12_in p1.toInt64 (1 : Int64) (20 : Int64)) (fun q1 => (if q1 = true then (Option.bind (f_X12_in p2.toInt64 (0 : Int64) (333333 : Int64)) (fun q4 => (if q4 = true then (Option.bind (l_X12_test_32 p1 p2 h 1000 p2 (0 : Int32)) (fun q11 => (Sum.elim (fun v => some v) (fun e13 => (if (hI h 60 44) = (6 : Int32) then (some ((-4 : Int32), h)) else (if ixb (hI h 60 44) 6 = true then (Option.bind (l_X12_test_88  1000 p2 (5 : Int32) (sI h 79 (hI h 60 44).toNatClampNeg p1)) (fun q20 => (some (((hI (sI q20 60 44 ((hI q20 60 44) + (1 : Int32))) 60 44) - (1 : Int32)), (sI q20 60 44 ((hI q20 60 44) + (1 : Int32))))))) else none))) q11))) else (some ((-2 : Int32), h))))) else (some ((-2 : Int32), h)))))
set_option maxHeartbeats 4000000 in
set_option maxRecDepth 20000 in
theorem p_X12_test {p1 : Int32} {p2 : Int32} {h : HS} {q : (Int32 × HS)} (H : f_X12_test p1 p2 h = some q) : Pr h q.2 := by
  unfold f_X12_test at H
  replace H := ob H; obtain ⟨q1, c2, H⟩ := H
  replace H := oi H; obtain ⟨c3, H⟩ | ⟨c3, H⟩ := H
  · replace H := ob H; obtain ⟨q4, c5, H⟩ := H
    replace H := oi H; obtain ⟨c6, H⟩ | ⟨c6, H⟩ := H
    · replace H := ob H; obtain ⟨q11, c12, H⟩ := H
      rcases q11 with v24 | e13
      · replace H := oSl H; obtain rfl := Option.some.inj H
        exact p_X12_test_32 1000 c12
      · replace H := oSr H
        replace H := oi H; obtain ⟨c14, H⟩ | ⟨c14, H⟩ := H
        · obtain rfl := Option.some.inj H
          exact Pr.rf
        · replace H := og H; obtain ⟨g15, H⟩ := H
          replace H := ob H; obtain ⟨q20, c21, H⟩ := H
          have e22 := p_X12_test_88 1000 c21
          obtain rfl := Option.some.inj H
          exact (((Pr.rf.sI).tr e22).sI)
    · obtain rfl := Option.some.inj H
      exact Pr.rf
  · obtain rfl := Option.some.inj H
    exact Pr.rf
set_option maxHeartbeats 4000000 in
set_option maxRecDepth 20000 in
theorem t_X12_test {G : GE} (d : Nat) {p1 : Int32} {p2 : Int32} {h : HS} {q : (Int32 × HS)} (hY : LY TM h) (H : f_X12_test p1 p2 h = some q) : CE G (d + 1) yX12_test miX12_test [.ref 60, .int p1, .int p2] h (some (.int q.1)) (q.2) := by
  unfold f_X12_test at H
  refine ce_of rfl (by decide) (fun q => by first | rfl | cases q) (Nat.le_of_ble_eq_true rfl) rfl ?_
  refine e_iload_n dX12_test_0 rfl ?_
  refine e_i2l dX12_test_1 ?_
  refine e_lconst (v := (1 : Int64)) dX12_test_2 (by decide) ?_
  refine e_ldc2 (v := (20 : Int64)) lkX12_403 dX12_test_3 ?_
  replace H := ob H; obtain ⟨q1, c2, H⟩ := H
  refine s1 lmX12_125 lsX12_in msX12_in dX12_test_6 (t_X12_in (d + 0) c2) rfl (Nat.le_of_ble_eq_true rfl) (Nat.le_refl _) ?_
  refine e_ifB_eq (tgt := 24) dX12_test_9 (by decide) (fun c3 => ?_) (fun c3 => ?_)
  · replace H := of_ (nb c3) H
    refine e_bipush (v := (-2 : Int32)) dX12_test_24 (by decide) ?_
    obtain rfl := Option.some.inj H
    exact z_iret rfl rfl dX12_test_26 rfl rfl
  · replace H := ot c3 H
    refine e_iload_n dX12_test_12 rfl ?_
    refine e_i2l dX12_test_13 ?_
    refine e_lconst (v := (0 : Int64)) dX12_test_14 (by decide) ?_
    refine e_ldc2 (v := (333333 : Int64)) lkX12_405 dX12_test_15 ?_
    replace H := ob H; obtain ⟨q4, c5, H⟩ := H
    refine s1 lmX12_125 lsX12_in msX12_in dX12_test_18 (t_X12_in (d + 0) c5) rfl (Nat.le_of_ble_eq_true rfl) (Nat.le_refl _) ?_
    refine e_ifB_ne (tgt := 27) dX12_test_21 (by decide) (fun c6 => ?_) (fun c6 => ?_)
    · replace H := ot c6 H
      refine e_iload_n dX12_test_27 rfl ?_
      refine e_istore_n dX12_test_28 (Nat.le_of_ble_eq_true rfl) rfl rfl ?_
      refine e_iconst (v := (0 : Int32)) dX12_test_29 (by decide) ?_
      refine e_istore dX12_test_30 (Nat.le_of_ble_eq_true rfl) rfl rfl ?_
      replace H := ob H; obtain ⟨q11, c12, H⟩ := H
      refine e_wk (lk1 (lk1 (lk1 (lk1 (lk1 lkn))))) (w_X12_test_32 d hY 1000 c12 (fun v24 E0 => ?_) (fun e13 E0 => ?_))
      · subst E0; replace H := oSl H; obtain rfl := Option.some.inj H
        exact ⟨rfl, rfl⟩
      · subst E0; replace H := oSr H
        refine g_aload_n dX12_test_61 rfl rfl ?_
        refine e_getI (hY.t 0 rfl) flX12_407_13 dX12_test_62 rfl ?_
        refine e_bipush (v := (6 : Int32)) dX12_test_65 (by decide) ?_
        refine e_icmp_ne (tgt := 73) dX12_test_67 (by decide) (fun c14 => ?_) (fun c14 => ?_)
        · replace H := of_ c14 H
          refine g_aload_n dX12_test_73 rfl rfl ?_
          refine e_getR (hY.t 0 rfl) flX12_68_13 dX12_test_74 rfl (hY.r 18 rfl) ?_
          refine g_aload_n dX12_test_77 rfl rfl ?_
          refine e_getI (hY.t 0 rfl) flX12_407_13 dX12_test_78 rfl ?_
          refine e_iload_n dX12_test_81 rfl ?_
          replace H := og H; obtain ⟨g15, H⟩ := H
          refine e_iast (hY.t 19 rfl) (ixb_y (hY.n 19 rfl) g15) dX12_test_82 ?_
          refine e_iload_n dX12_test_83 rfl ?_
          refine e_istore_n dX12_test_84 (Nat.le_of_ble_eq_true rfl) rfl rfl ?_
          refine e_iconst (v := (5 : Int32)) dX12_test_85 (by decide) ?_
          refine e_istore dX12_test_86 (Nat.le_of_ble_eq_true rfl) rfl rfl ?_
          replace H := ob H; obtain ⟨q20, c21, H⟩ := H
          have e22 := p_X12_test_88 1000 c21
          have hY23 := (hY.sI).pr okM e22
          refine e_wk (lk1 (lk0 (lk0 (lk1 (lk1 lkn))))) (w_X12_test_88 d 1000 (hY.sI) c21 ?_)
          refine g_aload_n dX12_test_123 rfl rfl ?_
          refine e_dup dX12_test_124 rfl ?_
          refine e_getI (hY23.t 0 rfl) flX12_407_13 dX12_test_125 rfl ?_
          refine e_iconst (v := (1 : Int32)) dX12_test_128 (by decide) ?_
          refine e_iadd dX12_test_129 ?_
          refine e_putI (hY23.t 0 rfl) fpX12_407_13 rfl dX12_test_130 ?_
          refine g_aload_n dX12_test_133 rfl rfl ?_
          refine e_getI ((hY23.sI).t 0 rfl) flX12_407_13 dX12_test_134 rfl ?_
          refine e_iconst (v := (1 : Int32)) dX12_test_137 (by decide) ?_
          refine e_isub dX12_test_138 ?_
          obtain rfl := Option.some.inj H
          exact z_iret rfl rfl dX12_test_139 rfl rfl
        · replace H := ot c14 H
          refine e_bipush (v := (-4 : Int32)) dX12_test_70 (by decide) ?_
          obtain rfl := Option.some.inj H
          exact z_iret rfl rfl dX12_test_72 rfl rfl
    · replace H := of_ (nb c6) H
      refine e_bipush (v := (-2 : Int32)) dX12_test_24 (by decide) ?_
      obtain rfl := Option.some.inj H
      exact z_iret rfl rfl dX12_test_26 rfl rfl
-- X12_isParted
def l_X12_isParted_25 (y1 : Int32) (y2 : Int32) (y3 : Int32) (h : HS)  : Nat → Int32 → Int32 → Option Int32
  | 0, _, _ => none
  | n + 1, x4, x5 => (if (hI h 60 44) ≤ x5 then (some x4) else (if x4 = 0 then (if ((y3 >>> (x5 &&& 31)) &&& (1 : Int32)) = (1 : Int32) then (if ixb y1 8 = true then (if ixb (((6 : Int32) * x5) + (hI h 64 y1.toNatClampNeg)) 36 = true then (if ixb y2 8 = true then (if ixb (((6 : Int32) * x5) + (hI h 64 y2.toNatClampNeg)) 36 = true then (if (hI h 80 (((6 : Int32) * x5) + (hI h 64 y1.toNatClampNeg)).toNatClampNeg) = (hI h 80 (((6 : Int32) * x5) + (hI h 64 y2.toNatClampNeg)).toNatClampNeg) then (l_X12_isParted_25 y1 y2 y3 h n (0 : Int32) (x5 + (1 : Int32))) else (l_X12_isParted_25 y1 y2 y3 h n (1 : Int32) (x5 + (1 : Int32)))) else none) else none) else none) else none) else (l_X12_isParted_25 y1 y2 y3 h n (0 : Int32) (x5 + (1 : Int32)))) else (l_X12_isParted_25 y1 y2 y3 h n (1 : Int32) (x5 + (1 : Int32)))))
set_option maxHeartbeats 4000000 in
set_option maxRecDepth 20000 in
theorem w_X12_isParted_25 {G : GE} (d : Nat) {y1 : Int32} {y2 : Int32} {y3 : Int32} {h : HS} {r : Option Value} {h' : HS} (hYTM : LY TM h) : ∀ (n : Nat) {x4 : Int32} {x5 : Int32} {q : Int32}, l_X12_isParted_25 y1 y2 y3 h n x4 x5 = some q → En G (d + 0) miX12_isParted 99 [dum, dum, dum, dum, .int q, dum] [] h r h' → En G (d + 0) miX12_isParted 25 [.ref 60, .int y1, .int y2, .int y3, .int x4, .int x5] [] h r h' := by
  intro n
  induction n with
  | zero => intro x4 x5 q H kE; exact nz H
  | succ n ih =>
    intro x4 x5 q H kE
    unfold l_X12_isParted_25 at H
    refine e_iload dX12_isParted_25 rfl ?_
    refine g_aload_n dX12_isParted_27 rfl rfl ?_
    refine e_getI (hYTM.t 0 rfl) flX12_407_13 dX12_isParted_28 rfl ?_
    refine e_icmp_ge (tgt := 99) dX12_isParted_31 (by decide) (fun c15 => ?_) (fun c15 => ?_)
    · replace H := ot c15 H
      obtain rfl := Option.some.inj H
      exact e_wk (lk0 (lk0 (lk0 (lk0 (lk1 (lk0 lkn)))))) kE
    · replace H := of_ c15 H
      refine e_iload dX12_isParted_34 rfl ?_
      refine e_if_ne (tgt := 86) dX12_isParted_36 (by decide) (fun c16 => ?_) (fun c16 => ?_)
      · replace H := of_ c16 H
        refine e_iconst (v := (1 : Int32)) dX12_isParted_86 (by decide) ?_
        refine e_goto (tgt := 91) dX12_isParted_87 (by decide) ?_
        refine e_istore dX12_isParted_91 (Nat.le_of_ble_eq_true rfl) rfl rfl ?_
        refine e_iinc dX12_isParted_93 rfl (ii_ (by decide : Int32.ofInt (1) = (1 : Int32))) (Nat.le_of_ble_eq_true rfl) rfl rfl ?_
        refine e_goto (tgt := 25) dX12_isParted_96 (by decide) ?_
        exact e_wk (lk1 (lk1 (lk1 (lk1 (lk1 (lk1 lkn)))))) (ih H kE)
      · replace H := ot c16 H
        refine e_iload_n dX12_isParted_39 rfl ?_
        refine e_iload dX12_isParted_40 rfl ?_
        refine e_ishr dX12_isParted_42 ?_
        refine e_iconst (v := (1 : Int32)) dX12_isParted_43 (by decide) ?_
        refine e_iand dX12_isParted_44 ?_
        refine e_iconst (v := (1 : Int32)) dX12_isParted_45 (by decide) ?_
        refine e_icmp_ne (tgt := 90) dX12_isParted_46 (by decide) (fun c17 => ?_) (fun c17 => ?_)
        · replace H := of_ c17 H
          refine e_iconst (v := (0 : Int32)) dX12_isParted_90 (by decide) ?_
          refine e_istore dX12_isParted_91 (Nat.le_of_ble_eq_true rfl) rfl rfl ?_
          refine e_iinc dX12_isParted_93 rfl (ii_ (by decide : Int32.ofInt (1) = (1 : Int32))) (Nat.le_of_ble_eq_true rfl) rfl rfl ?_
          refine e_goto (tgt := 25) dX12_isParted_96 (by decide) ?_
          exact e_wk (lk1 (lk1 (lk1 (lk1 (lk1 (lk1 lkn)))))) (ih H kE)
        · replace H := ot c17 H
          refine g_aload_n dX12_isParted_49 rfl rfl ?_
          refine e_getR (hYTM.t 0 rfl) flX12_71_13 dX12_isParted_50 rfl (hYTM.r 19 rfl) ?_
          refine e_bipush (v := (6 : Int32)) dX12_isParted_53 (by decide) ?_
          refine e_iload dX12_isParted_55 rfl ?_
          refine e_imul dX12_isParted_57 ?_
          refine g_aload_n dX12_isParted_58 rfl rfl ?_
          refine e_getR (hYTM.t 0 rfl) flX12_23_13 dX12_isParted_59 rfl (hYTM.r 3 rfl) ?_
          refine e_iload_n dX12_isParted_62 rfl ?_
          replace H := og H; obtain ⟨g18, H⟩ := H
          refine e_iald (hYTM.t 4 rfl) (ixb_y (hYTM.n 4 rfl) g18) dX12_isParted_63 ?_
          refine e_iadd dX12_isParted_64 ?_
          replace H := og H; obtain ⟨g19, H⟩ := H
          refine e_iald (hYTM.t 20 rfl) (ixb_y (hYTM.n 20 rfl) g19) dX12_isParted_65 ?_
          refine g_aload_n dX12_isParted_66 rfl rfl ?_
          refine e_getR (hYTM.t 0 rfl) flX12_71_13 dX12_isParted_67 rfl (hYTM.r 19 rfl) ?_
          refine e_bipush (v := (6 : Int32)) dX12_isParted_70 (by decide) ?_
          refine e_iload dX12_isParted_72 rfl ?_
          refine e_imul dX12_isParted_74 ?_
          refine g_aload_n dX12_isParted_75 rfl rfl ?_
          refine e_getR (hYTM.t 0 rfl) flX12_23_13 dX12_isParted_76 rfl (hYTM.r 3 rfl) ?_
          refine e_iload_n dX12_isParted_79 rfl ?_
          replace H := og H; obtain ⟨g20, H⟩ := H
          refine e_iald (hYTM.t 4 rfl) (ixb_y (hYTM.n 4 rfl) g20) dX12_isParted_80 ?_
          refine e_iadd dX12_isParted_81 ?_
          replace H := og H; obtain ⟨g21, H⟩ := H
          refine e_iald (hYTM.t 20 rfl) (ixb_y (hYTM.n 20 rfl) g21) dX12_isParted_82 ?_
          refine e_icmp_eq (tgt := 90) dX12_isParted_83 (by decide) (fun c22 => ?_) (fun c22 => ?_)
          · replace H := ot c22 H
            refine e_iconst (v := (0 : Int32)) dX12_isParted_90 (by decide) ?_
            refine e_istore dX12_isParted_91 (Nat.le_of_ble_eq_true rfl) rfl rfl ?_
            refine e_iinc dX12_isParted_93 rfl (ii_ (by decide : Int32.ofInt (1) = (1 : Int32))) (Nat.le_of_ble_eq_true rfl) rfl rfl ?_
            refine e_goto (tgt := 25) dX12_isParted_96 (by decide) ?_
            exact e_wk (lk1 (lk1 (lk1 (lk1 (lk1 (lk1 lkn)))))) (ih H kE)
          · replace H := of_ c22 H
            refine e_iconst (v := (1 : Int32)) dX12_isParted_86 (by decide) ?_
            refine e_goto (tgt := 91) dX12_isParted_87 (by decide) ?_
            refine e_istore dX12_isParted_91 (Nat.le_of_ble_eq_true rfl) rfl rfl ?_
            refine e_iinc dX12_isParted_93 rfl (ii_ (by decide : Int32.ofInt (1) = (1 : Int32))) (Nat.le_of_ble_eq_true rfl) rfl rfl ?_
            refine e_goto (tgt := 25) dX12_isParted_96 (by decide) ?_
            exact e_wk (lk1 (lk1 (lk1 (lk1 (lk1 (lk1 lkn)))))) (ih H kE)
def f_X12_isParted (p1 : Int32) (p2 : Int32) (p3 : Int32) (h : HS) : Option Bool := (if ixb p1 8 = true then (if ixb p2 8 = true then (Option.bind (if (hI h 64 p1.toNatClampNeg) = (hI h 64 p2.toNatClampNeg) then (some (1 : Int32)) else (some (0 : Int32))) (fun q4 => (Option.bind (l_X12_isParted_25 p1 p2 p3 h 1000 q4 (0 : Int32)) (fun q23 => (if z01 q23 = true then (some (decide (q23 = 1))) else none))))) else none) else none)
set_option maxHeartbeats 4000000 in
set_option maxRecDepth 20000 in
theorem t_X12_isParted {G : GE} (d : Nat) {p1 : Int32} {p2 : Int32} {p3 : Int32} {h : HS} {q : Bool} (hY : LY TM h) (H : f_X12_isParted p1 p2 p3 h = some q) : CE G (d + 0) yX12_isParted miX12_isParted [.ref 60, .int p1, .int p2, .int p3] h (some (.int (b2i q))) (h) := by
  unfold f_X12_isParted at H
  refine ce_of rfl (by decide) (fun q => by first | rfl | cases q) (Nat.le_of_ble_eq_true rfl) rfl ?_
  refine g_aload_n dX12_isParted_0 rfl rfl ?_
  refine e_getR (hY.t 0 rfl) flX12_23_13 dX12_isParted_1 rfl (hY.r 3 rfl) ?_
  refine e_iload_n dX12_isParted_4 rfl ?_
  replace H := og H; obtain ⟨g1, H⟩ := H
  refine e_iald (hY.t 4 rfl) (ixb_y (hY.n 4 rfl) g1) dX12_isParted_5 ?_
  refine g_aload_n dX12_isParted_6 rfl rfl ?_
  refine e_getR (hY.t 0 rfl) flX12_23_13 dX12_isParted_7 rfl (hY.r 3 rfl) ?_
  refine e_iload_n dX12_isParted_10 rfl ?_
  replace H := og H; obtain ⟨g2, H⟩ := H
  refine e_iald (hY.t 4 rfl) (ixb_y (hY.n 4 rfl) g2) dX12_isParted_11 ?_
  replace H := ob H; obtain ⟨q4, c6, H⟩ := H
  have k5 : En G (d + 0) miX12_isParted 20 [.ref 60, .int p1, .int p2, .int p3, dum, dum] [.int q4] h (some (.int (b2i q))) (h) := by
    refine e_istore dX12_isParted_20 (Nat.le_of_ble_eq_true rfl) rfl rfl ?_
    refine e_iconst (v := (0 : Int32)) dX12_isParted_22 (by decide) ?_
    refine e_istore dX12_isParted_23 (Nat.le_of_ble_eq_true rfl) rfl rfl ?_
    replace H := ob H; obtain ⟨q23, c24, H⟩ := H
    refine e_wk (lk1 (lk1 (lk1 (lk1 (lk1 (lk1 lkn)))))) (w_X12_isParted_25 d hY 1000 c24 ?_)
    refine e_iload dX12_isParted_99 rfl ?_
    replace H := og H; obtain ⟨g25, H⟩ := H
    refine e_ci (z01_b g25) ?_
    obtain rfl := Option.some.inj H
    exact z_bret rfl dX12_isParted_101 rfl rfl
  replace H := c6
  refine e_icmp_ne (tgt := 19) dX12_isParted_12 (by decide) (fun c3 => ?_) (fun c3 => ?_)
  · replace H := of_ c3 H
    refine e_iconst (v := (0 : Int32)) dX12_isParted_19 (by decide) ?_
    obtain rfl := Option.some.inj H
    exact e_wk (lk1 (lk1 (lk1 (lk1 (lk1 (lk1 lkn)))))) k5
  · replace H := ot c3 H
    refine e_iconst (v := (1 : Int32)) dX12_isParted_15 (by decide) ?_
    refine e_goto (tgt := 20) dX12_isParted_16 (by decide) ?_
    obtain rfl := Option.some.inj H
    exact e_wk (lk1 (lk1 (lk1 (lk1 (lk1 (lk1 lkn)))))) k5
-- X12_parts
def l_X12_parts_13 (y1 : Int32) (y2 : Int32) (y3 : Int32) (h : HS)  : Nat → Int32 → Option (Bool ⊕ Unit)
  | 0, _ => none
  | n + 1, x4 => (if y3 ≤ x4 then (some (Sum.inr ())) else (if ((y1 >>> (y3 &&& 31)) &&& (1 : Int32)) = (1 : Int32) then (if ((y1 >>> (x4 &&& 31)) &&& (1 : Int32)) = (1 : Int32) then (Option.bind (f_X12_isParted y3 x4 y2 h) (fun q28 => (if q28 = true then (l_X12_parts_13 y1 y2 y3 h n (x4 + (1 : Int32))) else (some (Sum.inl false))))) else (l_X12_parts_13 y1 y2 y3 h n (x4 + (1 : Int32)))) else (l_X12_parts_13 y1 y2 y3 h n (x4 + (1 : Int32)))))
set_option maxHeartbeats 4000000 in
set_option maxRecDepth 20000 in
theorem w_X12_parts_13 {G : GE} (d : Nat) {y1 : Int32} {y2 : Int32} {y3 : Int32} {h : HS} {r : Option Value} {h' : HS} (hYTM : LY TM h) : ∀ (n : Nat) {x4 : Int32} {q : (Bool ⊕ Unit)}, l_X12_parts_13 y1 y2 y3 h n x4 = some q → (∀ v, q = Sum.inl v → r = some (.int (b2i v)) ∧ h' = h) → (∀ e, q = Sum.inr e → En G (d + 1) miX12_parts 57 [.ref 60, .int y1, .int y2, .int y3, dum] [] h r h') → En G (d + 1) miX12_parts 13 [.ref 60, .int y1, .int y2, .int y3, .int x4] [] h r h' := by
  intro n
  induction n with
  | zero => intro x4 q H kR kE; exact nz H
  | succ n ih =>
    intro x4 q H kR kE
    unfold l_X12_parts_13 at H
    refine e_iload dX12_parts_13 rfl ?_
    refine e_iload_n dX12_parts_15 rfl ?_
    refine e_icmp_ge (tgt := 57) dX12_parts_16 (by decide) (fun c25 => ?_) (fun c25 => ?_)
    · replace H := ot c25 H
      obtain rfl := Option.some.inj H
      exact e_wk (lk1 (lk1 (lk1 (lk1 (lk0 lkn))))) (kE _ rfl)
    · replace H := of_ c25 H
      refine e_iload_n dX12_parts_19 rfl ?_
      refine e_iload_n dX12_parts_20 rfl ?_
      refine e_ishr dX12_parts_21 ?_
      refine e_iconst (v := (1 : Int32)) dX12_parts_22 (by decide) ?_
      refine e_iand dX12_parts_23 ?_
      refine e_iconst (v := (1 : Int32)) dX12_parts_24 (by decide) ?_
      refine e_icmp_ne (tgt := 51) dX12_parts_25 (by decide) (fun c26 => ?_) (fun c26 => ?_)
      · replace H := of_ c26 H
        refine e_iinc dX12_parts_51 rfl (ii_ (by decide : Int32.ofInt (1) = (1 : Int32))) (Nat.le_of_ble_eq_true rfl) rfl rfl ?_
        refine e_goto (tgt := 13) dX12_parts_54 (by decide) ?_
        exact e_wk (lk1 (lk1 (lk1 (lk1 (lk1 lkn))))) (ih H kR kE)
      · replace H := ot c26 H
        refine e_iload_n dX12_parts_28 rfl ?_
        refine e_iload dX12_parts_29 rfl ?_
        refine e_ishr dX12_parts_31 ?_
        refine e_iconst (v := (1 : Int32)) dX12_parts_32 (by decide) ?_
        refine e_iand dX12_parts_33 ?_
        refine e_iconst (v := (1 : Int32)) dX12_parts_34 (by decide) ?_
        refine e_icmp_ne (tgt := 51) dX12_parts_35 (by decide) (fun c27 => ?_) (fun c27 => ?_)
        · replace H := of_ c27 H
          refine e_iinc dX12_parts_51 rfl (ii_ (by decide : Int32.ofInt (1) = (1 : Int32))) (Nat.le_of_ble_eq_true rfl) rfl rfl ?_
          refine e_goto (tgt := 13) dX12_parts_54 (by decide) ?_
          exact e_wk (lk1 (lk1 (lk1 (lk1 (lk1 lkn))))) (ih H kR kE)
        · replace H := ot c27 H
          refine g_aload_n dX12_parts_38 rfl rfl ?_
          refine e_iload_n dX12_parts_39 rfl ?_
          refine e_iload dX12_parts_40 rfl ?_
          refine e_iload_n dX12_parts_42 rfl ?_
          replace H := ob H; obtain ⟨q28, c29, H⟩ := H
          refine v1 (hYTM.t 0 rfl) (by decide) rfl rfl lmX12_410 liX12_isParted lvX12_X12_isParted msX12_isParted dX12_parts_43 (t_X12_isParted (d + 0) hYTM c29) rfl (Nat.le_of_ble_eq_true rfl) (Nat.le_refl _) ?_
          refine e_ifB_ne (tgt := 51) dX12_parts_46 (by decide) (fun c30 => ?_) (fun c30 => ?_)
          · replace H := ot c30 H
            refine e_iinc dX12_parts_51 rfl (ii_ (by decide : Int32.ofInt (1) = (1 : Int32))) (Nat.le_of_ble_eq_true rfl) rfl rfl ?_
            refine e_goto (tgt := 13) dX12_parts_54 (by decide) ?_
            exact e_wk (lk1 (lk1 (lk1 (lk1 (lk1 lkn))))) (ih H kR kE)
          · replace H := of_ (nb c30) H
            refine e_iconst (v := (0 : Int32)) dX12_parts_49 (by decide) ?_
            obtain rfl := Option.some.inj H
            obtain ⟨eR, eH⟩ := kR _ rfl
            exact z_iret rfl rfl dX12_parts_50 eR eH
def l_X12_parts_2 (y1 : Int32) (y2 : Int32) (h : HS)  : Nat → Int32 → Option (Bool ⊕ Unit)
  | 0, _ => none
  | n + 1, x3 => (if (hI h 60 14) ≤ x3 then (some (Sum.inr ())) else (Option.bind (l_X12_parts_13 y1 y2 x3 h 1000 (0 : Int32)) (fun q31 => (Sum.elim (fun v => some (Sum.inl v)) (fun e33 => (l_X12_parts_2 y1 y2 h n (x3 + (1 : Int32)))) q31))))
set_option maxHeartbeats 4000000 in
set_option maxRecDepth 20000 in
theorem w_X12_parts_2 {G : GE} (d : Nat) {y1 : Int32} {y2 : Int32} {h : HS} {r : Option Value} {h' : HS} (hYTM : LY TM h) : ∀ (n : Nat) {x3 : Int32} {q : (Bool ⊕ Unit)}, l_X12_parts_2 y1 y2 h n x3 = some q → (∀ v, q = Sum.inl v → r = some (.int (b2i v)) ∧ h' = h) → (∀ e, q = Sum.inr e → En G (d + 1) miX12_parts 63 [dum, dum, dum, dum, dum] [] h r h') → En G (d + 1) miX12_parts 2 [.ref 60, .int y1, .int y2, .int x3, dum] [] h r h' := by
  intro n
  induction n with
  | zero => intro x3 q H kR kE; exact nz H
  | succ n ih =>
    intro x3 q H kR kE
    unfold l_X12_parts_2 at H
    refine e_iload_n dX12_parts_2 rfl ?_
    refine g_aload_n dX12_parts_3 rfl rfl ?_
    refine e_getI (hYTM.t 0 rfl) flX12_122_13 dX12_parts_4 rfl ?_
    refine e_icmp_ge (tgt := 63) dX12_parts_7 (by decide) (fun c18 => ?_) (fun c18 => ?_)
    · replace H := ot c18 H
      obtain rfl := Option.some.inj H
      exact e_wk (lk0 (lk0 (lk0 (lk0 (lk1 lkn))))) (kE _ rfl)
    · replace H := of_ c18 H
      refine e_iconst (v := (0 : Int32)) dX12_parts_10 (by decide) ?_
      refine e_istore dX12_parts_11 (Nat.le_of_ble_eq_true rfl) rfl rfl ?_
      replace H := ob H; obtain ⟨q31, c32, H⟩ := H
      refine e_wk (lk1 (lk1 (lk1 (lk1 (lk1 lkn))))) (w_X12_parts_13 d hYTM 1000 c32 (fun v34 E0 => ?_) (fun e33 E0 => ?_))
      · subst E0; replace H := oSl H; obtain rfl := Option.some.inj H
        exact kR _ rfl
      · subst E0; replace H := oSr H
        refine e_iinc dX12_parts_57 rfl (ii_ (by decide : Int32.ofInt (1) = (1 : Int32))) (Nat.le_of_ble_eq_true rfl) rfl rfl ?_
        refine e_goto (tgt := 2) dX12_parts_60 (by decide) ?_
        exact e_wk (lk1 (lk1 (lk1 (lk1 (lk1 lkn))))) (ih H kR kE)
def f_X12_parts (p1 : Int32) (p2 : Int32) (h : HS) : Option Bool := (Option.bind (l_X12_parts_2 p1 p2 h 1000 (0 : Int32)) (fun q35 => (Sum.elim (fun v => some v) (fun e37 => (some true)) q35)))
set_option maxHeartbeats 4000000 in
set_option maxRecDepth 20000 in
theorem t_X12_parts {G : GE} (d : Nat) {p1 : Int32} {p2 : Int32} {h : HS} {q : Bool} (hY : LY TM h) (H : f_X12_parts p1 p2 h = some q) : CE G (d + 1) yX12_parts miX12_parts [.ref 60, .int p1, .int p2] h (some (.int (b2i q))) (h) := by
  unfold f_X12_parts at H
  refine ce_of rfl (by decide) (fun q => by first | rfl | cases q) (Nat.le_of_ble_eq_true rfl) rfl ?_
  refine e_iconst (v := (0 : Int32)) dX12_parts_0 (by decide) ?_
  refine e_istore_n dX12_parts_1 (Nat.le_of_ble_eq_true rfl) rfl rfl ?_
  replace H := ob H; obtain ⟨q35, c36, H⟩ := H
  refine e_wk (lk1 (lk1 (lk1 (lk1 (lk1 lkn))))) (w_X12_parts_2 d hY 1000 c36 (fun v38 E0 => ?_) (fun e37 E0 => ?_))
  · subst E0; replace H := oSl H; obtain rfl := Option.some.inj H
    exact ⟨rfl, rfl⟩
  · subst E0; replace H := oSr H
    refine e_iconst (v := (1 : Int32)) dX12_parts_63 (by decide) ?_
    obtain rfl := Option.some.inj H
    exact z_iret rfl rfl dX12_parts_64 rfl rfl
-- X12_find
def l_X12_find_53 (y1 : Int32) (y2 : Int32) (y3 : Int32) (y4 : Int32) (y5 : Int32) (h : HS)  : Nat → Int32 → Int32 → Option Int32
  | 0, _, _ => none
  | n + 1, x6, x7 => (if (hI h 60 44) ≤ x7 then (some x6) else (if ((y5 >>> (x7 &&& 31)) &&& (1 : Int32)) = (1 : Int32) then (if ixb x7 6 = true then (l_X12_find_53 y1 y2 y3 y4 y5 h n (x6 + (hI h 79 x7.toNatClampNeg)) (x7 + (1 : Int32))) else none) else (l_X12_find_53 y1 y2 y3 y4 y5 h n (x6 + (0 : Int32)) (x7 + (1 : Int32)))))
set_option maxHeartbeats 4000000 in
set_option maxRecDepth 20000 in
theorem w_X12_find_53 {G : GE} (d : Nat) {y1 : Int32} {y2 : Int32} {y3 : Int32} {y4 : Int32} {y5 : Int32} {h : HS} {r : Option Value} {h' : HS} (hYTM : LY TM h) : ∀ (n : Nat) {x6 : Int32} {x7 : Int32} {q : Int32}, l_X12_find_53 y1 y2 y3 y4 y5 h n x6 x7 = some q → En G (d + 2) miX12_find 95 [.ref 60, .int y1, .int y2, .int y3, .int y4, .int y5, .int q, dum] [] h r h' → En G (d + 2) miX12_find 53 [.ref 60, .int y1, .int y2, .int y3, .int y4, .int y5, .int x6, .int x7] [] h r h' := by
  intro n
  induction n with
  | zero => intro x6 x7 q H kE; exact nz H
  | succ n ih =>
    intro x6 x7 q H kE
    unfold l_X12_find_53 at H
    refine e_iload dX12_find_53 rfl ?_
    refine g_aload_n dX12_find_55 rfl rfl ?_
    refine e_getI (hYTM.t 0 rfl) flX12_407_13 dX12_find_56 rfl ?_
    refine e_icmp_ge (tgt := 95) dX12_find_59 (by decide) (fun c28 => ?_) (fun c28 => ?_)
    · replace H := ot c28 H
      obtain rfl := Option.some.inj H
      exact e_wk (lk1 (lk1 (lk1 (lk1 (lk1 (lk1 (lk1 (lk0 lkn)))))))) kE
    · replace H := of_ c28 H
      refine e_iload dX12_find_62 rfl ?_
      refine e_iload dX12_find_64 rfl ?_
      refine e_iload dX12_find_66 rfl ?_
      refine e_ishr dX12_find_68 ?_
      refine e_iconst (v := (1 : Int32)) dX12_find_69 (by decide) ?_
      refine e_iand dX12_find_70 ?_
      refine e_iconst (v := (1 : Int32)) dX12_find_71 (by decide) ?_
      refine e_icmp_ne (tgt := 85) dX12_find_72 (by decide) (fun c29 => ?_) (fun c29 => ?_)
      · replace H := of_ c29 H
        refine e_iconst (v := (0 : Int32)) dX12_find_85 (by decide) ?_
        refine e_iadd dX12_find_86 ?_
        refine e_istore dX12_find_87 (Nat.le_of_ble_eq_true rfl) rfl rfl ?_
        refine e_iinc dX12_find_89 rfl (ii_ (by decide : Int32.ofInt (1) = (1 : Int32))) (Nat.le_of_ble_eq_true rfl) rfl rfl ?_
        refine e_goto (tgt := 53) dX12_find_92 (by decide) ?_
        exact e_wk (lk1 (lk1 (lk1 (lk1 (lk1 (lk1 (lk1 (lk1 lkn)))))))) (ih H kE)
      · replace H := ot c29 H
        refine g_aload_n dX12_find_75 rfl rfl ?_
        refine e_getR (hYTM.t 0 rfl) flX12_68_13 dX12_find_76 rfl (hYTM.r 18 rfl) ?_
        refine e_iload dX12_find_79 rfl ?_
        replace H := og H; obtain ⟨g30, H⟩ := H
        refine e_iald (hYTM.t 19 rfl) (ixb_y (hYTM.n 19 rfl) g30) dX12_find_81 ?_
        refine e_goto (tgt := 86) dX12_find_82 (by decide) ?_
        refine e_iadd dX12_find_86 ?_
        refine e_istore dX12_find_87 (Nat.le_of_ble_eq_true rfl) rfl rfl ?_
        refine e_iinc dX12_find_89 rfl (ii_ (by decide : Int32.ofInt (1) = (1 : Int32))) (Nat.le_of_ble_eq_true rfl) rfl rfl ?_
        refine e_goto (tgt := 53) dX12_find_92 (by decide) ?_
        exact e_wk (lk1 (lk1 (lk1 (lk1 (lk1 (lk1 (lk1 (lk1 lkn)))))))) (ih H kE)
def l_X12_find_36 (y1 : Int32) (y2 : Int32) (h : HS)  : Nat → Int32 → Int32 → Int32 → Option (Int32 × Int32)
  | 0, _, _, _ => none
  | n + 1, x3, x4, x5 => (if ((1 : Int32) <<< ((hI h 60 44) &&& 31)) ≤ x5 then (some (x3, x4)) else (Option.bind (l_X12_find_53 y1 y2 x3 x4 x5 h 1000 (0 : Int32) (0 : Int32)) (fun q31 => (if x3 = (-1 : Int32) then (Option.bind (f_X12_parts y1 x5 h) (fun q34 => (if q34 = true then (l_X12_find_36 y1 y2 h n x5 q31 (x5 + (1 : Int32))) else (l_X12_find_36 y1 y2 h n x3 x4 (x5 + (1 : Int32)))))) else (if x4 ≤ q31 then (l_X12_find_36 y1 y2 h n x3 x4 (x5 + (1 : Int32))) else (Option.bind (f_X12_parts y1 x5 h) (fun q38 => (if q38 = true then (l_X12_find_36 y1 y2 h n x5 q31 (x5 + (1 : Int32))) else (l_X12_find_36 y1 y2 h n x3 x4 (x5 + (1 : Int32)))))))))))
set_option maxHeartbeats 4000000 in
set_option maxRecDepth 20000 in
theorem w_X12_find_36 {G : GE} (d : Nat) {y1 : Int32} {y2 : Int32} {h : HS} {r : Option Value} {h' : HS} (hYTM : LY TM h) : ∀ (n : Nat) {x3 : Int32} {x4 : Int32} {x5 : Int32} {q : (Int32 × Int32)}, l_X12_find_36 y1 y2 h n x3 x4 x5 = some q → En G (d + 2) miX12_find 133 [dum, dum, .int y2, .int q.1, .int q.2, dum, dum, dum] [] h r h' → En G (d + 2) miX12_find 36 [.ref 60, .int y1, .int y2, .int x3, .int x4, .int x5, dum, dum] [] h r h' := by
  intro n
  induction n with
  | zero => intro x3 x4 x5 q H kE; exact nz H
  | succ n ih =>
    intro x3 x4 x5 q H kE
    unfold l_X12_find_36 at H
    refine e_iload dX12_find_36 rfl ?_
    refine e_iconst (v := (1 : Int32)) dX12_find_38 (by decide) ?_
    refine g_aload_n dX12_find_39 rfl rfl ?_
    refine e_getI (hYTM.t 0 rfl) flX12_407_13 dX12_find_40 rfl ?_
    refine e_ishl dX12_find_43 ?_
    refine e_icmp_ge (tgt := 133) dX12_find_44 (by decide) (fun c24 => ?_) (fun c24 => ?_)
    · replace H := ot c24 H
      obtain rfl := Option.some.inj H
      exact e_wk (lk0 (lk0 (lk1 (lk1 (lk1 (lk0 (lk1 (lk1 lkn)))))))) kE
    · replace H := of_ c24 H
      refine e_iconst (v := (0 : Int32)) dX12_find_47 (by decide) ?_
      refine e_istore dX12_find_48 (Nat.le_of_ble_eq_true rfl) rfl rfl ?_
      refine e_iconst (v := (0 : Int32)) dX12_find_50 (by decide) ?_
      refine e_istore dX12_find_51 (Nat.le_of_ble_eq_true rfl) rfl rfl ?_
      replace H := ob H; obtain ⟨q31, c32, H⟩ := H
      refine e_wk (lk1 (lk1 (lk1 (lk1 (lk1 (lk1 (lk1 (lk1 lkn)))))))) (w_X12_find_53 d hYTM 1000 c32 ?_)
      refine e_iload_n dX12_find_95 rfl ?_
      refine e_iconst (v := (-1 : Int32)) dX12_find_96 (by decide) ?_
      refine e_icmp_eq (tgt := 107) dX12_find_97 (by decide) (fun c33 => ?_) (fun c33 => ?_)
      · replace H := ot c33 H
        refine g_aload_n dX12_find_107 rfl rfl ?_
        refine e_iload_n dX12_find_108 rfl ?_
        refine e_iload dX12_find_109 rfl ?_
        replace H := ob H; obtain ⟨q34, c35, H⟩ := H
        refine v1 (hYTM.t 0 rfl) (by decide) rfl rfl lmX12_413 liX12_parts lvX12_X12_parts msX12_parts dX12_find_111 (t_X12_parts (d + 0) hYTM c35) rfl (Nat.le_of_ble_eq_true rfl) (Nat.le_refl _) ?_
        refine e_ifB_ne (tgt := 120) dX12_find_114 (by decide) (fun c36 => ?_) (fun c36 => ?_)
        · replace H := ot c36 H
          refine e_iload dX12_find_120 rfl ?_
          refine e_istore_n dX12_find_122 (Nat.le_of_ble_eq_true rfl) rfl rfl ?_
          refine e_iload dX12_find_123 rfl ?_
          refine e_istore dX12_find_125 (Nat.le_of_ble_eq_true rfl) rfl rfl ?_
          refine e_iinc dX12_find_127 rfl (ii_ (by decide : Int32.ofInt (1) = (1 : Int32))) (Nat.le_of_ble_eq_true rfl) rfl rfl ?_
          refine e_goto (tgt := 36) dX12_find_130 (by decide) ?_
          exact e_wk (lk1 (lk1 (lk1 (lk1 (lk1 (lk1 (lk0 (lk1 lkn)))))))) (ih H kE)
        · replace H := of_ (nb c36) H
          refine e_goto (tgt := 127) dX12_find_117 (by decide) ?_
          refine e_iinc dX12_find_127 rfl (ii_ (by decide : Int32.ofInt (1) = (1 : Int32))) (Nat.le_of_ble_eq_true rfl) rfl rfl ?_
          refine e_goto (tgt := 36) dX12_find_130 (by decide) ?_
          exact e_wk (lk1 (lk1 (lk1 (lk1 (lk1 (lk1 (lk0 (lk1 lkn)))))))) (ih H kE)
      · replace H := of_ c33 H
        refine e_iload dX12_find_100 rfl ?_
        refine e_iload dX12_find_102 rfl ?_
        refine e_icmp_ge (tgt := 127) dX12_find_104 (by decide) (fun c37 => ?_) (fun c37 => ?_)
        · replace H := ot c37 H
          refine e_iinc dX12_find_127 rfl (ii_ (by decide : Int32.ofInt (1) = (1 : Int32))) (Nat.le_of_ble_eq_true rfl) rfl rfl ?_
          refine e_goto (tgt := 36) dX12_find_130 (by decide) ?_
          exact e_wk (lk1 (lk1 (lk1 (lk1 (lk1 (lk1 (lk0 (lk1 lkn)))))))) (ih H kE)
        · replace H := of_ c37 H
          refine g_aload_n dX12_find_107 rfl rfl ?_
          refine e_iload_n dX12_find_108 rfl ?_
          refine e_iload dX12_find_109 rfl ?_
          replace H := ob H; obtain ⟨q38, c39, H⟩ := H
          refine v1 (hYTM.t 0 rfl) (by decide) rfl rfl lmX12_413 liX12_parts lvX12_X12_parts msX12_parts dX12_find_111 (t_X12_parts (d + 0) hYTM c39) rfl (Nat.le_of_ble_eq_true rfl) (Nat.le_refl _) ?_
          refine e_ifB_ne (tgt := 120) dX12_find_114 (by decide) (fun c40 => ?_) (fun c40 => ?_)
          · replace H := ot c40 H
            refine e_iload dX12_find_120 rfl ?_
            refine e_istore_n dX12_find_122 (Nat.le_of_ble_eq_true rfl) rfl rfl ?_
            refine e_iload dX12_find_123 rfl ?_
            refine e_istore dX12_find_125 (Nat.le_of_ble_eq_true rfl) rfl rfl ?_
            refine e_iinc dX12_find_127 rfl (ii_ (by decide : Int32.ofInt (1) = (1 : Int32))) (Nat.le_of_ble_eq_true rfl) rfl rfl ?_
            refine e_goto (tgt := 36) dX12_find_130 (by decide) ?_
            exact e_wk (lk1 (lk1 (lk1 (lk1 (lk1 (lk1 (lk0 (lk1 lkn)))))))) (ih H kE)
          · replace H := of_ (nb c40) H
            refine e_goto (tgt := 127) dX12_find_117 (by decide) ?_
            refine e_iinc dX12_find_127 rfl (ii_ (by decide : Int32.ofInt (1) = (1 : Int32))) (Nat.le_of_ble_eq_true rfl) rfl rfl ?_
            refine e_goto (tgt := 36) dX12_find_130 (by decide) ?_
            exact e_wk (lk1 (lk1 (lk1 (lk1 (lk1 (lk1 (lk0 (lk1 lkn)))))))) (ih H kE)
def f_X12_find (p1 : Int32) (p2 : Int32) (h : HS) : Option Int32 := (Option.bind (f_X12_in p1.toInt64 (0 : Int64) (((1 : Int32) <<< ((hI h 60 14) &&& 31)) - (1 : Int32)).toInt64) (fun q1 => (if q1 = true then (Option.bind (f_X12_isPart p2) (fun q4 => (if q4 = true then (Option.bind (l_X12_find_36 p1 p2 h 1000 (-1 : Int32) (0 : Int32) (0 : Int32)) (fun q41 => (if q41.1 = (-1 : Int32) then (some q41.1) else (if p2 = 0 then (some q41.1) else (some q41.2))))) else (some (-2 : Int32))))) else (some (-2 : Int32)))))
set_option maxHeartbeats 4000000 in
set_option maxRecDepth 20000 in
theorem t_X12_find {G : GE} (d : Nat) {p1 : Int32} {p2 : Int32} {h : HS} {q : Int32} (hY : LY TM h) (H : f_X12_find p1 p2 h = some q) : CE G (d + 2) yX12_find miX12_find [.ref 60, .int p1, .int p2] h (some (.int q)) (h) := by
  unfold f_X12_find at H
  refine ce_of rfl (by decide) (fun q => by first | rfl | cases q) (Nat.le_of_ble_eq_true rfl) rfl ?_
  refine e_iload_n dX12_find_0 rfl ?_
  refine e_i2l dX12_find_1 ?_
  refine e_lconst (v := (0 : Int64)) dX12_find_2 (by decide) ?_
  refine e_iconst (v := (1 : Int32)) dX12_find_3 (by decide) ?_
  refine g_aload_n dX12_find_4 rfl rfl ?_
  refine e_getI (hY.t 0 rfl) flX12_122_13 dX12_find_5 rfl ?_
  refine e_ishl dX12_find_8 ?_
  refine e_iconst (v := (1 : Int32)) dX12_find_9 (by decide) ?_
  refine e_isub dX12_find_10 ?_
  refine e_i2l dX12_find_11 ?_
  replace H := ob H; obtain ⟨q1, c2, H⟩ := H
  refine s1 lmX12_125 lsX12_in msX12_in dX12_find_12 (t_X12_in (d + 1) c2) rfl (Nat.le_of_ble_eq_true rfl) (Nat.le_refl _) ?_
  refine e_ifB_eq (tgt := 25) dX12_find_15 (by decide) (fun c3 => ?_) (fun c3 => ?_)
  · replace H := of_ (nb c3) H
    refine e_bipush (v := (-2 : Int32)) dX12_find_25 (by decide) ?_
    obtain rfl := Option.some.inj H
    exact z_iret rfl rfl dX12_find_27 rfl rfl
  · replace H := ot c3 H
    refine e_iload_n dX12_find_18 rfl ?_
    replace H := ob H; obtain ⟨q4, c5, H⟩ := H
    refine s1 lmX12_190 lsX12_isPart msX12_isPart dX12_find_19 (t_X12_isPart (d + 0) c5) rfl (Nat.le_of_ble_eq_true rfl) (Nat.le_refl _) ?_
    refine e_ifB_ne (tgt := 28) dX12_find_22 (by decide) (fun c6 => ?_) (fun c6 => ?_)
    · replace H := ot c6 H
      refine e_iconst (v := (-1 : Int32)) dX12_find_28 (by decide) ?_
      refine e_istore_n dX12_find_29 (Nat.le_of_ble_eq_true rfl) rfl rfl ?_
      refine e_iconst (v := (0 : Int32)) dX12_find_30 (by decide) ?_
      refine e_istore dX12_find_31 (Nat.le_of_ble_eq_true rfl) rfl rfl ?_
      refine e_iconst (v := (0 : Int32)) dX12_find_33 (by decide) ?_
      refine e_istore dX12_find_34 (Nat.le_of_ble_eq_true rfl) rfl rfl ?_
      replace H := ob H; obtain ⟨q41, c42, H⟩ := H
      refine e_wk (lk1 (lk1 (lk1 (lk1 (lk1 (lk1 (lk1 (lk1 lkn)))))))) (w_X12_find_36 d hY 1000 c42 ?_)
      refine e_iload_n dX12_find_133 rfl ?_
      refine e_iconst (v := (-1 : Int32)) dX12_find_134 (by decide) ?_
      refine e_icmp_eq (tgt := 142) dX12_find_135 (by decide) (fun c43 => ?_) (fun c43 => ?_)
      · replace H := ot c43 H
        refine e_iload_n dX12_find_142 rfl ?_
        refine e_goto (tgt := 148) dX12_find_143 (by decide) ?_
        obtain rfl := Option.some.inj H
        exact z_iret rfl rfl dX12_find_148 rfl rfl
      · replace H := of_ c43 H
        refine e_iload_n dX12_find_138 rfl ?_
        refine e_if_ne (tgt := 146) dX12_find_139 (by decide) (fun c44 => ?_) (fun c44 => ?_)
        · replace H := of_ c44 H
          refine e_iload dX12_find_146 rfl ?_
          obtain rfl := Option.some.inj H
          exact z_iret rfl rfl dX12_find_148 rfl rfl
        · replace H := ot c44 H
          refine e_iload_n dX12_find_142 rfl ?_
          refine e_goto (tgt := 148) dX12_find_143 (by decide) ?_
          obtain rfl := Option.some.inj H
          exact z_iret rfl rfl dX12_find_148 rfl rfl
    · replace H := of_ (nb c6) H
      refine e_bipush (v := (-2 : Int32)) dX12_find_25 (by decide) ?_
      obtain rfl := Option.some.inj H
      exact z_iret rfl rfl dX12_find_27 rfl rfl
-- X12_year
def l_X12_year_29 (y1 : Int32) (y2 : Int32)  : Nat → Int32 → HS → Option HS
  | 0, _, _ => none
  | n + 1, x3, h => (if (hI h 60 14) ≤ x3 then (some h) else (Option.bind (f_X12_hoursOf x3 h) (fun q14 => (if ixb x3 8 = true then (l_X12_year_29 y1 y2 n (x3 + (1 : Int32)) (sI q14.2 81 x3.toNatClampNeg q14.1)) else none))))
set_option maxHeartbeats 4000000 in
set_option maxRecDepth 20000 in
theorem p_X12_year_29 {y1 : Int32} {y2 : Int32} : ∀ (n : Nat) {x3 : Int32} {h : HS} {q : HS}, l_X12_year_29 y1 y2 n x3 h = some q → Pr h q := by
  intro n
  induction n with
  | zero => intro x3 h q H; exact nz H
  | succ n ih =>
    intro x3 h q H
    unfold l_X12_year_29 at H
    replace H := oi H; obtain ⟨c13, H⟩ | ⟨c13, H⟩ := H
    · obtain rfl := Option.some.inj H
      exact Pr.rf
    · replace H := ob H; obtain ⟨q14, c15, H⟩ := H
      have e16 := p_X12_hoursOf c15
      replace H := og H; obtain ⟨g18, H⟩ := H
      exact (e16.sI).tr (ih H)
set_option maxHeartbeats 4000000 in
set_option maxRecDepth 20000 in
theorem w_X12_year_29 {G : GE} (d : Nat) {y1 : Int32} {y2 : Int32} {r : Option Value} {h' : HS}  : ∀ (n : Nat) {x3 : Int32} {h : HS} {q : HS}, LY TM h → l_X12_year_29 y1 y2 n x3 h = some q → En G (d + 66) miX12_year 54 [.ref 60, .int y1, .int y2, dum, dum, dum, dum, dum, dum, dum] [] q r h' → En G (d + 66) miX12_year 29 [.ref 60, .int y1, .int y2, .int x3, dum, dum, dum, dum, dum, dum] [] h r h' := by
  intro n
  induction n with
  | zero => intro x3 h q hYTM H kE; exact nz H
  | succ n ih =>
    intro x3 h q hYTM H kE
    unfold l_X12_year_29 at H
    refine e_iload_n dX12_year_29 rfl ?_
    refine g_aload_n dX12_year_30 rfl rfl ?_
    refine e_getI (hYTM.t 0 rfl) flX12_122_13 dX12_year_31 rfl ?_
    refine e_icmp_ge (tgt := 54) dX12_year_34 (by decide) (fun c13 => ?_) (fun c13 => ?_)
    · replace H := ot c13 H
      obtain rfl := Option.some.inj H
      exact e_wk (lk1 (lk1 (lk1 (lk0 (lk1 (lk1 (lk1 (lk1 (lk1 (lk1 lkn)))))))))) kE
    · replace H := of_ c13 H
      refine g_aload_n dX12_year_37 rfl rfl ?_
      refine e_getR (hYTM.t 0 rfl) flX12_74_13 dX12_year_38 rfl (hYTM.r 20 rfl) ?_
      refine e_iload_n dX12_year_41 rfl ?_
      refine g_aload_n dX12_year_42 rfl rfl ?_
      refine e_iload_n dX12_year_43 rfl ?_
      replace H := ob H; obtain ⟨q14, c15, H⟩ := H
      refine v1 (hYTM.t 0 rfl) (by decide) rfl rfl lmX12_160 liX12_hoursOf lvX12_X12_hoursOf msX12_hoursOf dX12_year_44 (t_X12_hoursOf (d + 0) hYTM c15) rfl (Nat.le_of_ble_eq_true rfl) (Nat.le_refl _) ?_
      have e16 := p_X12_hoursOf c15
      have hY17 := hYTM.pr okM e16
      replace H := og H; obtain ⟨g18, H⟩ := H
      refine e_iast (hY17.t 21 rfl) (ixb_y (hY17.n 21 rfl) g18) dX12_year_47 ?_
      refine e_iinc dX12_year_48 rfl (ii_ (by decide : Int32.ofInt (1) = (1 : Int32))) (Nat.le_of_ble_eq_true rfl) rfl rfl ?_
      refine e_goto (tgt := 29) dX12_year_51 (by decide) ?_
      exact e_wk (lk1 (lk1 (lk1 (lk1 (lk1 (lk1 (lk1 (lk1 (lk1 (lk1 lkn)))))))))) (ih (hY17.sI) H kE)
def l_X12_year_85 (y1 : Int32) (y2 : Int32) (y3 : Int32) (y4 : Int32) (y5 : Int32) (y6 : Int32) (h : HS)  : Nat → Int32 → Int32 → Int32 → Option (Int32 × Int32)
  | 0, _, _, _ => none
  | n + 1, x7, x8, x9 => (if (hI h 60 14) ≤ x9 then (some (x7, x8)) else (Option.bind (if ((y6 >>> (x9 &&& 31)) &&& (1 : Int32)) = (1 : Int32) then (Option.bind (f_X12_seenOf x9 h) (fun q62 => (some q62))) else (some (0 : Int32))) (fun q60 => (if ((y6 >>> (x9 &&& 31)) &&& (1 : Int32)) = (1 : Int32) then (if ixb x9 8 = true then (l_X12_year_85 y1 y2 y3 y4 y5 y6 h n (x7 + q60) (x8 + (hI h 81 x9.toNatClampNeg)) (x9 + (1 : Int32))) else none) else (l_X12_year_85 y1 y2 y3 y4 y5 y6 h n (x7 + q60) (x8 + (0 : Int32)) (x9 + (1 : Int32)))))))
set_option maxHeartbeats 4000000 in
set_option maxRecDepth 20000 in
theorem w_X12_year_85 {G : GE} (d : Nat) {y1 : Int32} {y2 : Int32} {y3 : Int32} {y4 : Int32} {y5 : Int32} {y6 : Int32} {h : HS} {r : Option Value} {h' : HS} (hYTM : LY TM h) : ∀ (n : Nat) {x7 : Int32} {x8 : Int32} {x9 : Int32} {q : (Int32 × Int32)}, l_X12_year_85 y1 y2 y3 y4 y5 y6 h n x7 x8 x9 = some q → En G (d + 66) miX12_year 153 [.ref 60, .int y1, .int y2, .int y3, .int y4, .int y5, .int y6, .int q.1, .int q.2, dum] [] h r h' → En G (d + 66) miX12_year 85 [.ref 60, .int y1, .int y2, .int y3, .int y4, .int y5, .int y6, .int x7, .int x8, .int x9] [] h r h' := by
  intro n
  induction n with
  | zero => intro x7 x8 x9 q H kE; exact nz H
  | succ n ih =>
    intro x7 x8 x9 q H kE
    unfold l_X12_year_85 at H
    refine e_iload dX12_year_85 rfl ?_
    refine g_aload_n dX12_year_87 rfl rfl ?_
    refine e_getI (hYTM.t 0 rfl) flX12_122_13 dX12_year_88 rfl ?_
    refine e_icmp_ge (tgt := 153) dX12_year_91 (by decide) (fun c58 => ?_) (fun c58 => ?_)
    · replace H := ot c58 H
      obtain rfl := Option.some.inj H
      exact e_wk (lk1 (lk1 (lk1 (lk1 (lk1 (lk1 (lk1 (lk1 (lk1 (lk0 lkn)))))))))) kE
    · replace H := of_ c58 H
      refine e_iload dX12_year_94 rfl ?_
      refine e_iload dX12_year_96 rfl ?_
      refine e_iload dX12_year_98 rfl ?_
      refine e_ishr dX12_year_100 ?_
      refine e_iconst (v := (1 : Int32)) dX12_year_101 (by decide) ?_
      refine e_iand dX12_year_102 ?_
      refine e_iconst (v := (1 : Int32)) dX12_year_103 (by decide) ?_
      replace H := ob H; obtain ⟨q60, c64, H⟩ := H
      have k61 : En G (d + 66) miX12_year 117 [.ref 60, .int y1, .int y2, .int y3, .int y4, .int y5, .int y6, dum, .int x8, .int x9] [.int q60, .int x7] h r h' := by
        refine e_iadd dX12_year_117 ?_
        refine e_istore dX12_year_118 (Nat.le_of_ble_eq_true rfl) rfl rfl ?_
        refine e_iload dX12_year_120 rfl ?_
        refine e_iload dX12_year_122 rfl ?_
        refine e_iload dX12_year_124 rfl ?_
        refine e_ishr dX12_year_126 ?_
        refine e_iconst (v := (1 : Int32)) dX12_year_127 (by decide) ?_
        refine e_iand dX12_year_128 ?_
        refine e_iconst (v := (1 : Int32)) dX12_year_129 (by decide) ?_
        refine e_icmp_ne (tgt := 143) dX12_year_130 (by decide) (fun c65 => ?_) (fun c65 => ?_)
        · replace H := of_ c65 H
          refine e_iconst (v := (0 : Int32)) dX12_year_143 (by decide) ?_
          refine e_iadd dX12_year_144 ?_
          refine e_istore dX12_year_145 (Nat.le_of_ble_eq_true rfl) rfl rfl ?_
          refine e_iinc dX12_year_147 rfl (ii_ (by decide : Int32.ofInt (1) = (1 : Int32))) (Nat.le_of_ble_eq_true rfl) rfl rfl ?_
          refine e_goto (tgt := 85) dX12_year_150 (by decide) ?_
          exact e_wk (lk1 (lk1 (lk1 (lk1 (lk1 (lk1 (lk1 (lk1 (lk1 (lk1 lkn)))))))))) (ih H kE)
        · replace H := ot c65 H
          refine g_aload_n dX12_year_133 rfl rfl ?_
          refine e_getR (hYTM.t 0 rfl) flX12_74_13 dX12_year_134 rfl (hYTM.r 20 rfl) ?_
          refine e_iload dX12_year_137 rfl ?_
          replace H := og H; obtain ⟨g66, H⟩ := H
          refine e_iald (hYTM.t 21 rfl) (ixb_y (hYTM.n 21 rfl) g66) dX12_year_139 ?_
          refine e_goto (tgt := 144) dX12_year_140 (by decide) ?_
          refine e_iadd dX12_year_144 ?_
          refine e_istore dX12_year_145 (Nat.le_of_ble_eq_true rfl) rfl rfl ?_
          refine e_iinc dX12_year_147 rfl (ii_ (by decide : Int32.ofInt (1) = (1 : Int32))) (Nat.le_of_ble_eq_true rfl) rfl rfl ?_
          refine e_goto (tgt := 85) dX12_year_150 (by decide) ?_
          exact e_wk (lk1 (lk1 (lk1 (lk1 (lk1 (lk1 (lk1 (lk1 (lk1 (lk1 lkn)))))))))) (ih H kE)
      replace H := c64
      refine e_icmp_ne (tgt := 116) dX12_year_104 (by decide) (fun c59 => ?_) (fun c59 => ?_)
      · replace H := of_ c59 H
        refine e_iconst (v := (0 : Int32)) dX12_year_116 (by decide) ?_
        obtain rfl := Option.some.inj H
        exact e_wk (lk1 (lk1 (lk1 (lk1 (lk1 (lk1 (lk1 (lk0 (lk1 (lk1 lkn)))))))))) k61
      · replace H := ot c59 H
        refine g_aload_n dX12_year_107 rfl rfl ?_
        refine e_iload dX12_year_108 rfl ?_
        replace H := ob H; obtain ⟨q62, c63, H⟩ := H
        refine v1 (hYTM.t 0 rfl) (by decide) rfl rfl lmX12_156 liX12_seenOf lvX12_X12_seenOf msX12_seenOf dX12_year_110 (t_X12_seenOf (d + 65) hYTM c63) rfl (Nat.le_of_ble_eq_true rfl) (Nat.le_refl _) ?_
        refine e_goto (tgt := 117) dX12_year_113 (by decide) ?_
        obtain rfl := Option.some.inj H
        exact e_wk (lk1 (lk1 (lk1 (lk1 (lk1 (lk1 (lk1 (lk0 (lk1 (lk1 lkn)))))))))) k61
def l_X12_year_65 (y1 : Int32) (y2 : Int32) (h : HS)  : Nat → Int32 → Int32 → Int32 → Int32 → Option (Int32 × Int32 × Int32)
  | 0, _, _, _, _ => none
  | n + 1, x3, x4, x5, x6 => (if ((1 : Int32) <<< ((hI h 60 14) &&& 31)) ≤ x6 then (some (x3, x4, x5)) else (Option.bind (l_X12_year_85 y1 y2 x3 x4 x5 x6 h 1000 (0 : Int32) (0 : Int32) (0 : Int32)) (fun q67 => (if y1 < q67.2 then (l_X12_year_65 y1 y2 h n x3 x4 x5 (x6 + (1 : Int32))) else (if q67.1 < x4 then (l_X12_year_65 y1 y2 h n x3 x4 x5 (x6 + (1 : Int32))) else (if q67.1 = x4 then (if q67.2 < x5 then (l_X12_year_65 y1 y2 h n x6 q67.1 q67.2 (x6 + (1 : Int32))) else (l_X12_year_65 y1 y2 h n x3 x4 x5 (x6 + (1 : Int32)))) else (l_X12_year_65 y1 y2 h n x6 q67.1 q67.2 (x6 + (1 : Int32)))))))))
set_option maxHeartbeats 4000000 in
set_option maxRecDepth 20000 in
theorem w_X12_year_65 {G : GE} (d : Nat) {y1 : Int32} {y2 : Int32} {h : HS} {r : Option Value} {h' : HS} (hYTM : LY TM h) : ∀ (n : Nat) {x3 : Int32} {x4 : Int32} {x5 : Int32} {x6 : Int32} {q : (Int32 × Int32 × Int32)}, l_X12_year_65 y1 y2 h n x3 x4 x5 x6 = some q → En G (d + 66) miX12_year 200 [dum, dum, .int y2, .int q.1, .int q.2.1, .int q.2.2, dum, dum, dum, dum] [] h r h' → En G (d + 66) miX12_year 65 [.ref 60, .int y1, .int y2, .int x3, .int x4, .int x5, .int x6, dum, dum, dum] [] h r h' := by
  intro n
  induction n with
  | zero => intro x3 x4 x5 x6 q H kE; exact nz H
  | succ n ih =>
    intro x3 x4 x5 x6 q H kE
    unfold l_X12_year_65 at H
    refine e_iload dX12_year_65 rfl ?_
    refine e_iconst (v := (1 : Int32)) dX12_year_67 (by decide) ?_
    refine g_aload_n dX12_year_68 rfl rfl ?_
    refine e_getI (hYTM.t 0 rfl) flX12_122_13 dX12_year_69 rfl ?_
    refine e_ishl dX12_year_72 ?_
    refine e_icmp_ge (tgt := 200) dX12_year_73 (by decide) (fun c48 => ?_) (fun c48 => ?_)
    · replace H := ot c48 H
      obtain rfl := Option.some.inj H
      exact e_wk (lk0 (lk0 (lk1 (lk1 (lk1 (lk1 (lk0 (lk1 (lk1 (lk1 lkn)))))))))) kE
    · replace H := of_ c48 H
      refine e_iconst (v := (0 : Int32)) dX12_year_76 (by decide) ?_
      refine e_istore dX12_year_77 (Nat.le_of_ble_eq_true rfl) rfl rfl ?_
      refine e_iconst (v := (0 : Int32)) dX12_year_79 (by decide) ?_
      refine e_istore dX12_year_80 (Nat.le_of_ble_eq_true rfl) rfl rfl ?_
      refine e_iconst (v := (0 : Int32)) dX12_year_82 (by decide) ?_
      refine e_istore dX12_year_83 (Nat.le_of_ble_eq_true rfl) rfl rfl ?_
      replace H := ob H; obtain ⟨q67, c68, H⟩ := H
      refine e_wk (lk1 (lk1 (lk1 (lk1 (lk1 (lk1 (lk1 (lk1 (lk1 (lk1 lkn)))))))))) (w_X12_year_85 d hYTM 1000 c68 ?_)
      refine e_iload dX12_year_153 rfl ?_
      refine e_iload_n dX12_year_155 rfl ?_
      refine e_icmp_gt (tgt := 194) dX12_year_156 (by decide) (fun c69 => ?_) (fun c69 => ?_)
      · replace H := ot c69 H
        refine e_iinc dX12_year_194 rfl (ii_ (by decide : Int32.ofInt (1) = (1 : Int32))) (Nat.le_of_ble_eq_true rfl) rfl rfl ?_
        refine e_goto (tgt := 65) dX12_year_197 (by decide) ?_
        exact e_wk (lk1 (lk1 (lk1 (lk1 (lk1 (lk1 (lk1 (lk0 (lk0 (lk1 lkn)))))))))) (ih H kE)
      · replace H := of_ c69 H
        refine e_iload dX12_year_159 rfl ?_
        refine e_iload dX12_year_161 rfl ?_
        refine e_icmp_lt (tgt := 194) dX12_year_163 (by decide) (fun c70 => ?_) (fun c70 => ?_)
        · replace H := ot c70 H
          refine e_iinc dX12_year_194 rfl (ii_ (by decide : Int32.ofInt (1) = (1 : Int32))) (Nat.le_of_ble_eq_true rfl) rfl rfl ?_
          refine e_goto (tgt := 65) dX12_year_197 (by decide) ?_
          exact e_wk (lk1 (lk1 (lk1 (lk1 (lk1 (lk1 (lk1 (lk0 (lk0 (lk1 lkn)))))))))) (ih H kE)
        · replace H := of_ c70 H
          refine e_iload dX12_year_166 rfl ?_
          refine e_iload dX12_year_168 rfl ?_
          refine e_icmp_ne (tgt := 183) dX12_year_170 (by decide) (fun c71 => ?_) (fun c71 => ?_)
          · replace H := of_ c71 H
            refine e_iload dX12_year_183 rfl ?_
            refine e_istore_n dX12_year_185 (Nat.le_of_ble_eq_true rfl) rfl rfl ?_
            refine e_iload dX12_year_186 rfl ?_
            refine e_istore dX12_year_188 (Nat.le_of_ble_eq_true rfl) rfl rfl ?_
            refine e_iload dX12_year_190 rfl ?_
            refine e_istore dX12_year_192 (Nat.le_of_ble_eq_true rfl) rfl rfl ?_
            refine e_iinc dX12_year_194 rfl (ii_ (by decide : Int32.ofInt (1) = (1 : Int32))) (Nat.le_of_ble_eq_true rfl) rfl rfl ?_
            refine e_goto (tgt := 65) dX12_year_197 (by decide) ?_
            exact e_wk (lk1 (lk1 (lk1 (lk1 (lk1 (lk1 (lk1 (lk0 (lk0 (lk1 lkn)))))))))) (ih H kE)
          · replace H := ot c71 H
            refine e_iload dX12_year_173 rfl ?_
            refine e_iload dX12_year_175 rfl ?_
            refine e_icmp_lt (tgt := 183) dX12_year_177 (by decide) (fun c72 => ?_) (fun c72 => ?_)
            · replace H := ot c72 H
              refine e_iload dX12_year_183 rfl ?_
              refine e_istore_n dX12_year_185 (Nat.le_of_ble_eq_true rfl) rfl rfl ?_
              refine e_iload dX12_year_186 rfl ?_
              refine e_istore dX12_year_188 (Nat.le_of_ble_eq_true rfl) rfl rfl ?_
              refine e_iload dX12_year_190 rfl ?_
              refine e_istore dX12_year_192 (Nat.le_of_ble_eq_true rfl) rfl rfl ?_
              refine e_iinc dX12_year_194 rfl (ii_ (by decide : Int32.ofInt (1) = (1 : Int32))) (Nat.le_of_ble_eq_true rfl) rfl rfl ?_
              refine e_goto (tgt := 65) dX12_year_197 (by decide) ?_
              exact e_wk (lk1 (lk1 (lk1 (lk1 (lk1 (lk1 (lk1 (lk0 (lk0 (lk1 lkn)))))))))) (ih H kE)
            · replace H := of_ c72 H
              refine e_goto (tgt := 194) dX12_year_180 (by decide) ?_
              refine e_iinc dX12_year_194 rfl (ii_ (by decide : Int32.ofInt (1) = (1 : Int32))) (Nat.le_of_ble_eq_true rfl) rfl rfl ?_
              refine e_goto (tgt := 65) dX12_year_197 (by decide) ?_
              exact e_wk (lk1 (lk1 (lk1 (lk1 (lk1 (lk1 (lk1 (lk0 (lk0 (lk1 lkn)))))))))) (ih H kE)
def f_X12_year (p1 : Int32) (p2 : Int32) (h : HS) : Option (Int32 × HS) := (Option.bind (f_X12_in p1.toInt64 (0 : Int64) (199 : Int64)) (fun q1 => (if q1 = true then (Option.bind (f_X12_in p2.toInt64 (0 : Int64) (2 : Int64)) (fun q4 => (if q4 = true then (Option.bind (l_X12_year_29 p1 p2 1000 (0 : Int32) h) (fun q19 => (Option.bind (l_X12_year_65 p1 p2 q19 1000 (0 : Int32) (-1 : Int32) (0 : Int32) (0 : Int32)) (fun q73 => (if p2 = 0 then (some (q73.1, q19)) else (if p2 = (1 : Int32) then (some (q73.2.1, q19)) else (some (q73.2.2, q19)))))))) else (some ((-2 : Int32), h))))) else (some ((-2 : Int32), h)))))
set_option maxHeartbeats 4000000 in
set_option maxRecDepth 20000 in
theorem p_X12_year {p1 : Int32} {p2 : Int32} {h : HS} {q : (Int32 × HS)} (H : f_X12_year p1 p2 h = some q) : Pr h q.2 := by
  unfold f_X12_year at H
  replace H := ob H; obtain ⟨q1, c2, H⟩ := H
  replace H := oi H; obtain ⟨c3, H⟩ | ⟨c3, H⟩ := H
  · replace H := ob H; obtain ⟨q4, c5, H⟩ := H
    replace H := oi H; obtain ⟨c6, H⟩ | ⟨c6, H⟩ := H
    · replace H := ob H; obtain ⟨q19, c20, H⟩ := H
      have e21 := p_X12_year_29 1000 c20
      replace H := ob H; obtain ⟨q73, c74, H⟩ := H
      replace H := oi H; obtain ⟨c75, H⟩ | ⟨c75, H⟩ := H
      · obtain rfl := Option.some.inj H
        exact e21
      · replace H := oi H; obtain ⟨c76, H⟩ | ⟨c76, H⟩ := H
        · obtain rfl := Option.some.inj H
          exact e21
        · obtain rfl := Option.some.inj H
          exact e21
    · obtain rfl := Option.some.inj H
      exact Pr.rf
  · obtain rfl := Option.some.inj H
    exact Pr.rf
set_option maxHeartbeats 4000000 in
set_option maxRecDepth 20000 in
theorem t_X12_year {G : GE} (d : Nat) {p1 : Int32} {p2 : Int32} {h : HS} {q : (Int32 × HS)} (hY : LY TM h) (H : f_X12_year p1 p2 h = some q) : CE G (d + 66) yX12_year miX12_year [.ref 60, .int p1, .int p2] h (some (.int q.1)) (q.2) := by
  unfold f_X12_year at H
  refine ce_of rfl (by decide) (fun q => by first | rfl | cases q) (Nat.le_of_ble_eq_true rfl) rfl ?_
  refine e_iload_n dX12_year_0 rfl ?_
  refine e_i2l dX12_year_1 ?_
  refine e_lconst (v := (0 : Int64)) dX12_year_2 (by decide) ?_
  refine e_ldc2 (v := (199 : Int64)) lkX12_417 dX12_year_3 ?_
  replace H := ob H; obtain ⟨q1, c2, H⟩ := H
  refine s1 lmX12_125 lsX12_in msX12_in dX12_year_6 (t_X12_in (d + 65) c2) rfl (Nat.le_of_ble_eq_true rfl) (Nat.le_refl _) ?_
  refine e_ifB_eq (tgt := 24) dX12_year_9 (by decide) (fun c3 => ?_) (fun c3 => ?_)
  · replace H := of_ (nb c3) H
    refine e_bipush (v := (-2 : Int32)) dX12_year_24 (by decide) ?_
    obtain rfl := Option.some.inj H
    exact z_iret rfl rfl dX12_year_26 rfl rfl
  · replace H := ot c3 H
    refine e_iload_n dX12_year_12 rfl ?_
    refine e_i2l dX12_year_13 ?_
    refine e_lconst (v := (0 : Int64)) dX12_year_14 (by decide) ?_
    refine e_ldc2 (v := (2 : Int64)) lkX12_213 dX12_year_15 ?_
    replace H := ob H; obtain ⟨q4, c5, H⟩ := H
    refine s1 lmX12_125 lsX12_in msX12_in dX12_year_18 (t_X12_in (d + 65) c5) rfl (Nat.le_of_ble_eq_true rfl) (Nat.le_refl _) ?_
    refine e_ifB_ne (tgt := 27) dX12_year_21 (by decide) (fun c6 => ?_) (fun c6 => ?_)
    · replace H := ot c6 H
      refine e_iconst (v := (0 : Int32)) dX12_year_27 (by decide) ?_
      refine e_istore_n dX12_year_28 (Nat.le_of_ble_eq_true rfl) rfl rfl ?_
      replace H := ob H; obtain ⟨q19, c20, H⟩ := H
      have e21 := p_X12_year_29 1000 c20
      have hY22 := hY.pr okM e21
      refine e_wk (lk1 (lk1 (lk1 (lk1 (lk1 (lk1 (lk1 (lk1 (lk1 (lk1 lkn)))))))))) (w_X12_year_29 d 1000 hY c20 ?_)
      refine e_iconst (v := (0 : Int32)) dX12_year_54 (by decide) ?_
      refine e_istore_n dX12_year_55 (Nat.le_of_ble_eq_true rfl) rfl rfl ?_
      refine e_iconst (v := (-1 : Int32)) dX12_year_56 (by decide) ?_
      refine e_istore dX12_year_57 (Nat.le_of_ble_eq_true rfl) rfl rfl ?_
      refine e_iconst (v := (0 : Int32)) dX12_year_59 (by decide) ?_
      refine e_istore dX12_year_60 (Nat.le_of_ble_eq_true rfl) rfl rfl ?_
      refine e_iconst (v := (0 : Int32)) dX12_year_62 (by decide) ?_
      refine e_istore dX12_year_63 (Nat.le_of_ble_eq_true rfl) rfl rfl ?_
      replace H := ob H; obtain ⟨q73, c74, H⟩ := H
      refine e_wk (lk1 (lk1 (lk1 (lk1 (lk1 (lk1 (lk1 (lk1 (lk1 (lk1 lkn)))))))))) (w_X12_year_65 d hY22 1000 c74 ?_)
      refine e_iload_n dX12_year_200 rfl ?_
      refine e_if_ne (tgt := 208) dX12_year_201 (by decide) (fun c75 => ?_) (fun c75 => ?_)
      · replace H := of_ c75 H
        refine e_iload_n dX12_year_208 rfl ?_
        refine e_iconst (v := (1 : Int32)) dX12_year_209 (by decide) ?_
        refine e_icmp_ne (tgt := 218) dX12_year_210 (by decide) (fun c76 => ?_) (fun c76 => ?_)
        · replace H := of_ c76 H
          refine e_iload dX12_year_218 rfl ?_
          obtain rfl := Option.some.inj H
          exact z_iret rfl rfl dX12_year_220 rfl rfl
        · replace H := ot c76 H
          refine e_iload dX12_year_213 rfl ?_
          refine e_goto (tgt := 220) dX12_year_215 (by decide) ?_
          obtain rfl := Option.some.inj H
          exact z_iret rfl rfl dX12_year_220 rfl rfl
      · replace H := ot c75 H
        refine e_iload_n dX12_year_204 rfl ?_
        refine e_goto (tgt := 220) dX12_year_205 (by decide) ?_
        obtain rfl := Option.some.inj H
        exact z_iret rfl rfl dX12_year_220 rfl rfl
    · replace H := of_ (nb c6) H
      refine e_bipush (v := (-2 : Int32)) dX12_year_24 (by decide) ?_
      obtain rfl := Option.some.inj H
      exact z_iret rfl rfl dX12_year_26 rfl rfl
-- X12_make
def l_X12_make_120 (y1 : Int32) (y2 : Int32) (y3 : Int32) (y4 : Int32) (y5 : Int32) (y6 : Int32) (y9 : Int32) (y10 : Int32) (h : HS)  : Nat → Int32 → Int32 → Int32 → Option (Int32 × Int32)
  | 0, _, _, _ => none
  | n + 1, x7, x8, x11 => (if (100 : Int32) ≤ x11 then (some (x7, x8)) else (if ((x11 * y6) - (y10 * y3)) < (y5 * y6) then (l_X12_make_120 y1 y2 y3 y4 y5 y6 y9 y10 h n x7 x8 (x11 + (1 : Int32))) else (if x7 = (-1 : Int32) then (l_X12_make_120 y1 y2 y3 y4 y5 y6 y9 y10 h n (((100 : Int32) * y9) + x11) ((x11 * y6) - (y10 * y3)) (x11 + (1 : Int32))) else (if ((x11 * y6) - (y10 * y3)) < x8 then (l_X12_make_120 y1 y2 y3 y4 y5 y6 y9 y10 h n (((100 : Int32) * y9) + x11) ((x11 * y6) - (y10 * y3)) (x11 + (1 : Int32))) else (l_X12_make_120 y1 y2 y3 y4 y5 y6 y9 y10 h n x7 x8 (x11 + (1 : Int32)))))))
set_option maxHeartbeats 4000000 in
set_option maxRecDepth 20000 in
theorem w_X12_make_120 {G : GE} (d : Nat) {y1 : Int32} {y2 : Int32} {y3 : Int32} {y4 : Int32} {y5 : Int32} {y6 : Int32} {y9 : Int32} {y10 : Int32} {h : HS} {r : Option Value} {h' : HS} (hYTM : LY TM h) : ∀ (n : Nat) {x7 : Int32} {x8 : Int32} {x11 : Int32} {q : (Int32 × Int32)}, l_X12_make_120 y1 y2 y3 y4 y5 y6 y9 y10 h n x7 x8 x11 = some q → En G (d + 5) miX12_make 185 [.ref 60, .int y1, .int y2, .int y3, .int y4, .int y5, .int y6, .int q.1, .int q.2, .int y9, dum, dum, dum] [] h r h' → En G (d + 5) miX12_make 120 [.ref 60, .int y1, .int y2, .int y3, .int y4, .int y5, .int y6, .int x7, .int x8, .int y9, .int y10, .int x11, dum] [] h r h' := by
  intro n
  induction n with
  | zero => intro x7 x8 x11 q H kE; exact nz H
  | succ n ih =>
    intro x7 x8 x11 q H kE
    unfold l_X12_make_120 at H
    refine e_iload dX12_make_120 rfl ?_
    refine e_bipush (v := (100 : Int32)) dX12_make_122 (by decide) ?_
    refine e_icmp_ge (tgt := 185) dX12_make_124 (by decide) (fun c46 => ?_) (fun c46 => ?_)
    · replace H := ot c46 H
      obtain rfl := Option.some.inj H
      exact e_wk (lk1 (lk1 (lk1 (lk1 (lk1 (lk1 (lk1 (lk1 (lk1 (lk1 (lk0 (lk0 (lk1 lkn))))))))))))) kE
    · replace H := of_ c46 H
      refine e_iload dX12_make_127 rfl ?_
      refine e_iload dX12_make_129 rfl ?_
      refine e_imul dX12_make_131 ?_
      refine e_iload dX12_make_132 rfl ?_
      refine e_iload_n dX12_make_134 rfl ?_
      refine e_imul dX12_make_135 ?_
      refine e_isub dX12_make_136 ?_
      refine e_istore dX12_make_137 (Nat.le_of_ble_eq_true rfl) rfl rfl ?_
      refine e_iload dX12_make_139 rfl ?_
      refine e_iload dX12_make_141 rfl ?_
      refine e_iload dX12_make_143 rfl ?_
      refine e_imul dX12_make_145 ?_
      refine e_icmp_lt (tgt := 179) dX12_make_146 (by decide) (fun c47 => ?_) (fun c47 => ?_)
      · replace H := ot c47 H
        refine e_iinc dX12_make_179 rfl (ii_ (by decide : Int32.ofInt (1) = (1 : Int32))) (Nat.le_of_ble_eq_true rfl) rfl rfl ?_
        refine e_goto (tgt := 120) dX12_make_182 (by decide) ?_
        exact e_wk (lk1 (lk1 (lk1 (lk1 (lk1 (lk1 (lk1 (lk1 (lk1 (lk1 (lk1 (lk1 (lk0 lkn))))))))))))) (ih H kE)
      · replace H := of_ c47 H
        refine e_iload dX12_make_149 rfl ?_
        refine e_iconst (v := (-1 : Int32)) dX12_make_151 (by decide) ?_
        refine e_icmp_eq (tgt := 165) dX12_make_152 (by decide) (fun c48 => ?_) (fun c48 => ?_)
        · replace H := ot c48 H
          refine e_bipush (v := (100 : Int32)) dX12_make_165 (by decide) ?_
          refine e_iload dX12_make_167 rfl ?_
          refine e_imul dX12_make_169 ?_
          refine e_iload dX12_make_170 rfl ?_
          refine e_iadd dX12_make_172 ?_
          refine e_istore dX12_make_173 (Nat.le_of_ble_eq_true rfl) rfl rfl ?_
          refine e_iload dX12_make_175 rfl ?_
          refine e_istore dX12_make_177 (Nat.le_of_ble_eq_true rfl) rfl rfl ?_
          refine e_iinc dX12_make_179 rfl (ii_ (by decide : Int32.ofInt (1) = (1 : Int32))) (Nat.le_of_ble_eq_true rfl) rfl rfl ?_
          refine e_goto (tgt := 120) dX12_make_182 (by decide) ?_
          exact e_wk (lk1 (lk1 (lk1 (lk1 (lk1 (lk1 (lk1 (lk1 (lk1 (lk1 (lk1 (lk1 (lk0 lkn))))))))))))) (ih H kE)
        · replace H := of_ c48 H
          refine e_iload dX12_make_155 rfl ?_
          refine e_iload dX12_make_157 rfl ?_
          refine e_icmp_lt (tgt := 165) dX12_make_159 (by decide) (fun c49 => ?_) (fun c49 => ?_)
          · replace H := ot c49 H
            refine e_bipush (v := (100 : Int32)) dX12_make_165 (by decide) ?_
            refine e_iload dX12_make_167 rfl ?_
            refine e_imul dX12_make_169 ?_
            refine e_iload dX12_make_170 rfl ?_
            refine e_iadd dX12_make_172 ?_
            refine e_istore dX12_make_173 (Nat.le_of_ble_eq_true rfl) rfl rfl ?_
            refine e_iload dX12_make_175 rfl ?_
            refine e_istore dX12_make_177 (Nat.le_of_ble_eq_true rfl) rfl rfl ?_
            refine e_iinc dX12_make_179 rfl (ii_ (by decide : Int32.ofInt (1) = (1 : Int32))) (Nat.le_of_ble_eq_true rfl) rfl rfl ?_
            refine e_goto (tgt := 120) dX12_make_182 (by decide) ?_
            exact e_wk (lk1 (lk1 (lk1 (lk1 (lk1 (lk1 (lk1 (lk1 (lk1 (lk1 (lk1 (lk1 (lk0 lkn))))))))))))) (ih H kE)
          · replace H := of_ c49 H
            refine e_goto (tgt := 179) dX12_make_162 (by decide) ?_
            refine e_iinc dX12_make_179 rfl (ii_ (by decide : Int32.ofInt (1) = (1 : Int32))) (Nat.le_of_ble_eq_true rfl) rfl rfl ?_
            refine e_goto (tgt := 120) dX12_make_182 (by decide) ?_
            exact e_wk (lk1 (lk1 (lk1 (lk1 (lk1 (lk1 (lk1 (lk1 (lk1 (lk1 (lk1 (lk1 (lk0 lkn))))))))))))) (ih H kE)
def l_X12_make_79 (y1 : Int32) (y2 : Int32) (y3 : Int32) (y4 : Int32) (y5 : Int32) (y6 : Int32)  : Nat → Int32 → Int32 → Int32 → HS → Option (Int32 × HS)
  | 0, _, _, _, _ => none
  | n + 1, x7, x8, x9, h => (if (10 : Int32) ≤ x9 then (some (x7, h)) else (Option.bind (f_X12_bestOf y1 (1010 : Int32) x9 (0 : Int32) y2 h) (fun q36 => (if ¬ y6 = 0 then (if y4 ≤ (((1000 : Int32) * q36.1) / y6) then (Option.bind (l_X12_make_120 y1 y2 y3 y4 y5 y6 x9 q36.1 q36.2 1000 x7 x8 (1 : Int32)) (fun q50 => (l_X12_make_79 y1 y2 y3 y4 y5 y6 n q50.1 q50.2 (x9 + (1 : Int32)) q36.2))) else (l_X12_make_79 y1 y2 y3 y4 y5 y6 n x7 x8 (x9 + (1 : Int32)) q36.2)) else none))))
set_option maxHeartbeats 4000000 in
set_option maxRecDepth 20000 in
theorem p_X12_make_79 {y1 : Int32} {y2 : Int32} {y3 : Int32} {y4 : Int32} {y5 : Int32} {y6 : Int32} : ∀ (n : Nat) {x7 : Int32} {x8 : Int32} {x9 : Int32} {h : HS} {q : (Int32 × HS)}, l_X12_make_79 y1 y2 y3 y4 y5 y6 n x7 x8 x9 h = some q → Pr h q.2 := by
  intro n
  induction n with
  | zero => intro x7 x8 x9 h q H; exact nz H
  | succ n ih =>
    intro x7 x8 x9 h q H
    unfold l_X12_make_79 at H
    replace H := oi H; obtain ⟨c35, H⟩ | ⟨c35, H⟩ := H
    · obtain rfl := Option.some.inj H
      exact Pr.rf
    · replace H := ob H; obtain ⟨q36, c37, H⟩ := H
      have e38 := p_X12_bestOf c37
      replace H := og H; obtain ⟨g40, H⟩ := H
      replace H := oi H; obtain ⟨c41, H⟩ | ⟨c41, H⟩ := H
      · replace H := ob H; obtain ⟨q50, c51, H⟩ := H
        exact e38.tr (ih H)
      · exact e38.tr (ih H)
set_option maxHeartbeats 4000000 in
set_option maxRecDepth 20000 in
theorem w_X12_make_79 {G : GE} (d : Nat) {y1 : Int32} {y2 : Int32} {y3 : Int32} {y4 : Int32} {y5 : Int32} {y6 : Int32} {r : Option Value} {h' : HS}  : ∀ (n : Nat) {x7 : Int32} {x8 : Int32} {x9 : Int32} {h : HS} {q : (Int32 × HS)}, LY TM h → l_X12_make_79 y1 y2 y3 y4 y5 y6 n x7 x8 x9 h = some q → En G (d + 5) miX12_make 191 [dum, dum, dum, dum, dum, dum, dum, .int q.1, dum, dum, dum, dum, dum] [] q.2 r h' → En G (d + 5) miX12_make 79 [.ref 60, .int y1, .int y2, .int y3, .int y4, .int y5, .int y6, .int x7, .int x8, .int x9, dum, dum, dum] [] h r h' := by
  intro n
  induction n with
  | zero => intro x7 x8 x9 h q hYTM H kE; exact nz H
  | succ n ih =>
    intro x7 x8 x9 h q hYTM H kE
    unfold l_X12_make_79 at H
    refine e_iload dX12_make_79 rfl ?_
    refine e_bipush (v := (10 : Int32)) dX12_make_81 (by decide) ?_
    refine e_icmp_ge (tgt := 191) dX12_make_83 (by decide) (fun c35 => ?_) (fun c35 => ?_)
    · replace H := ot c35 H
      obtain rfl := Option.some.inj H
      exact e_wk (lk0 (lk0 (lk0 (lk0 (lk0 (lk0 (lk0 (lk1 (lk0 (lk0 (lk1 (lk1 (lk1 lkn))))))))))))) kE
    · replace H := of_ c35 H
      refine g_aload_n dX12_make_86 rfl rfl ?_
      refine e_iload_n dX12_make_87 rfl ?_
      refine e_sipush (v := (1010 : Int32)) dX12_make_88 (by decide) ?_
      refine e_iload dX12_make_91 rfl ?_
      refine e_iconst (v := (0 : Int32)) dX12_make_93 (by decide) ?_
      refine e_iload_n dX12_make_94 rfl ?_
      replace H := ob H; obtain ⟨q36, c37, H⟩ := H
      refine v1 (hYTM.t 0 rfl) (by decide) rfl rfl lmX12_209 liX12_bestOf lvX12_X12_bestOf msX12_bestOf dX12_make_95 (t_X12_bestOf (d + 0) hYTM c37) rfl (Nat.le_of_ble_eq_true rfl) (Nat.le_refl _) ?_
      have e38 := p_X12_bestOf c37
      have hY39 := hYTM.pr okM e38
      refine e_istore dX12_make_98 (Nat.le_of_ble_eq_true rfl) rfl rfl ?_
      refine e_sipush (v := (1000 : Int32)) dX12_make_100 (by decide) ?_
      refine e_iload dX12_make_103 rfl ?_
      refine e_imul dX12_make_105 ?_
      refine e_iload dX12_make_106 rfl ?_
      replace H := og H; obtain ⟨g40, H⟩ := H
      refine e_idiv dX12_make_108 g40 ?_
      refine e_iload dX12_make_109 rfl ?_
      refine e_icmp_ge (tgt := 117) dX12_make_111 (by decide) (fun c41 => ?_) (fun c41 => ?_)
      · replace H := ot c41 H
        refine e_iconst (v := (1 : Int32)) dX12_make_117 (by decide) ?_
        refine e_istore dX12_make_118 (Nat.le_of_ble_eq_true rfl) rfl rfl ?_
        replace H := ob H; obtain ⟨q50, c51, H⟩ := H
        refine e_wk (lk1 (lk1 (lk1 (lk1 (lk1 (lk1 (lk1 (lk1 (lk1 (lk1 (lk1 (lk1 (lk1 lkn))))))))))))) (w_X12_make_120 d hY39 1000 c51 ?_)
        refine e_iinc dX12_make_185 rfl (ii_ (by decide : Int32.ofInt (1) = (1 : Int32))) (Nat.le_of_ble_eq_true rfl) rfl rfl ?_
        refine e_goto (tgt := 79) dX12_make_188 (by decide) ?_
        exact e_wk (lk1 (lk1 (lk1 (lk1 (lk1 (lk1 (lk1 (lk1 (lk1 (lk1 (lk1 (lk1 (lk1 lkn))))))))))))) (ih hY39 H kE)
      · replace H := of_ c41 H
        refine e_goto (tgt := 185) dX12_make_114 (by decide) ?_
        refine e_iinc dX12_make_185 rfl (ii_ (by decide : Int32.ofInt (1) = (1 : Int32))) (Nat.le_of_ble_eq_true rfl) rfl rfl ?_
        refine e_goto (tgt := 79) dX12_make_188 (by decide) ?_
        exact e_wk (lk1 (lk1 (lk1 (lk1 (lk1 (lk1 (lk1 (lk1 (lk1 (lk1 (lk0 (lk1 (lk1 lkn))))))))))))) (ih hY39 H kE)
def f_X12_make (p1 : Int32) (p2 : Int32) (p3 : Int32) (p4 : Int32) (p5 : Int32) (h : HS) : Option (Int32 × HS) := (Option.bind (f_X12_in p1.toInt64 (0 : Int64) (5 : Int64)) (fun q1 => (if q1 = true then (Option.bind (f_X12_isHand p2 h) (fun q4 => (if q4 = true then (Option.bind (f_X12_in p3.toInt64 (0 : Int64) (999 : Int64)) (fun q7 => (if q7 = true then (Option.bind (f_X12_in p4.toInt64 (0 : Int64) (1000 : Int64)) (fun q10 => (if q10 = true then (Option.bind (f_X12_in p5.toInt64 (-999 : Int64) (99 : Int64)) (fun q13 => (if q13 = true then (Option.bind (f_X12_allOf p2 h) (fun q16 => (Option.bind (l_X12_make_79 p1 p2 p3 p4 p5 q16 1000 (-1 : Int32) (0 : Int32) (0 : Int32) h) (fun q52 => (some (q52.1, q52.2)))))) else (some ((-2 : Int32), h))))) else (some ((-2 : Int32), h))))) else (some ((-2 : Int32), h))))) else (some ((-2 : Int32), h))))) else (some ((-2 : Int32), h)))))
set_option maxHeartbeats 4000000 in
set_option maxRecDepth 20000 in
theorem p_X12_make {p1 : Int32} {p2 : Int32} {p3 : Int32} {p4 : Int32} {p5 : Int32} {h : HS} {q : (Int32 × HS)} (H : f_X12_make p1 p2 p3 p4 p5 h = some q) : Pr h q.2 := by
  unfold f_X12_make at H
  replace H := ob H; obtain ⟨q1, c2, H⟩ := H
  replace H := oi H; obtain ⟨c3, H⟩ | ⟨c3, H⟩ := H
  · replace H := ob H; obtain ⟨q4, c5, H⟩ := H
    replace H := oi H; obtain ⟨c6, H⟩ | ⟨c6, H⟩ := H
    · replace H := ob H; obtain ⟨q7, c8, H⟩ := H
      replace H := oi H; obtain ⟨c9, H⟩ | ⟨c9, H⟩ := H
      · replace H := ob H; obtain ⟨q10, c11, H⟩ := H
        replace H := oi H; obtain ⟨c12, H⟩ | ⟨c12, H⟩ := H
        · replace H := ob H; obtain ⟨q13, c14, H⟩ := H
          replace H := oi H; obtain ⟨c15, H⟩ | ⟨c15, H⟩ := H
          · replace H := ob H; obtain ⟨q16, c17, H⟩ := H
            replace H := ob H; obtain ⟨q52, c53, H⟩ := H
            have e54 := p_X12_make_79 1000 c53
            obtain rfl := Option.some.inj H
            exact e54
          · obtain rfl := Option.some.inj H
            exact Pr.rf
        · obtain rfl := Option.some.inj H
          exact Pr.rf
      · obtain rfl := Option.some.inj H
        exact Pr.rf
    · obtain rfl := Option.some.inj H
      exact Pr.rf
  · obtain rfl := Option.some.inj H
    exact Pr.rf
set_option maxHeartbeats 4000000 in
set_option maxRecDepth 20000 in
theorem t_X12_make {G : GE} (d : Nat) {p1 : Int32} {p2 : Int32} {p3 : Int32} {p4 : Int32} {p5 : Int32} {h : HS} {q : (Int32 × HS)} (hY : LY TM h) (H : f_X12_make p1 p2 p3 p4 p5 h = some q) : CE G (d + 5) yX12_make miX12_make [.ref 60, .int p1, .int p2, .int p3, .int p4, .int p5] h (some (.int q.1)) (q.2) := by
  unfold f_X12_make at H
  refine ce_of rfl (by decide) (fun q => by first | rfl | cases q) (Nat.le_of_ble_eq_true rfl) rfl ?_
  refine e_iload_n dX12_make_0 rfl ?_
  refine e_i2l dX12_make_1 ?_
  refine e_lconst (v := (0 : Int64)) dX12_make_2 (by decide) ?_
  refine e_ldc2 (v := (5 : Int64)) lkX12_132 dX12_make_3 ?_
  replace H := ob H; obtain ⟨q1, c2, H⟩ := H
  refine s1 lmX12_125 lsX12_in msX12_in dX12_make_6 (t_X12_in (d + 4) c2) rfl (Nat.le_of_ble_eq_true rfl) (Nat.le_refl _) ?_
  refine e_ifB_eq (tgt := 60) dX12_make_9 (by decide) (fun c3 => ?_) (fun c3 => ?_)
  · replace H := of_ (nb c3) H
    refine e_bipush (v := (-2 : Int32)) dX12_make_60 (by decide) ?_
    obtain rfl := Option.some.inj H
    exact z_iret rfl rfl dX12_make_62 rfl rfl
  · replace H := ot c3 H
    refine g_aload_n dX12_make_12 rfl rfl ?_
    refine e_iload_n dX12_make_13 rfl ?_
    replace H := ob H; obtain ⟨q4, c5, H⟩ := H
    refine v1 (hY.t 0 rfl) (by decide) rfl rfl lmX12_187 liX12_isHand lvX12_X12_isHand msX12_isHand dX12_make_14 (t_X12_isHand (d + 3) hY c5) rfl (Nat.le_of_ble_eq_true rfl) (Nat.le_refl _) ?_
    refine e_ifB_eq (tgt := 60) dX12_make_17 (by decide) (fun c6 => ?_) (fun c6 => ?_)
    · replace H := of_ (nb c6) H
      refine e_bipush (v := (-2 : Int32)) dX12_make_60 (by decide) ?_
      obtain rfl := Option.some.inj H
      exact z_iret rfl rfl dX12_make_62 rfl rfl
    · replace H := ot c6 H
      refine e_iload_n dX12_make_20 rfl ?_
      refine e_i2l dX12_make_21 ?_
      refine e_lconst (v := (0 : Int64)) dX12_make_22 (by decide) ?_
      refine e_ldc2 (v := (999 : Int64)) lkX12_147 dX12_make_23 ?_
      replace H := ob H; obtain ⟨q7, c8, H⟩ := H
      refine s1 lmX12_125 lsX12_in msX12_in dX12_make_26 (t_X12_in (d + 4) c8) rfl (Nat.le_of_ble_eq_true rfl) (Nat.le_refl _) ?_
      refine e_ifB_eq (tgt := 60) dX12_make_29 (by decide) (fun c9 => ?_) (fun c9 => ?_)
      · replace H := of_ (nb c9) H
        refine e_bipush (v := (-2 : Int32)) dX12_make_60 (by decide) ?_
        obtain rfl := Option.some.inj H
        exact z_iret rfl rfl dX12_make_62 rfl rfl
      · replace H := ot c9 H
        refine e_iload dX12_make_32 rfl ?_
        refine e_i2l dX12_make_34 ?_
        refine e_lconst (v := (0 : Int64)) dX12_make_35 (by decide) ?_
        refine e_ldc2 (v := (1000 : Int64)) lkX12_419 dX12_make_36 ?_
        replace H := ob H; obtain ⟨q10, c11, H⟩ := H
        refine s1 lmX12_125 lsX12_in msX12_in dX12_make_39 (t_X12_in (d + 4) c11) rfl (Nat.le_of_ble_eq_true rfl) (Nat.le_refl _) ?_
        refine e_ifB_eq (tgt := 60) dX12_make_42 (by decide) (fun c12 => ?_) (fun c12 => ?_)
        · replace H := of_ (nb c12) H
          refine e_bipush (v := (-2 : Int32)) dX12_make_60 (by decide) ?_
          obtain rfl := Option.some.inj H
          exact z_iret rfl rfl dX12_make_62 rfl rfl
        · replace H := ot c12 H
          refine e_iload dX12_make_45 rfl ?_
          refine e_i2l dX12_make_47 ?_
          refine e_ldc2 (v := (-999 : Int64)) lkX12_421 dX12_make_48 ?_
          refine e_ldc2 (v := (99 : Int64)) lkX12_140 dX12_make_51 ?_
          replace H := ob H; obtain ⟨q13, c14, H⟩ := H
          refine s1 lmX12_125 lsX12_in msX12_in dX12_make_54 (t_X12_in (d + 4) c14) rfl (Nat.le_of_ble_eq_true rfl) (Nat.le_refl _) ?_
          refine e_ifB_ne (tgt := 63) dX12_make_57 (by decide) (fun c15 => ?_) (fun c15 => ?_)
          · replace H := ot c15 H
            refine g_aload_n dX12_make_63 rfl rfl ?_
            refine e_iload_n dX12_make_64 rfl ?_
            replace H := ob H; obtain ⟨q16, c17, H⟩ := H
            refine v1 (hY.t 0 rfl) (by decide) rfl rfl lmX12_197 liX12_allOf lvX12_X12_allOf msX12_allOf dX12_make_65 (t_X12_allOf (d + 4) hY c17) rfl (Nat.le_of_ble_eq_true rfl) (Nat.le_refl _) ?_
            refine e_istore dX12_make_68 (Nat.le_of_ble_eq_true rfl) rfl rfl ?_
            refine e_iconst (v := (-1 : Int32)) dX12_make_70 (by decide) ?_
            refine e_istore dX12_make_71 (Nat.le_of_ble_eq_true rfl) rfl rfl ?_
            refine e_iconst (v := (0 : Int32)) dX12_make_73 (by decide) ?_
            refine e_istore dX12_make_74 (Nat.le_of_ble_eq_true rfl) rfl rfl ?_
            refine e_iconst (v := (0 : Int32)) dX12_make_76 (by decide) ?_
            refine e_istore dX12_make_77 (Nat.le_of_ble_eq_true rfl) rfl rfl ?_
            replace H := ob H; obtain ⟨q52, c53, H⟩ := H
            have e54 := p_X12_make_79 1000 c53
            have hY55 := hY.pr okM e54
            refine e_wk (lk1 (lk1 (lk1 (lk1 (lk1 (lk1 (lk1 (lk1 (lk1 (lk1 (lk1 (lk1 (lk1 lkn))))))))))))) (w_X12_make_79 d 1000 hY c53 ?_)
            refine e_iload dX12_make_191 rfl ?_
            obtain rfl := Option.some.inj H
            exact z_iret rfl rfl dX12_make_193 rfl rfl
          · replace H := of_ (nb c15) H
            refine e_bipush (v := (-2 : Int32)) dX12_make_60 (by decide) ?_
            obtain rfl := Option.some.inj H
            exact z_iret rfl rfl dX12_make_62 rfl rfl
