-- X12_tries
def l_X12_tries_75 (y1 : Int32) (y3 : Int32) (y4 : Int32)  : Nat → Int32 → Int32 → HS → Option ((Int32 × HS) ⊕ (Int32 × HS))
  | 0, _, _, _ => none
  | n + 1, x5, x6, h => (if y4 ≤ x6 then (some (Sum.inr (x5, h))) else (if y3 < 0 then (some (Sum.inl ((-12 : Int32), h))) else (if ixb y1 4 = true then (if y3 ≤ (((hI h 87 y1.toNatClampNeg) - ((4 : Int32) * x6)) - (4 : Int32)) then (if ixb ((((40 : Int32) * y1) + y3) + ((4 : Int32) * x6)) 160 = true then (if ixb (((((40 : Int32) * y1) + y3) + ((4 : Int32) * x6)) + (1 : Int32)) 160 = true then (if ixb (((((40 : Int32) * y1) + y3) + ((4 : Int32) * x6)) + (2 : Int32)) 160 = true then (if ixb (((((40 : Int32) * y1) + y3) + ((4 : Int32) * x6)) + (3 : Int32)) 160 = true then (Option.bind (f_X12_shown (hI h 88 ((((40 : Int32) * y1) + y3) + ((4 : Int32) * x6)).toNatClampNeg) (hI h 88 (((((40 : Int32) * y1) + y3) + ((4 : Int32) * x6)) + (1 : Int32)).toNatClampNeg) (hI h 88 (((((40 : Int32) * y1) + y3) + ((4 : Int32) * x6)) + (2 : Int32)).toNatClampNeg) (hI h 88 (((((40 : Int32) * y1) + y3) + ((4 : Int32) * x6)) + (3 : Int32)).toNatClampNeg) h) (fun q35 => (if q35.1 < 0 then (l_X12_tries_75 y1 y3 y4 n (x5 + (0 : Int32)) (x6 + (1 : Int32)) q35.2) else (l_X12_tries_75 y1 y3 y4 n (x5 + (1 : Int32)) (x6 + (1 : Int32)) q35.2)))) else none) else none) else none) else none) else (some (Sum.inl ((-12 : Int32), h)))) else none)))
set_option maxHeartbeats 4000000 in
set_option maxRecDepth 20000 in
theorem p_X12_tries_75 {y1 : Int32} {y3 : Int32} {y4 : Int32} : ∀ (n : Nat) {x5 : Int32} {x6 : Int32} {h : HS} {q : ((Int32 × HS) ⊕ (Int32 × HS))}, l_X12_tries_75 y1 y3 y4 n x5 x6 h = some q → Pr h (Sum.elim (fun v => v.2) (fun e => e.2) q) := by
  intro n
  induction n with
  | zero => intro x5 x6 h q H; exact nz H
  | succ n ih =>
    intro x5 x6 h q H
    unfold l_X12_tries_75 at H
    replace H := oi H; obtain ⟨c27, H⟩ | ⟨c27, H⟩ := H
    · obtain rfl := Option.some.inj H
      exact Pr.rf
    · replace H := oi H; obtain ⟨c28, H⟩ | ⟨c28, H⟩ := H
      · obtain rfl := Option.some.inj H
        exact Pr.rf
      · replace H := og H; obtain ⟨g29, H⟩ := H
        replace H := oi H; obtain ⟨c30, H⟩ | ⟨c30, H⟩ := H
        · replace H := og H; obtain ⟨g31, H⟩ := H
          replace H := og H; obtain ⟨g32, H⟩ := H
          replace H := og H; obtain ⟨g33, H⟩ := H
          replace H := og H; obtain ⟨g34, H⟩ := H
          replace H := ob H; obtain ⟨q35, c36, H⟩ := H
          have e37 := p_X12_shown c36
          replace H := oi H; obtain ⟨c39, H⟩ | ⟨c39, H⟩ := H
          · exact e37.tr (ih H)
          · exact e37.tr (ih H)
        · obtain rfl := Option.some.inj H
          exact Pr.rf
set_option maxHeartbeats 4000000 in
set_option maxRecDepth 20000 in
theorem w_X12_tries_75 {G : GE} (d : Nat) {y1 : Int32} {y3 : Int32} {y4 : Int32} {r : Option Value} {h' : HS}  : ∀ (n : Nat) {x5 : Int32} {x6 : Int32} {h : HS} {q : ((Int32 × HS) ⊕ (Int32 × HS))}, LY TM h → l_X12_tries_75 y1 y3 y4 n x5 x6 h = some q → (∀ v, q = Sum.inl v → r = some (.int v.1) ∧ h' = v.2) → (∀ e, q = Sum.inr e → En G (d + 3) miX12_tries 176 [dum, dum, dum, dum, dum, .int e.1, dum, dum] [] e.2 r h') → En G (d + 3) miX12_tries 75 [.ref 60, .int y1, dum, .int y3, .int y4, .int x5, .int x6, dum] [] h r h' := by
  intro n
  induction n with
  | zero => intro x5 x6 h q hYTM H kR kE; exact nz H
  | succ n ih =>
    intro x5 x6 h q hYTM H kR kE
    unfold l_X12_tries_75 at H
    refine e_iload dX12_tries_75 rfl ?_
    refine e_iload dX12_tries_77 rfl ?_
    refine e_icmp_ge (tgt := 176) dX12_tries_79 (by decide) (fun c27 => ?_) (fun c27 => ?_)
    · replace H := ot c27 H
      obtain rfl := Option.some.inj H
      exact e_wk (lk0 (lk0 (lk1 (lk0 (lk0 (lk1 (lk0 (lk1 lkn)))))))) (kE _ rfl)
    · replace H := of_ c27 H
      refine e_iload_n dX12_tries_82 rfl ?_
      refine e_if_lt (tgt := 103) dX12_tries_83 (by decide) (fun c28 => ?_) (fun c28 => ?_)
      · replace H := ot c28 H
        refine e_bipush (v := (-12 : Int32)) dX12_tries_103 (by decide) ?_
        obtain rfl := Option.some.inj H
        obtain ⟨eR, eH⟩ := kR _ rfl
        exact z_iret rfl rfl dX12_tries_105 eR eH
      · replace H := of_ c28 H
        refine e_iload_n dX12_tries_86 rfl ?_
        refine g_aload_n dX12_tries_87 rfl rfl ?_
        refine e_getR (hYTM.t 0 rfl) flX12_93_13 dX12_tries_88 rfl (hYTM.r 26 rfl) ?_
        refine e_iload_n dX12_tries_91 rfl ?_
        replace H := og H; obtain ⟨g29, H⟩ := H
        refine e_iald (hYTM.t 27 rfl) (ixb_y (hYTM.n 27 rfl) g29) dX12_tries_92 ?_
        refine e_iconst (v := (4 : Int32)) dX12_tries_93 (by decide) ?_
        refine e_iload dX12_tries_94 rfl ?_
        refine e_imul dX12_tries_96 ?_
        refine e_isub dX12_tries_97 ?_
        refine e_iconst (v := (4 : Int32)) dX12_tries_98 (by decide) ?_
        refine e_isub dX12_tries_99 ?_
        refine e_icmp_le (tgt := 106) dX12_tries_100 (by decide) (fun c30 => ?_) (fun c30 => ?_)
        · replace H := ot c30 H
          refine e_bipush (v := (40 : Int32)) dX12_tries_106 (by decide) ?_
          refine e_iload_n dX12_tries_108 rfl ?_
          refine e_imul dX12_tries_109 ?_
          refine e_iload_n dX12_tries_110 rfl ?_
          refine e_iadd dX12_tries_111 ?_
          refine e_iconst (v := (4 : Int32)) dX12_tries_112 (by decide) ?_
          refine e_iload dX12_tries_113 rfl ?_
          refine e_imul dX12_tries_115 ?_
          refine e_iadd dX12_tries_116 ?_
          refine e_istore dX12_tries_117 (Nat.le_of_ble_eq_true rfl) rfl rfl ?_
          refine e_iload dX12_tries_119 rfl ?_
          refine g_aload_n dX12_tries_121 rfl rfl ?_
          refine g_aload_n dX12_tries_122 rfl rfl ?_
          refine e_getR (hYTM.t 0 rfl) flX12_96_13 dX12_tries_123 rfl (hYTM.r 27 rfl) ?_
          refine e_iload dX12_tries_126 rfl ?_
          replace H := og H; obtain ⟨g31, H⟩ := H
          refine e_iald (hYTM.t 28 rfl) (ixb_y (hYTM.n 28 rfl) g31) dX12_tries_128 ?_
          refine g_aload_n dX12_tries_129 rfl rfl ?_
          refine e_getR (hYTM.t 0 rfl) flX12_96_13 dX12_tries_130 rfl (hYTM.r 27 rfl) ?_
          refine e_iload dX12_tries_133 rfl ?_
          refine e_iconst (v := (1 : Int32)) dX12_tries_135 (by decide) ?_
          refine e_iadd dX12_tries_136 ?_
          replace H := og H; obtain ⟨g32, H⟩ := H
          refine e_iald (hYTM.t 28 rfl) (ixb_y (hYTM.n 28 rfl) g32) dX12_tries_137 ?_
          refine g_aload_n dX12_tries_138 rfl rfl ?_
          refine e_getR (hYTM.t 0 rfl) flX12_96_13 dX12_tries_139 rfl (hYTM.r 27 rfl) ?_
          refine e_iload dX12_tries_142 rfl ?_
          refine e_iconst (v := (2 : Int32)) dX12_tries_144 (by decide) ?_
          refine e_iadd dX12_tries_145 ?_
          replace H := og H; obtain ⟨g33, H⟩ := H
          refine e_iald (hYTM.t 28 rfl) (ixb_y (hYTM.n 28 rfl) g33) dX12_tries_146 ?_
          refine g_aload_n dX12_tries_147 rfl rfl ?_
          refine e_getR (hYTM.t 0 rfl) flX12_96_13 dX12_tries_148 rfl (hYTM.r 27 rfl) ?_
          refine e_iload dX12_tries_151 rfl ?_
          refine e_iconst (v := (3 : Int32)) dX12_tries_153 (by decide) ?_
          refine e_iadd dX12_tries_154 ?_
          replace H := og H; obtain ⟨g34, H⟩ := H
          refine e_iald (hYTM.t 28 rfl) (ixb_y (hYTM.n 28 rfl) g34) dX12_tries_155 ?_
          replace H := ob H; obtain ⟨q35, c36, H⟩ := H
          refine v1 (hYTM.t 0 rfl) (by decide) rfl rfl lmX12_447 liX12_shown lvX12_X12_shown msX12_shown dX12_tries_156 (t_X12_shown (d + 0) hYTM c36) rfl (Nat.le_of_ble_eq_true rfl) (Nat.le_refl _) ?_
          have e37 := p_X12_shown c36
          have hY38 := hYTM.pr okM e37
          refine e_if_lt (tgt := 166) dX12_tries_159 (by decide) (fun c39 => ?_) (fun c39 => ?_)
          · replace H := ot c39 H
            refine e_iconst (v := (0 : Int32)) dX12_tries_166 (by decide) ?_
            refine e_iadd dX12_tries_167 ?_
            refine e_istore dX12_tries_168 (Nat.le_of_ble_eq_true rfl) rfl rfl ?_
            refine e_iinc dX12_tries_170 rfl (ii_ (by decide : Int32.ofInt (1) = (1 : Int32))) (Nat.le_of_ble_eq_true rfl) rfl rfl ?_
            refine e_goto (tgt := 75) dX12_tries_173 (by decide) ?_
            exact e_wk (lk1 (lk1 (lk1 (lk1 (lk1 (lk1 (lk1 (lk0 lkn)))))))) (ih hY38 H kR kE)
          · replace H := of_ c39 H
            refine e_iconst (v := (1 : Int32)) dX12_tries_162 (by decide) ?_
            refine e_goto (tgt := 167) dX12_tries_163 (by decide) ?_
            refine e_iadd dX12_tries_167 ?_
            refine e_istore dX12_tries_168 (Nat.le_of_ble_eq_true rfl) rfl rfl ?_
            refine e_iinc dX12_tries_170 rfl (ii_ (by decide : Int32.ofInt (1) = (1 : Int32))) (Nat.le_of_ble_eq_true rfl) rfl rfl ?_
            refine e_goto (tgt := 75) dX12_tries_173 (by decide) ?_
            exact e_wk (lk1 (lk1 (lk1 (lk1 (lk1 (lk1 (lk1 (lk0 lkn)))))))) (ih hY38 H kR kE)
        · replace H := of_ c30 H
          refine e_bipush (v := (-12 : Int32)) dX12_tries_103 (by decide) ?_
          obtain rfl := Option.some.inj H
          obtain ⟨eR, eH⟩ := kR _ rfl
          exact z_iret rfl rfl dX12_tries_105 eR eH
def f_X12_tries (p1 : Int32) (p2 : Int32) (p3 : Int32) (p4 : Int32) (h : HS) : Option (Int32 × HS) := (Option.bind (f_X12_isSheet p1) (fun q1 => (if q1 = true then (Option.bind (f_X12_in p2.toInt64 (0 : Int64) (2 : Int64)) (fun q4 => (if q4 = true then (Option.bind (f_X12_in p4.toInt64 (0 : Int64) (10 : Int64)) (fun q7 => (if q7 = true then (if ixb p1 4 = true then (if (hI h 85 p1.toNatClampNeg) = 0 then (if ixb p1 4 = true then (if (hI h 85 p1.toNatClampNeg) = 0 then (some ((-11 : Int32), h)) else (Option.bind (l_X12_tries_75 p1 p3 p4 1000 (0 : Int32) (0 : Int32) h) (fun q40 => (Sum.elim (fun v => some v) (fun e42 => (some (e42.1, e42.2))) q40)))) else none) else (if ixb p1 4 = true then (if (hI h 86 p1.toNatClampNeg) = p2 then (if ixb p1 4 = true then (if (hI h 85 p1.toNatClampNeg) = 0 then (some ((-11 : Int32), h)) else (Option.bind (l_X12_tries_75 p1 p3 p4 1000 (0 : Int32) (0 : Int32) h) (fun q50 => (Sum.elim (fun v => some v) (fun e52 => (some (e52.1, e52.2))) q50)))) else none) else (some ((-13 : Int32), h))) else none)) else none) else (some ((-2 : Int32), h))))) else (some ((-2 : Int32), h))))) else (some ((-2 : Int32), h)))))
set_option maxHeartbeats 4000000 in
set_option maxRecDepth 20000 in
theorem p_X12_tries {p1 : Int32} {p2 : Int32} {p3 : Int32} {p4 : Int32} {h : HS} {q : (Int32 × HS)} (H : f_X12_tries p1 p2 p3 p4 h = some q) : Pr h q.2 := by
  unfold f_X12_tries at H
  replace H := ob H; obtain ⟨q1, c2, H⟩ := H
  replace H := oi H; obtain ⟨c3, H⟩ | ⟨c3, H⟩ := H
  · replace H := ob H; obtain ⟨q4, c5, H⟩ := H
    replace H := oi H; obtain ⟨c6, H⟩ | ⟨c6, H⟩ := H
    · replace H := ob H; obtain ⟨q7, c8, H⟩ := H
      replace H := oi H; obtain ⟨c9, H⟩ | ⟨c9, H⟩ := H
      · replace H := og H; obtain ⟨g10, H⟩ := H
        replace H := oi H; obtain ⟨c11, H⟩ | ⟨c11, H⟩ := H
        · replace H := og H; obtain ⟨g12, H⟩ := H
          replace H := oi H; obtain ⟨c13, H⟩ | ⟨c13, H⟩ := H
          · obtain rfl := Option.some.inj H
            exact Pr.rf
          · replace H := ob H; obtain ⟨q40, c41, H⟩ := H
            rcases q40 with v45 | e42
            · replace H := oSl H; obtain rfl := Option.some.inj H
              exact p_X12_tries_75 1000 c41
            · replace H := oSr H
              have e43 : Pr h e42.2 := p_X12_tries_75 1000 c41
              obtain rfl := Option.some.inj H
              exact e43
        · replace H := og H; obtain ⟨g46, H⟩ := H
          replace H := oi H; obtain ⟨c47, H⟩ | ⟨c47, H⟩ := H
          · replace H := og H; obtain ⟨g48, H⟩ := H
            replace H := oi H; obtain ⟨c49, H⟩ | ⟨c49, H⟩ := H
            · obtain rfl := Option.some.inj H
              exact Pr.rf
            · replace H := ob H; obtain ⟨q50, c51, H⟩ := H
              rcases q50 with v55 | e52
              · replace H := oSl H; obtain rfl := Option.some.inj H
                exact p_X12_tries_75 1000 c51
              · replace H := oSr H
                have e53 : Pr h e52.2 := p_X12_tries_75 1000 c51
                obtain rfl := Option.some.inj H
                exact e53
          · obtain rfl := Option.some.inj H
            exact Pr.rf
      · obtain rfl := Option.some.inj H
        exact Pr.rf
    · obtain rfl := Option.some.inj H
      exact Pr.rf
  · obtain rfl := Option.some.inj H
    exact Pr.rf
set_option maxHeartbeats 4000000 in
set_option maxRecDepth 20000 in
theorem t_X12_tries {G : GE} (d : Nat) {p1 : Int32} {p2 : Int32} {p3 : Int32} {p4 : Int32} {h : HS} {q : (Int32 × HS)} (hY : LY TM h) (H : f_X12_tries p1 p2 p3 p4 h = some q) : CE G (d + 3) yX12_tries miX12_tries [.ref 60, .int p1, .int p2, .int p3, .int p4] h (some (.int q.1)) (q.2) := by
  unfold f_X12_tries at H
  refine ce_of rfl (by decide) (fun q => by first | rfl | cases q) (Nat.le_of_ble_eq_true rfl) rfl ?_
  refine e_iload_n dX12_tries_0 rfl ?_
  replace H := ob H; obtain ⟨q1, c2, H⟩ := H
  refine s1 lmX12_444 lsX12_isSheet msX12_isSheet dX12_tries_1 (t_X12_isSheet (d + 1) c2) rfl (Nat.le_of_ble_eq_true rfl) (Nat.le_refl _) ?_
  refine e_ifB_eq (tgt := 32) dX12_tries_4 (by decide) (fun c3 => ?_) (fun c3 => ?_)
  · replace H := of_ (nb c3) H
    refine e_bipush (v := (-2 : Int32)) dX12_tries_32 (by decide) ?_
    obtain rfl := Option.some.inj H
    exact z_iret rfl rfl dX12_tries_34 rfl rfl
  · replace H := ot c3 H
    refine e_iload_n dX12_tries_7 rfl ?_
    refine e_i2l dX12_tries_8 ?_
    refine e_lconst (v := (0 : Int64)) dX12_tries_9 (by decide) ?_
    refine e_ldc2 (v := (2 : Int64)) lkX12_213 dX12_tries_10 ?_
    replace H := ob H; obtain ⟨q4, c5, H⟩ := H
    refine s1 lmX12_125 lsX12_in msX12_in dX12_tries_13 (t_X12_in (d + 2) c5) rfl (Nat.le_of_ble_eq_true rfl) (Nat.le_refl _) ?_
    refine e_ifB_eq (tgt := 32) dX12_tries_16 (by decide) (fun c6 => ?_) (fun c6 => ?_)
    · replace H := of_ (nb c6) H
      refine e_bipush (v := (-2 : Int32)) dX12_tries_32 (by decide) ?_
      obtain rfl := Option.some.inj H
      exact z_iret rfl rfl dX12_tries_34 rfl rfl
    · replace H := ot c6 H
      refine e_iload dX12_tries_19 rfl ?_
      refine e_i2l dX12_tries_21 ?_
      refine e_lconst (v := (0 : Int64)) dX12_tries_22 (by decide) ?_
      refine e_ldc2 (v := (10 : Int64)) lkX12_281 dX12_tries_23 ?_
      replace H := ob H; obtain ⟨q7, c8, H⟩ := H
      refine s1 lmX12_125 lsX12_in msX12_in dX12_tries_26 (t_X12_in (d + 2) c8) rfl (Nat.le_of_ble_eq_true rfl) (Nat.le_refl _) ?_
      refine e_ifB_ne (tgt := 35) dX12_tries_29 (by decide) (fun c9 => ?_) (fun c9 => ?_)
      · replace H := ot c9 H
        refine g_aload_n dX12_tries_35 rfl rfl ?_
        refine e_getR (hY.t 0 rfl) flX12_86_13 dX12_tries_36 rfl (hY.r 24 rfl) ?_
        refine e_iload_n dX12_tries_39 rfl ?_
        replace H := og H; obtain ⟨g10, H⟩ := H
        refine e_zald (hY.t 25 rfl) (ixb_y (hY.n 25 rfl) g10) dX12_tries_40 ?_
        refine e_if_eq (tgt := 57) dX12_tries_41 (by decide) (fun c11 => ?_) (fun c11 => ?_)
        · replace H := ot c11 H
          refine g_aload_n dX12_tries_57 rfl rfl ?_
          refine e_getR (hY.t 0 rfl) flX12_86_13 dX12_tries_58 rfl (hY.r 24 rfl) ?_
          refine e_iload_n dX12_tries_61 rfl ?_
          replace H := og H; obtain ⟨g12, H⟩ := H
          refine e_zald (hY.t 25 rfl) (ixb_y (hY.n 25 rfl) g12) dX12_tries_62 ?_
          refine e_if_ne (tgt := 69) dX12_tries_63 (by decide) (fun c13 => ?_) (fun c13 => ?_)
          · replace H := of_ c13 H
            refine e_iconst (v := (0 : Int32)) dX12_tries_69 (by decide) ?_
            refine e_istore dX12_tries_70 (Nat.le_of_ble_eq_true rfl) rfl rfl ?_
            refine e_iconst (v := (0 : Int32)) dX12_tries_72 (by decide) ?_
            refine e_istore dX12_tries_73 (Nat.le_of_ble_eq_true rfl) rfl rfl ?_
            replace H := ob H; obtain ⟨q40, c41, H⟩ := H
            refine e_wk (lk1 (lk1 (lk0 (lk1 (lk1 (lk1 (lk1 (lk1 lkn)))))))) (w_X12_tries_75 d 1000 hY c41 (fun v45 E0 => ?_) (fun e42 E0 => ?_))
            · subst E0; replace H := oSl H; obtain rfl := Option.some.inj H
              exact ⟨rfl, rfl⟩
            · subst E0; replace H := oSr H
              have e43 : Pr h e42.2 := p_X12_tries_75 1000 c41
              have hY44 := hY.pr okM e43
              refine e_iload dX12_tries_176 rfl ?_
              obtain rfl := Option.some.inj H
              exact z_iret rfl rfl dX12_tries_178 rfl rfl
          · replace H := ot c13 H
            refine e_bipush (v := (-11 : Int32)) dX12_tries_66 (by decide) ?_
            obtain rfl := Option.some.inj H
            exact z_iret rfl rfl dX12_tries_68 rfl rfl
        · replace H := of_ c11 H
          refine g_aload_n dX12_tries_44 rfl rfl ?_
          refine e_getR (hY.t 0 rfl) flX12_90_13 dX12_tries_45 rfl (hY.r 25 rfl) ?_
          refine e_iload_n dX12_tries_48 rfl ?_
          replace H := og H; obtain ⟨g46, H⟩ := H
          refine e_iald (hY.t 26 rfl) (ixb_y (hY.n 26 rfl) g46) dX12_tries_49 ?_
          refine e_iload_n dX12_tries_50 rfl ?_
          refine e_icmp_eq (tgt := 57) dX12_tries_51 (by decide) (fun c47 => ?_) (fun c47 => ?_)
          · replace H := ot c47 H
            refine g_aload_n dX12_tries_57 rfl rfl ?_
            refine e_getR (hY.t 0 rfl) flX12_86_13 dX12_tries_58 rfl (hY.r 24 rfl) ?_
            refine e_iload_n dX12_tries_61 rfl ?_
            replace H := og H; obtain ⟨g48, H⟩ := H
            refine e_zald (hY.t 25 rfl) (ixb_y (hY.n 25 rfl) g48) dX12_tries_62 ?_
            refine e_if_ne (tgt := 69) dX12_tries_63 (by decide) (fun c49 => ?_) (fun c49 => ?_)
            · replace H := of_ c49 H
              refine e_iconst (v := (0 : Int32)) dX12_tries_69 (by decide) ?_
              refine e_istore dX12_tries_70 (Nat.le_of_ble_eq_true rfl) rfl rfl ?_
              refine e_iconst (v := (0 : Int32)) dX12_tries_72 (by decide) ?_
              refine e_istore dX12_tries_73 (Nat.le_of_ble_eq_true rfl) rfl rfl ?_
              replace H := ob H; obtain ⟨q50, c51, H⟩ := H
              refine e_wk (lk1 (lk1 (lk0 (lk1 (lk1 (lk1 (lk1 (lk1 lkn)))))))) (w_X12_tries_75 d 1000 hY c51 (fun v55 E0 => ?_) (fun e52 E0 => ?_))
              · subst E0; replace H := oSl H; obtain rfl := Option.some.inj H
                exact ⟨rfl, rfl⟩
              · subst E0; replace H := oSr H
                have e53 : Pr h e52.2 := p_X12_tries_75 1000 c51
                have hY54 := hY.pr okM e53
                refine e_iload dX12_tries_176 rfl ?_
                obtain rfl := Option.some.inj H
                exact z_iret rfl rfl dX12_tries_178 rfl rfl
            · replace H := ot c49 H
              refine e_bipush (v := (-11 : Int32)) dX12_tries_66 (by decide) ?_
              obtain rfl := Option.some.inj H
              exact z_iret rfl rfl dX12_tries_68 rfl rfl
          · replace H := of_ c47 H
            refine e_bipush (v := (-13 : Int32)) dX12_tries_54 (by decide) ?_
            obtain rfl := Option.some.inj H
            exact z_iret rfl rfl dX12_tries_56 rfl rfl
      · replace H := of_ (nb c9) H
        refine e_bipush (v := (-2 : Int32)) dX12_tries_32 (by decide) ?_
        obtain rfl := Option.some.inj H
        exact z_iret rfl rfl dX12_tries_34 rfl rfl
-- X12_over
def f_X12_over (p0 : Int32) : Option Int32 := (if p0 = 0 then (some (-1 : Int32)) else (if p0 = (3 : Int32) then (some (2 : Int32)) else (if p0 = (5 : Int32) then (some (1 : Int32)) else (some (0 : Int32)))))
set_option maxHeartbeats 4000000 in
set_option maxRecDepth 20000 in
theorem t_X12_over {G : GE} (d : Nat) {p0 : Int32} {h : HS} {q : Int32} (H : f_X12_over p0 = some q) : CE G (d + 0) yX12_over miX12_over [.int p0] h (some (.int q)) (h) := by
  unfold f_X12_over at H
  refine ce_of rfl (by decide) (fun q => by first | rfl | cases q) (Nat.le_of_ble_eq_true rfl) rfl ?_
  refine e_iload_n dX12_over_0 rfl ?_
  refine e_if_ne (tgt := 8) dX12_over_1 (by decide) (fun c1 => ?_) (fun c1 => ?_)
  · replace H := of_ c1 H
    refine e_iload_n dX12_over_8 rfl ?_
    refine e_iconst (v := (3 : Int32)) dX12_over_9 (by decide) ?_
    refine e_icmp_ne (tgt := 17) dX12_over_10 (by decide) (fun c2 => ?_) (fun c2 => ?_)
    · replace H := of_ c2 H
      refine e_iload_n dX12_over_17 rfl ?_
      refine e_iconst (v := (5 : Int32)) dX12_over_18 (by decide) ?_
      refine e_icmp_ne (tgt := 26) dX12_over_19 (by decide) (fun c3 => ?_) (fun c3 => ?_)
      · replace H := of_ c3 H
        refine e_iconst (v := (0 : Int32)) dX12_over_26 (by decide) ?_
        obtain rfl := Option.some.inj H
        exact z_iret rfl rfl dX12_over_27 rfl rfl
      · replace H := ot c3 H
        refine e_iconst (v := (1 : Int32)) dX12_over_22 (by decide) ?_
        refine e_goto (tgt := 27) dX12_over_23 (by decide) ?_
        obtain rfl := Option.some.inj H
        exact z_iret rfl rfl dX12_over_27 rfl rfl
    · replace H := ot c2 H
      refine e_iconst (v := (2 : Int32)) dX12_over_13 (by decide) ?_
      refine e_goto (tgt := 27) dX12_over_14 (by decide) ?_
      obtain rfl := Option.some.inj H
      exact z_iret rfl rfl dX12_over_27 rfl rfl
  · replace H := ot c1 H
    refine e_iconst (v := (-1 : Int32)) dX12_over_4 (by decide) ?_
    refine e_goto (tgt := 27) dX12_over_5 (by decide) ?_
    obtain rfl := Option.some.inj H
    exact z_iret rfl rfl dX12_over_27 rfl rfl
-- X12_taken
def l_X12_taken_33 (y1 : Int32) (y2 : Int32) (h : HS)  : Nat → Int32 → Option Int32
  | 0, _ => none
  | n + 1, x3 => (if x3 = (-1 : Int32) then (some x3) else (if x3 = y2 then (some x3) else (Option.bind (f_X12_over x3) (fun q14 => (l_X12_taken_33 y1 y2 h n q14)))))
set_option maxHeartbeats 4000000 in
set_option maxRecDepth 20000 in
theorem w_X12_taken_33 {G : GE} (d : Nat) {y1 : Int32} {y2 : Int32} {h : HS} {r : Option Value} {h' : HS} (hYTM : LY TM h) : ∀ (n : Nat) {x3 : Int32} {q : Int32}, l_X12_taken_33 y1 y2 h n x3 = some q → En G (d + 2) miX12_taken 51 [.ref 60, .int y1, .int y2, .int q] [] h r h' → En G (d + 2) miX12_taken 33 [.ref 60, .int y1, .int y2, .int x3] [] h r h' := by
  intro n
  induction n with
  | zero => intro x3 q H kE; exact nz H
  | succ n ih =>
    intro x3 q H kE
    unfold l_X12_taken_33 at H
    refine e_iload_n dX12_taken_33 rfl ?_
    refine e_iconst (v := (-1 : Int32)) dX12_taken_34 (by decide) ?_
    refine e_icmp_eq (tgt := 51) dX12_taken_35 (by decide) (fun c12 => ?_) (fun c12 => ?_)
    · replace H := ot c12 H
      obtain rfl := Option.some.inj H
      exact e_wk (lk1 (lk1 (lk1 (lk1 lkn)))) kE
    · replace H := of_ c12 H
      refine e_iload_n dX12_taken_38 rfl ?_
      refine e_iload_n dX12_taken_39 rfl ?_
      refine e_icmp_eq (tgt := 51) dX12_taken_40 (by decide) (fun c13 => ?_) (fun c13 => ?_)
      · replace H := ot c13 H
        obtain rfl := Option.some.inj H
        exact e_wk (lk1 (lk1 (lk1 (lk1 lkn)))) kE
      · replace H := of_ c13 H
        refine e_iload_n dX12_taken_43 rfl ?_
        replace H := ob H; obtain ⟨q14, c15, H⟩ := H
        refine s1 lmX12_450 lsX12_over msX12_over dX12_taken_44 (t_X12_over (d + 1) c15) rfl (Nat.le_of_ble_eq_true rfl) (Nat.le_refl _) ?_
        refine e_istore_n dX12_taken_47 (Nat.le_of_ble_eq_true rfl) rfl rfl ?_
        refine e_goto (tgt := 33) dX12_taken_48 (by decide) ?_
        exact e_wk (lk1 (lk1 (lk1 (lk1 lkn)))) (ih H kE)
def f_X12_taken (p1 : Int32) (p2 : Int32) (h : HS) : Option Int32 := (Option.bind (f_X12_in p2.toInt64 (0 : Int64) (5 : Int64)) (fun q1 => (if q1 = true then (Option.bind (f_X12_isStall p1 h) (fun q4 => (if q4 = true then (if ixb p1 8 = true then (Option.bind (l_X12_taken_33 p1 p2 h 1000 (hI h 64 p1.toNatClampNeg)) (fun q16 => (if q16 = p2 then (if ixb p1 8 = true then (some (hI h 67 p1.toNatClampNeg)) else none) else (some (-13 : Int32))))) else none) else (some (-11 : Int32))))) else (some (-2 : Int32)))))
set_option maxHeartbeats 4000000 in
set_option maxRecDepth 20000 in
theorem t_X12_taken {G : GE} (d : Nat) {p1 : Int32} {p2 : Int32} {h : HS} {q : Int32} (hY : LY TM h) (H : f_X12_taken p1 p2 h = some q) : CE G (d + 2) yX12_taken miX12_taken [.ref 60, .int p1, .int p2] h (some (.int q)) (h) := by
  unfold f_X12_taken at H
  refine ce_of rfl (by decide) (fun q => by first | rfl | cases q) (Nat.le_of_ble_eq_true rfl) rfl ?_
  refine e_iload_n dX12_taken_0 rfl ?_
  refine e_i2l dX12_taken_1 ?_
  refine e_lconst (v := (0 : Int64)) dX12_taken_2 (by decide) ?_
  refine e_ldc2 (v := (5 : Int64)) lkX12_132 dX12_taken_3 ?_
  replace H := ob H; obtain ⟨q1, c2, H⟩ := H
  refine s1 lmX12_125 lsX12_in msX12_in dX12_taken_6 (t_X12_in (d + 1) c2) rfl (Nat.le_of_ble_eq_true rfl) (Nat.le_refl _) ?_
  refine e_ifB_ne (tgt := 15) dX12_taken_9 (by decide) (fun c3 => ?_) (fun c3 => ?_)
  · replace H := ot c3 H
    refine g_aload_n dX12_taken_15 rfl rfl ?_
    refine e_iload_n dX12_taken_16 rfl ?_
    replace H := ob H; obtain ⟨q4, c5, H⟩ := H
    refine v1 (hY.t 0 rfl) (by decide) rfl rfl lmX12_142 liX12_isStall lvX12_X12_isStall msX12_isStall dX12_taken_17 (t_X12_isStall (d + 0) hY c5) rfl (Nat.le_of_ble_eq_true rfl) (Nat.le_refl _) ?_
    refine e_ifB_ne (tgt := 26) dX12_taken_20 (by decide) (fun c6 => ?_) (fun c6 => ?_)
    · replace H := ot c6 H
      refine g_aload_n dX12_taken_26 rfl rfl ?_
      refine e_getR (hY.t 0 rfl) flX12_23_13 dX12_taken_27 rfl (hY.r 3 rfl) ?_
      refine e_iload_n dX12_taken_30 rfl ?_
      replace H := og H; obtain ⟨g7, H⟩ := H
      refine e_iald (hY.t 4 rfl) (ixb_y (hY.n 4 rfl) g7) dX12_taken_31 ?_
      refine e_istore_n dX12_taken_32 (Nat.le_of_ble_eq_true rfl) rfl rfl ?_
      replace H := ob H; obtain ⟨q16, c17, H⟩ := H
      refine e_wk (lk1 (lk1 (lk1 (lk1 lkn)))) (w_X12_taken_33 d hY 1000 c17 ?_)
      refine e_iload_n dX12_taken_51 rfl ?_
      refine e_iload_n dX12_taken_52 rfl ?_
      refine e_icmp_ne (tgt := 65) dX12_taken_53 (by decide) (fun c18 => ?_) (fun c18 => ?_)
      · replace H := of_ c18 H
        refine e_bipush (v := (-13 : Int32)) dX12_taken_65 (by decide) ?_
        obtain rfl := Option.some.inj H
        exact z_iret rfl rfl dX12_taken_67 rfl rfl
      · replace H := ot c18 H
        refine g_aload_n dX12_taken_56 rfl rfl ?_
        refine e_getR (hY.t 0 rfl) flX12_32_13 dX12_taken_57 rfl (hY.r 6 rfl) ?_
        refine e_iload_n dX12_taken_60 rfl ?_
        replace H := og H; obtain ⟨g19, H⟩ := H
        refine e_iald (hY.t 7 rfl) (ixb_y (hY.n 7 rfl) g19) dX12_taken_61 ?_
        refine e_goto (tgt := 67) dX12_taken_62 (by decide) ?_
        obtain rfl := Option.some.inj H
        exact z_iret rfl rfl dX12_taken_67 rfl rfl
    · replace H := of_ (nb c6) H
      refine e_bipush (v := (-11 : Int32)) dX12_taken_23 (by decide) ?_
      obtain rfl := Option.some.inj H
      exact z_iret rfl rfl dX12_taken_25 rfl rfl
  · replace H := of_ (nb c3) H
    refine e_bipush (v := (-2 : Int32)) dX12_taken_12 (by decide) ?_
    obtain rfl := Option.some.inj H
    exact z_iret rfl rfl dX12_taken_14 rfl rfl
-- L_law
abbrev miL_law : MI := (RL, cL_law, 4, some .boolean, false)
def l_L_law_18 (scr : Nat → Int32) (L : Nat) (y1 : Nat) (y2 : Nat)  : Nat → Int32 → HS → Option ((Bool × HS) ⊕ HS)
  | 0, _, _ => none
  | n + 1, x3, h => (if ((nI L) - (6 : Int32)) < x3 then (some (Sum.inr h)) else (if ixb x3 L = true then (if ((scr x3.toNatClampNeg) &&& (31 : Int32)) = (0 : Int32) then (if ixb (x3 + (1 : Int32)) L = true then (if ixb (x3 + (2 : Int32)) L = true then (if ixb (x3 + (3 : Int32)) L = true then (if ixb (x3 + (4 : Int32)) L = true then (if y1 = 32 then (if lyB TX h = true then (Option.bind (f_X11_stall (scr (x3 + (1 : Int32)).toNatClampNeg) (scr (x3 + (2 : Int32)).toNatClampNeg) (scr (x3 + (3 : Int32)).toNatClampNeg) (scr (x3 + (4 : Int32)).toNatClampNeg) h) (fun q1401 => (if ixb (x3 + (1 : Int32)) L = true then (if ixb (x3 + (2 : Int32)) L = true then (if ixb (x3 + (3 : Int32)) L = true then (if ixb (x3 + (4 : Int32)) L = true then (if y2 = 60 then (if lyB TM q1401.2 = true then (Option.bind (f_X12_stall (scr (x3 + (1 : Int32)).toNatClampNeg) (scr (x3 + (2 : Int32)).toNatClampNeg) (scr (x3 + (3 : Int32)).toNatClampNeg) (scr (x3 + (4 : Int32)).toNatClampNeg) q1401.2) (fun q1412 => (if q1401.1 = q1412.1 then (l_L_law_18 scr L y1 y2 n (x3 + (6 : Int32)) q1412.2) else (some (Sum.inl (false, q1412.2)))))) else none) else none) else none) else none) else none) else none))) else none) else none) else none) else none) else none) else none) else (if ((scr x3.toNatClampNeg) &&& (31 : Int32)) = (1 : Int32) then (if ixb (x3 + (1 : Int32)) L = true then (if ixb (x3 + (2 : Int32)) L = true then (if ixb (x3 + (3 : Int32)) L = true then (if y1 = 32 then (if lyB TX h = true then (Option.bind (f_X11_set (scr (x3 + (1 : Int32)).toNatClampNeg) (scr (x3 + (2 : Int32)).toNatClampNeg) (scr (x3 + (3 : Int32)).toNatClampNeg) h) (fun q1378 => (if ixb (x3 + (1 : Int32)) L = true then (if ixb (x3 + (2 : Int32)) L = true then (if ixb (x3 + (3 : Int32)) L = true then (if y2 = 60 then (if lyB TM q1378.2 = true then (Option.bind (f_X12_set (scr (x3 + (1 : Int32)).toNatClampNeg) (scr (x3 + (2 : Int32)).toNatClampNeg) (scr (x3 + (3 : Int32)).toNatClampNeg) q1378.2) (fun q1388 => (if q1378.1 = q1388.1 then (l_L_law_18 scr L y1 y2 n (x3 + (6 : Int32)) q1388.2) else (some (Sum.inl (false, q1388.2)))))) else none) else none) else none) else none) else none))) else none) else none) else none) else none) else none) else (if ((scr x3.toNatClampNeg) &&& (31 : Int32)) = (2 : Int32) then (if ixb (x3 + (1 : Int32)) L = true then (if ixb (x3 + (2 : Int32)) L = true then (if y1 = 32 then (if lyB TX h = true then (Option.bind (f_X11_told (scr (x3 + (1 : Int32)).toNatClampNeg) (scr (x3 + (2 : Int32)).toNatClampNeg) h) (fun q1357 => (if ixb (x3 + (1 : Int32)) L = true then (if ixb (x3 + (2 : Int32)) L = true then (if y2 = 60 then (if lyB TM q1357.2 = true then (Option.bind (f_X12_told (scr (x3 + (1 : Int32)).toNatClampNeg) (scr (x3 + (2 : Int32)).toNatClampNeg) q1357.2) (fun q1366 => (if q1357.1 = q1366.1 then (l_L_law_18 scr L y1 y2 n (x3 + (6 : Int32)) q1366.2) else (some (Sum.inl (false, q1366.2)))))) else none) else none) else none) else none))) else none) else none) else none) else none) else (if ((scr x3.toNatClampNeg) &&& (31 : Int32)) = (3 : Int32) then (if ixb (x3 + (1 : Int32)) L = true then (if ixb (x3 + (2 : Int32)) L = true then (if ixb (x3 + (3 : Int32)) L = true then (if y1 = 32 then (if lyB TX h = true then (Option.bind (f_X11_wins (scr (x3 + (1 : Int32)).toNatClampNeg) (scr (x3 + (2 : Int32)).toNatClampNeg) (scr (x3 + (3 : Int32)).toNatClampNeg) h) (fun q1341 => (if ixb (x3 + (1 : Int32)) L = true then (if ixb (x3 + (2 : Int32)) L = true then (if ixb (x3 + (3 : Int32)) L = true then (if y2 = 60 then (if lyB TM h = true then (Option.bind (f_X12_wins (scr (x3 + (1 : Int32)).toNatClampNeg) (scr (x3 + (2 : Int32)).toNatClampNeg) (scr (x3 + (3 : Int32)).toNatClampNeg) h) (fun q1349 => (if q1341 = q1349 then (l_L_law_18 scr L y1 y2 n (x3 + (6 : Int32)) h) else (some (Sum.inl (false, h)))))) else none) else none) else none) else none) else none))) else none) else none) else none) else none) else none) else (if ((scr x3.toNatClampNeg) &&& (31 : Int32)) = (4 : Int32) then (if ixb (x3 + (1 : Int32)) L = true then (if ixb (x3 + (2 : Int32)) L = true then (if ixb (x3 + (3 : Int32)) L = true then (if y1 = 32 then (if lyB TX h = true then (Option.bind (f_X11_hand (scr (x3 + (1 : Int32)).toNatClampNeg) (scr (x3 + (2 : Int32)).toNatClampNeg) (scr (x3 + (3 : Int32)).toNatClampNeg) h) (fun q1319 => (if ixb (x3 + (1 : Int32)) L = true then (if ixb (x3 + (2 : Int32)) L = true then (if ixb (x3 + (3 : Int32)) L = true then (if y2 = 60 then (if lyB TM q1319.2 = true then (Option.bind (f_X12_hand (scr (x3 + (1 : Int32)).toNatClampNeg) (scr (x3 + (2 : Int32)).toNatClampNeg) (scr (x3 + (3 : Int32)).toNatClampNeg) q1319.2) (fun q1329 => (if q1319.1 = q1329.1 then (l_L_law_18 scr L y1 y2 n (x3 + (6 : Int32)) q1329.2) else (some (Sum.inl (false, q1329.2)))))) else none) else none) else none) else none) else none))) else none) else none) else none) else none) else none) else (if ((scr x3.toNatClampNeg) &&& (31 : Int32)) = (5 : Int32) then (if ixb (x3 + (1 : Int32)) L = true then (if ixb (x3 + (2 : Int32)) L = true then (if ixb (x3 + (3 : Int32)) L = true then (if ixb (x3 + (4 : Int32)) L = true then (if y1 = 32 then (if lyB TX h = true then (Option.bind (f_X11_odds (scr (x3 + (1 : Int32)).toNatClampNeg) (scr (x3 + (2 : Int32)).toNatClampNeg) (scr (x3 + (3 : Int32)).toNatClampNeg) (scr (x3 + (4 : Int32)).toNatClampNeg) h) (fun q1299 => (if ixb (x3 + (1 : Int32)) L = true then (if ixb (x3 + (2 : Int32)) L = true then (if ixb (x3 + (3 : Int32)) L = true then (if ixb (x3 + (4 : Int32)) L = true then (if y2 = 60 then (if lyB TM q1299.2 = true then (Option.bind (f_X12_odds (scr (x3 + (1 : Int32)).toNatClampNeg) (scr (x3 + (2 : Int32)).toNatClampNeg) (scr (x3 + (3 : Int32)).toNatClampNeg) (scr (x3 + (4 : Int32)).toNatClampNeg) q1299.2) (fun q1310 => (if q1299.1 = q1310 then (l_L_law_18 scr L y1 y2 n (x3 + (6 : Int32)) q1299.2) else (some (Sum.inl (false, q1299.2)))))) else none) else none) else none) else none) else none) else none))) else none) else none) else none) else none) else none) else none) else (if ((scr x3.toNatClampNeg) &&& (31 : Int32)) = (6 : Int32) then (if ixb (x3 + (1 : Int32)) L = true then (if ixb (x3 + (2 : Int32)) L = true then (if ixb (x3 + (3 : Int32)) L = true then (if y1 = 32 then (if lyB TX h = true then (Option.bind (f_X11_best (scr (x3 + (1 : Int32)).toNatClampNeg) (scr (x3 + (2 : Int32)).toNatClampNeg) (scr (x3 + (3 : Int32)).toNatClampNeg) h) (fun q1276 => (if ixb (x3 + (1 : Int32)) L = true then (if ixb (x3 + (2 : Int32)) L = true then (if ixb (x3 + (3 : Int32)) L = true then (if y2 = 60 then (if lyB TM q1276.2 = true then (Option.bind (f_X12_best (scr (x3 + (1 : Int32)).toNatClampNeg) (scr (x3 + (2 : Int32)).toNatClampNeg) (scr (x3 + (3 : Int32)).toNatClampNeg) q1276.2) (fun q1286 => (if q1276.1 = q1286.1 then (l_L_law_18 scr L y1 y2 n (x3 + (6 : Int32)) q1286.2) else (some (Sum.inl (false, q1286.2)))))) else none) else none) else none) else none) else none))) else none) else none) else none) else none) else none) else (if ((scr x3.toNatClampNeg) &&& (31 : Int32)) = (7 : Int32) then (if ixb (x3 + (1 : Int32)) L = true then (if ixb (x3 + (2 : Int32)) L = true then (if ixb (x3 + (3 : Int32)) L = true then (if ixb (x3 + (4 : Int32)) L = true then (if y1 = 32 then (if lyB TX h = true then (Option.bind (f_X11_tried (scr (x3 + (1 : Int32)).toNatClampNeg) (scr (x3 + (2 : Int32)).toNatClampNeg) (scr (x3 + (3 : Int32)).toNatClampNeg) (scr (x3 + (4 : Int32)).toNatClampNeg) h) (fun q1253 => (if ixb (x3 + (1 : Int32)) L = true then (if ixb (x3 + (2 : Int32)) L = true then (if ixb (x3 + (3 : Int32)) L = true then (if ixb (x3 + (4 : Int32)) L = true then (if y2 = 60 then (if lyB TM q1253.2 = true then (Option.bind (f_X12_tried (scr (x3 + (1 : Int32)).toNatClampNeg) (scr (x3 + (2 : Int32)).toNatClampNeg) (scr (x3 + (3 : Int32)).toNatClampNeg) (scr (x3 + (4 : Int32)).toNatClampNeg) q1253.2) (fun q1264 => (if q1253.1 = q1264.1 then (l_L_law_18 scr L y1 y2 n (x3 + (6 : Int32)) q1264.2) else (some (Sum.inl (false, q1264.2)))))) else none) else none) else none) else none) else none) else none))) else none) else none) else none) else none) else none) else none) else (if ((scr x3.toNatClampNeg) &&& (31 : Int32)) = (8 : Int32) then (if ixb (x3 + (1 : Int32)) L = true then (if ixb (x3 + (2 : Int32)) L = true then (if ixb (x3 + (3 : Int32)) L = true then (if ixb (x3 + (4 : Int32)) L = true then (if y1 = 32 then (if lyB TX h = true then (Option.bind (f_X11_shown (scr (x3 + (1 : Int32)).toNatClampNeg) (scr (x3 + (2 : Int32)).toNatClampNeg) (scr (x3 + (3 : Int32)).toNatClampNeg) (scr (x3 + (4 : Int32)).toNatClampNeg) h) (fun q1229 => (if ixb (x3 + (1 : Int32)) L = true then (if ixb (x3 + (2 : Int32)) L = true then (if ixb (x3 + (3 : Int32)) L = true then (if ixb (x3 + (4 : Int32)) L = true then (if y2 = 60 then (if lyB TM q1229.2 = true then (Option.bind (f_X12_shown (scr (x3 + (1 : Int32)).toNatClampNeg) (scr (x3 + (2 : Int32)).toNatClampNeg) (scr (x3 + (3 : Int32)).toNatClampNeg) (scr (x3 + (4 : Int32)).toNatClampNeg) q1229.2) (fun q1240 => (if q1229.1 = q1240.1 then (l_L_law_18 scr L y1 y2 n (x3 + (6 : Int32)) q1240.2) else (some (Sum.inl (false, q1240.2)))))) else none) else none) else none) else none) else none) else none))) else none) else none) else none) else none) else none) else none) else (if ((scr x3.toNatClampNeg) &&& (31 : Int32)) = (9 : Int32) then (if ixb (x3 + (1 : Int32)) L = true then (if ixb (x3 + (2 : Int32)) L = true then (if y1 = 32 then (if lyB TX h = true then (Option.bind (f_X11_tryTold (scr (x3 + (1 : Int32)).toNatClampNeg) (scr (x3 + (2 : Int32)).toNatClampNeg) h) (fun q1212 => (if ixb (x3 + (1 : Int32)) L = true then (if ixb (x3 + (2 : Int32)) L = true then (if y2 = 60 then (if lyB TM h = true then (Option.bind (f_X12_tryTold (scr (x3 + (1 : Int32)).toNatClampNeg) (scr (x3 + (2 : Int32)).toNatClampNeg) h) (fun q1219 => (if q1212 = q1219 then (l_L_law_18 scr L y1 y2 n (x3 + (6 : Int32)) h) else (some (Sum.inl (false, h)))))) else none) else none) else none) else none))) else none) else none) else none) else none) else (if ((scr x3.toNatClampNeg) &&& (31 : Int32)) = (10 : Int32) then (if ixb (x3 + (1 : Int32)) L = true then (if ixb (x3 + (2 : Int32)) L = true then (if ixb (x3 + (3 : Int32)) L = true then (if y1 = 32 then (if lyB TX h = true then (Option.bind (f_X11_setAll (scr (x3 + (1 : Int32)).toNatClampNeg) (scr (x3 + (2 : Int32)).toNatClampNeg) (scr (x3 + (3 : Int32)).toNatClampNeg) h) (fun q1194 => (if ixb (x3 + (1 : Int32)) L = true then (if ixb (x3 + (2 : Int32)) L = true then (if ixb (x3 + (3 : Int32)) L = true then (if y2 = 60 then (if lyB TM q1194.2 = true then (Option.bind (f_X12_setAll (scr (x3 + (1 : Int32)).toNatClampNeg) (scr (x3 + (2 : Int32)).toNatClampNeg) (scr (x3 + (3 : Int32)).toNatClampNeg) q1194.2) (fun q1204 => (if q1194.1 = q1204 then (l_L_law_18 scr L y1 y2 n (x3 + (6 : Int32)) q1194.2) else (some (Sum.inl (false, q1194.2)))))) else none) else none) else none) else none) else none))) else none) else none) else none) else none) else none) else (if ((scr x3.toNatClampNeg) &&& (31 : Int32)) = (11 : Int32) then (if ixb (x3 + (1 : Int32)) L = true then (if ixb (x3 + (2 : Int32)) L = true then (if ixb (x3 + (3 : Int32)) L = true then (if ixb (x3 + (4 : Int32)) L = true then (if ixb (x3 + (5 : Int32)) L = true then (if y1 = 32 then (if lyB TX h = true then (Option.bind (f_X11_worth (scr (x3 + (1 : Int32)).toNatClampNeg) (scr (x3 + (2 : Int32)).toNatClampNeg) (scr (x3 + (3 : Int32)).toNatClampNeg) (scr (x3 + (4 : Int32)).toNatClampNeg) (scr (x3 + (5 : Int32)).toNatClampNeg) h) (fun q1173 => (if ixb (x3 + (1 : Int32)) L = true then (if ixb (x3 + (2 : Int32)) L = true then (if ixb (x3 + (3 : Int32)) L = true then (if ixb (x3 + (4 : Int32)) L = true then (if ixb (x3 + (5 : Int32)) L = true then (if y2 = 60 then (if lyB TM q1173.2 = true then (Option.bind (f_X12_worth (scr (x3 + (1 : Int32)).toNatClampNeg) (scr (x3 + (2 : Int32)).toNatClampNeg) (scr (x3 + (3 : Int32)).toNatClampNeg) (scr (x3 + (4 : Int32)).toNatClampNeg) (scr (x3 + (5 : Int32)).toNatClampNeg) q1173.2) (fun q1185 => (if q1173.1 = q1185 then (l_L_law_18 scr L y1 y2 n (x3 + (6 : Int32)) q1173.2) else (some (Sum.inl (false, q1173.2)))))) else none) else none) else none) else none) else none) else none) else none))) else none) else none) else none) else none) else none) else none) else none) else (if ((scr x3.toNatClampNeg) &&& (31 : Int32)) = (12 : Int32) then (if ixb (x3 + (1 : Int32)) L = true then (if ixb (x3 + (2 : Int32)) L = true then (if y1 = 32 then (if lyB TX h = true then (Option.bind (f_X11_leaves (scr (x3 + (1 : Int32)).toNatClampNeg) (scr (x3 + (2 : Int32)).toNatClampNeg) h) (fun q1150 => (if ixb (x3 + (1 : Int32)) L = true then (if ixb (x3 + (2 : Int32)) L = true then (if y2 = 60 then (if lyB TM q1150.2 = true then (Option.bind (f_X12_leaves (scr (x3 + (1 : Int32)).toNatClampNeg) (scr (x3 + (2 : Int32)).toNatClampNeg) q1150.2) (fun q1159 => (if q1150.1 = q1159.1 then (l_L_law_18 scr L y1 y2 n (x3 + (6 : Int32)) q1159.2) else (some (Sum.inl (false, q1159.2)))))) else none) else none) else none) else none))) else none) else none) else none) else none) else (if ((scr x3.toNatClampNeg) &&& (31 : Int32)) = (13 : Int32) then (if ixb (x3 + (1 : Int32)) L = true then (if ixb (x3 + (2 : Int32)) L = true then (if ixb (x3 + (3 : Int32)) L = true then (if y1 = 32 then (if lyB TX h = true then (Option.bind (f_X11_feed (scr (x3 + (1 : Int32)).toNatClampNeg) (((scr (x3 + (2 : Int32)).toNatClampNeg).toInt64 <<< ((32 : Int32).toInt64 &&& 63)) ||| ((scr (x3 + (3 : Int32)).toNatClampNeg).toInt64 &&& (4294967295 : Int64))) h) (fun q1129 => (if ixb (x3 + (1 : Int32)) L = true then (if ixb (x3 + (2 : Int32)) L = true then (if ixb (x3 + (3 : Int32)) L = true then (if y2 = 60 then (if lyB TM q1129.2 = true then (Option.bind (f_X12_feed (scr (x3 + (1 : Int32)).toNatClampNeg) (((scr (x3 + (2 : Int32)).toNatClampNeg).toInt64 <<< ((32 : Int32).toInt64 &&& 63)) ||| ((scr (x3 + (3 : Int32)).toNatClampNeg).toInt64 &&& (4294967295 : Int64))) q1129.2) (fun q1139 => (if q1129.1 = q1139.1 then (l_L_law_18 scr L y1 y2 n (x3 + (6 : Int32)) q1139.2) else (some (Sum.inl (false, q1139.2)))))) else none) else none) else none) else none) else none))) else none) else none) else none) else none) else none) else (if ((scr x3.toNatClampNeg) &&& (31 : Int32)) = (14 : Int32) then (if y1 = 32 then (if lyB TX h = true then (Option.bind (f_X11_text h) (fun q1110 => (if y2 = 60 then (if lyB TM q1110.2 = true then (Option.bind (f_X12_text q1110.2) (fun q1117 => (if q1110.1 = q1117.1 then (l_L_law_18 scr L y1 y2 n (x3 + (6 : Int32)) q1117.2) else (some (Sum.inl (false, q1117.2)))))) else none) else none))) else none) else none) else (if ((scr x3.toNatClampNeg) &&& (31 : Int32)) = (15 : Int32) then (if ixb (x3 + (1 : Int32)) L = true then (if y1 = 32 then (if lyB TX h = true then (Option.bind (f_X11_force (scr (x3 + (1 : Int32)).toNatClampNeg) h) (fun q1093 => (if ixb (x3 + (1 : Int32)) L = true then (if y2 = 60 then (if lyB TM q1093.2 = true then (Option.bind (f_X12_force (scr (x3 + (1 : Int32)).toNatClampNeg) q1093.2) (fun q1101 => (if q1093.1 = q1101.1 then (l_L_law_18 scr L y1 y2 n (x3 + (6 : Int32)) q1101.2) else (some (Sum.inl (false, q1101.2)))))) else none) else none) else none))) else none) else none) else none) else (if ((scr x3.toNatClampNeg) &&& (31 : Int32)) = (16 : Int32) then (if ixb (x3 + (1 : Int32)) L = true then (if ixb (x3 + (2 : Int32)) L = true then (if ixb (x3 + (3 : Int32)) L = true then (if ixb (x3 + (4 : Int32)) L = true then (if ixb (x3 + (5 : Int32)) L = true then (if y1 = 32 then (if lyB TX h = true then (Option.bind (f_X11_says (scr (x3 + (1 : Int32)).toNatClampNeg) (scr (x3 + (2 : Int32)).toNatClampNeg) (scr (x3 + (3 : Int32)).toNatClampNeg) (scr (x3 + (4 : Int32)).toNatClampNeg) (scr (x3 + (5 : Int32)).toNatClampNeg) h) (fun q1071 => (if ixb (x3 + (1 : Int32)) L = true then (if ixb (x3 + (2 : Int32)) L = true then (if ixb (x3 + (3 : Int32)) L = true then (if ixb (x3 + (4 : Int32)) L = true then (if ixb (x3 + (5 : Int32)) L = true then (if y2 = 60 then (if lyB TM q1071.2 = true then (Option.bind (f_X12_says (scr (x3 + (1 : Int32)).toNatClampNeg) (scr (x3 + (2 : Int32)).toNatClampNeg) (scr (x3 + (3 : Int32)).toNatClampNeg) (scr (x3 + (4 : Int32)).toNatClampNeg) (scr (x3 + (5 : Int32)).toNatClampNeg) q1071.2) (fun q1083 => (if q1071.1 = q1083.1 then (l_L_law_18 scr L y1 y2 n (x3 + (6 : Int32)) q1083.2) else (some (Sum.inl (false, q1083.2)))))) else none) else none) else none) else none) else none) else none) else none))) else none) else none) else none) else none) else none) else none) else none) else (if ((scr x3.toNatClampNeg) &&& (31 : Int32)) = (17 : Int32) then (if ixb (x3 + (1 : Int32)) L = true then (if ixb (x3 + (2 : Int32)) L = true then (if ixb (x3 + (3 : Int32)) L = true then (if ixb (x3 + (4 : Int32)) L = true then (if ixb (x3 + (5 : Int32)) L = true then (if y1 = 32 then (if lyB TX h = true then (Option.bind (f_X11_player (scr (x3 + (1 : Int32)).toNatClampNeg) (scr (x3 + (2 : Int32)).toNatClampNeg) (scr (x3 + (3 : Int32)).toNatClampNeg) (scr (x3 + (4 : Int32)).toNatClampNeg) (scr (x3 + (5 : Int32)).toNatClampNeg) h) (fun q1045 => (if ixb (x3 + (1 : Int32)) L = true then (if ixb (x3 + (2 : Int32)) L = true then (if ixb (x3 + (3 : Int32)) L = true then (if ixb (x3 + (4 : Int32)) L = true then (if ixb (x3 + (5 : Int32)) L = true then (if y2 = 60 then (if lyB TM q1045.2 = true then (Option.bind (f_X12_player (scr (x3 + (1 : Int32)).toNatClampNeg) (scr (x3 + (2 : Int32)).toNatClampNeg) (scr (x3 + (3 : Int32)).toNatClampNeg) (scr (x3 + (4 : Int32)).toNatClampNeg) (scr (x3 + (5 : Int32)).toNatClampNeg) q1045.2) (fun q1057 => (if q1045.1 = q1057.1 then (l_L_law_18 scr L y1 y2 n (x3 + (6 : Int32)) q1057.2) else (some (Sum.inl (false, q1057.2)))))) else none) else none) else none) else none) else none) else none) else none))) else none) else none) else none) else none) else none) else none) else none) else (if ((scr x3.toNatClampNeg) &&& (31 : Int32)) = (18 : Int32) then (if ixb (x3 + (1 : Int32)) L = true then (if ixb (x3 + (2 : Int32)) L = true then (if ixb (x3 + (3 : Int32)) L = true then (if ixb (x3 + (4 : Int32)) L = true then (if ixb (x3 + (5 : Int32)) L = true then (if y1 = 32 then (if lyB TX h = true then (Option.bind (f_X11_most (scr (x3 + (1 : Int32)).toNatClampNeg) (scr (x3 + (2 : Int32)).toNatClampNeg) (scr (x3 + (3 : Int32)).toNatClampNeg) (scr (x3 + (4 : Int32)).toNatClampNeg) (scr (x3 + (5 : Int32)).toNatClampNeg) h) (fun q1019 => (if ixb (x3 + (1 : Int32)) L = true then (if ixb (x3 + (2 : Int32)) L = true then (if ixb (x3 + (3 : Int32)) L = true then (if ixb (x3 + (4 : Int32)) L = true then (if ixb (x3 + (5 : Int32)) L = true then (if y2 = 60 then (if lyB TM q1019.2 = true then (Option.bind (f_X12_most (scr (x3 + (1 : Int32)).toNatClampNeg) (scr (x3 + (2 : Int32)).toNatClampNeg) (scr (x3 + (3 : Int32)).toNatClampNeg) (scr (x3 + (4 : Int32)).toNatClampNeg) (scr (x3 + (5 : Int32)).toNatClampNeg) q1019.2) (fun q1031 => (if q1019.1 = q1031.1 then (l_L_law_18 scr L y1 y2 n (x3 + (6 : Int32)) q1031.2) else (some (Sum.inl (false, q1031.2)))))) else none) else none) else none) else none) else none) else none) else none))) else none) else none) else none) else none) else none) else none) else none) else (if ((scr x3.toNatClampNeg) &&& (31 : Int32)) = (19 : Int32) then (if ixb (x3 + (1 : Int32)) L = true then (if ixb (x3 + (2 : Int32)) L = true then (if y1 = 32 then (if lyB TX h = true then (Option.bind (f_X11_test (scr (x3 + (1 : Int32)).toNatClampNeg) (scr (x3 + (2 : Int32)).toNatClampNeg) h) (fun q996 => (if ixb (x3 + (1 : Int32)) L = true then (if ixb (x3 + (2 : Int32)) L = true then (if y2 = 60 then (if lyB TM q996.2 = true then (Option.bind (f_X12_test (scr (x3 + (1 : Int32)).toNatClampNeg) (scr (x3 + (2 : Int32)).toNatClampNeg) q996.2) (fun q1005 => (if q996.1 = q1005.1 then (l_L_law_18 scr L y1 y2 n (x3 + (6 : Int32)) q1005.2) else (some (Sum.inl (false, q1005.2)))))) else none) else none) else none) else none))) else none) else none) else none) else none) else (if ((scr x3.toNatClampNeg) &&& (31 : Int32)) = (20 : Int32) then (if ixb (x3 + (1 : Int32)) L = true then (if ixb (x3 + (2 : Int32)) L = true then (if y1 = 32 then (if lyB TX h = true then (Option.bind (f_X11_find (scr (x3 + (1 : Int32)).toNatClampNeg) (scr (x3 + (2 : Int32)).toNatClampNeg) h) (fun q981 => (if ixb (x3 + (1 : Int32)) L = true then (if ixb (x3 + (2 : Int32)) L = true then (if y2 = 60 then (if lyB TM h = true then (Option.bind (f_X12_find (scr (x3 + (1 : Int32)).toNatClampNeg) (scr (x3 + (2 : Int32)).toNatClampNeg) h) (fun q988 => (if q981 = q988 then (l_L_law_18 scr L y1 y2 n (x3 + (6 : Int32)) h) else (some (Sum.inl (false, h)))))) else none) else none) else none) else none))) else none) else none) else none) else none) else (if ((scr x3.toNatClampNeg) &&& (31 : Int32)) = (21 : Int32) then (if ixb (x3 + (1 : Int32)) L = true then (if ixb (x3 + (2 : Int32)) L = true then (if y1 = 32 then (if lyB TX h = true then (Option.bind (f_X11_year (scr (x3 + (1 : Int32)).toNatClampNeg) (scr (x3 + (2 : Int32)).toNatClampNeg) h) (fun q961 => (if ixb (x3 + (1 : Int32)) L = true then (if ixb (x3 + (2 : Int32)) L = true then (if y2 = 60 then (if lyB TM q961.2 = true then (Option.bind (f_X12_year (scr (x3 + (1 : Int32)).toNatClampNeg) (scr (x3 + (2 : Int32)).toNatClampNeg) q961.2) (fun q970 => (if q961.1 = q970.1 then (l_L_law_18 scr L y1 y2 n (x3 + (6 : Int32)) q970.2) else (some (Sum.inl (false, q970.2)))))) else none) else none) else none) else none))) else none) else none) else none) else none) else (if ((scr x3.toNatClampNeg) &&& (31 : Int32)) = (22 : Int32) then (if ixb (x3 + (1 : Int32)) L = true then (if ixb (x3 + (2 : Int32)) L = true then (if ixb (x3 + (3 : Int32)) L = true then (if ixb (x3 + (4 : Int32)) L = true then (if ixb (x3 + (5 : Int32)) L = true then (if y1 = 32 then (if lyB TX h = true then (Option.bind (f_X11_make (scr (x3 + (1 : Int32)).toNatClampNeg) (scr (x3 + (2 : Int32)).toNatClampNeg) (scr (x3 + (3 : Int32)).toNatClampNeg) (scr (x3 + (4 : Int32)).toNatClampNeg) (scr (x3 + (5 : Int32)).toNatClampNeg) h) (fun q938 => (if ixb (x3 + (1 : Int32)) L = true then (if ixb (x3 + (2 : Int32)) L = true then (if ixb (x3 + (3 : Int32)) L = true then (if ixb (x3 + (4 : Int32)) L = true then (if ixb (x3 + (5 : Int32)) L = true then (if y2 = 60 then (if lyB TM q938.2 = true then (Option.bind (f_X12_make (scr (x3 + (1 : Int32)).toNatClampNeg) (scr (x3 + (2 : Int32)).toNatClampNeg) (scr (x3 + (3 : Int32)).toNatClampNeg) (scr (x3 + (4 : Int32)).toNatClampNeg) (scr (x3 + (5 : Int32)).toNatClampNeg) q938.2) (fun q950 => (if q938.1 = q950.1 then (l_L_law_18 scr L y1 y2 n (x3 + (6 : Int32)) q950.2) else (some (Sum.inl (false, q950.2)))))) else none) else none) else none) else none) else none) else none) else none))) else none) else none) else none) else none) else none) else none) else none) else (if ((scr x3.toNatClampNeg) &&& (31 : Int32)) = (23 : Int32) then (if ixb (x3 + (1 : Int32)) L = true then (if ixb (x3 + (2 : Int32)) L = true then (if ixb (x3 + (3 : Int32)) L = true then (if y1 = 32 then (if lyB TX h = true then (Option.bind (f_X11_walk (scr (x3 + (1 : Int32)).toNatClampNeg) (scr (x3 + (2 : Int32)).toNatClampNeg) (scr (x3 + (3 : Int32)).toNatClampNeg) h) (fun q914 => (if ixb (x3 + (1 : Int32)) L = true then (if ixb (x3 + (2 : Int32)) L = true then (if ixb (x3 + (3 : Int32)) L = true then (if y2 = 60 then (if lyB TM q914.2 = true then (Option.bind (f_X12_walk (scr (x3 + (1 : Int32)).toNatClampNeg) (scr (x3 + (2 : Int32)).toNatClampNeg) (scr (x3 + (3 : Int32)).toNatClampNeg) q914.2) (fun q924 => (if q914.1 = q924.1 then (l_L_law_18 scr L y1 y2 n (x3 + (6 : Int32)) q924.2) else (some (Sum.inl (false, q924.2)))))) else none) else none) else none) else none) else none))) else none) else none) else none) else none) else none) else (if ((scr x3.toNatClampNeg) &&& (31 : Int32)) = (24 : Int32) then (if y1 = 32 then (if lyB TX h = true then (Option.bind (f_X11_image h) (fun q895 => (if y2 = 60 then (if lyB TM q895.2 = true then (Option.bind (f_X12_image q895.2) (fun q902 => (if q895.1 = q902.1 then (l_L_law_18 scr L y1 y2 n (x3 + (6 : Int32)) q902.2) else (some (Sum.inl (false, q902.2)))))) else none) else none))) else none) else none) else (if ((scr x3.toNatClampNeg) &&& (31 : Int32)) = (25 : Int32) then (if y1 = 32 then (if lyB TX h = true then (Option.bind (f_X11_back h) (fun q879 => (if y2 = 60 then (if lyB TM q879.2 = true then (Option.bind (f_X12_back q879.2) (fun q886 => (if q879.1 = q886.1 then (l_L_law_18 scr L y1 y2 n (x3 + (6 : Int32)) q886.2) else (some (Sum.inl (false, q886.2)))))) else none) else none))) else none) else none) else (if ((scr x3.toNatClampNeg) &&& (31 : Int32)) = (26 : Int32) then (if ixb (x3 + (1 : Int32)) L = true then (if y1 = 32 then (if lyB TX h = true then (Option.bind (f_X11_count (scr (x3 + (1 : Int32)).toNatClampNeg) h) (fun q867 => (if ixb (x3 + (1 : Int32)) L = true then (if y2 = 60 then (if lyB TM h = true then (Option.bind (f_X12_count (scr (x3 + (1 : Int32)).toNatClampNeg) h) (fun q873 => (if q867 = q873 then (l_L_law_18 scr L y1 y2 n (x3 + (6 : Int32)) h) else (some (Sum.inl (false, h)))))) else none) else none) else none))) else none) else none) else none) else (if ((scr x3.toNatClampNeg) &&& (31 : Int32)) = (27 : Int32) then (if ixb (x3 + (1 : Int32)) L = true then (if ixb (x3 + (2 : Int32)) L = true then (if ixb (x3 + (3 : Int32)) L = true then (if y1 = 32 then (if lyB TX h = true then (Option.bind (f_X11_sheet (scr (x3 + (1 : Int32)).toNatClampNeg) (scr (x3 + (2 : Int32)).toNatClampNeg) (scr (x3 + (3 : Int32)).toNatClampNeg) h) (fun q847 => (if ixb (x3 + (1 : Int32)) L = true then (if ixb (x3 + (2 : Int32)) L = true then (if ixb (x3 + (3 : Int32)) L = true then (if y2 = 60 then (if lyB TM q847.2 = true then (Option.bind (f_X12_sheet (scr (x3 + (1 : Int32)).toNatClampNeg) (scr (x3 + (2 : Int32)).toNatClampNeg) (scr (x3 + (3 : Int32)).toNatClampNeg) q847.2) (fun q857 => (if q847.1 = q857.1 then (l_L_law_18 scr L y1 y2 n (x3 + (6 : Int32)) q857.2) else (some (Sum.inl (false, q857.2)))))) else none) else none) else none) else none) else none))) else none) else none) else none) else none) else none) else (if ((scr x3.toNatClampNeg) &&& (31 : Int32)) = (28 : Int32) then (if ixb (x3 + (1 : Int32)) L = true then (if ixb (x3 + (2 : Int32)) L = true then (if ixb (x3 + (3 : Int32)) L = true then (if y1 = 32 then (if lyB TX h = true then (Option.bind (f_X11_cell (scr (x3 + (1 : Int32)).toNatClampNeg) (scr (x3 + (2 : Int32)).toNatClampNeg) (scr (x3 + (3 : Int32)).toNatClampNeg) h) (fun q825 => (if ixb (x3 + (1 : Int32)) L = true then (if ixb (x3 + (2 : Int32)) L = true then (if ixb (x3 + (3 : Int32)) L = true then (if y2 = 60 then (if lyB TM q825.2 = true then (Option.bind (f_X12_cell (scr (x3 + (1 : Int32)).toNatClampNeg) (scr (x3 + (2 : Int32)).toNatClampNeg) (scr (x3 + (3 : Int32)).toNatClampNeg) q825.2) (fun q835 => (if q825.1 = q835.1 then (l_L_law_18 scr L y1 y2 n (x3 + (6 : Int32)) q835.2) else (some (Sum.inl (false, q835.2)))))) else none) else none) else none) else none) else none))) else none) else none) else none) else none) else none) else (if ((scr x3.toNatClampNeg) &&& (31 : Int32)) = (29 : Int32) then (if ixb (x3 + (1 : Int32)) L = true then (if ixb (x3 + (2 : Int32)) L = true then (if ixb (x3 + (3 : Int32)) L = true then (if ixb (x3 + (4 : Int32)) L = true then (if ixb (x3 + (5 : Int32)) L = true then (if y1 = 32 then (if lyB TX h = true then (Option.bind (f_X11_copy (scr (x3 + (1 : Int32)).toNatClampNeg) (scr (x3 + (2 : Int32)).toNatClampNeg) (scr (x3 + (3 : Int32)).toNatClampNeg) (scr (x3 + (4 : Int32)).toNatClampNeg) (scr (x3 + (5 : Int32)).toNatClampNeg) h) (fun q801 => (if ixb (x3 + (1 : Int32)) L = true then (if ixb (x3 + (2 : Int32)) L = true then (if ixb (x3 + (3 : Int32)) L = true then (if ixb (x3 + (4 : Int32)) L = true then (if ixb (x3 + (5 : Int32)) L = true then (if y2 = 60 then (if lyB TM q801.2 = true then (Option.bind (f_X12_copy (scr (x3 + (1 : Int32)).toNatClampNeg) (scr (x3 + (2 : Int32)).toNatClampNeg) (scr (x3 + (3 : Int32)).toNatClampNeg) (scr (x3 + (4 : Int32)).toNatClampNeg) (scr (x3 + (5 : Int32)).toNatClampNeg) q801.2) (fun q813 => (if q801.1 = q813.1 then (l_L_law_18 scr L y1 y2 n (x3 + (6 : Int32)) q813.2) else (some (Sum.inl (false, q813.2)))))) else none) else none) else none) else none) else none) else none) else none))) else none) else none) else none) else none) else none) else none) else none) else (if ((scr x3.toNatClampNeg) &&& (31 : Int32)) = (30 : Int32) then (if ixb (x3 + (1 : Int32)) L = true then (if ixb (x3 + (2 : Int32)) L = true then (if ixb (x3 + (3 : Int32)) L = true then (if ixb (x3 + (4 : Int32)) L = true then (if y1 = 32 then (if lyB TX h = true then (Option.bind (f_X11_tries (scr (x3 + (1 : Int32)).toNatClampNeg) (scr (x3 + (2 : Int32)).toNatClampNeg) (scr (x3 + (3 : Int32)).toNatClampNeg) (scr (x3 + (4 : Int32)).toNatClampNeg) h) (fun q776 => (if ixb (x3 + (1 : Int32)) L = true then (if ixb (x3 + (2 : Int32)) L = true then (if ixb (x3 + (3 : Int32)) L = true then (if ixb (x3 + (4 : Int32)) L = true then (if y2 = 60 then (if lyB TM q776.2 = true then (Option.bind (f_X12_tries (scr (x3 + (1 : Int32)).toNatClampNeg) (scr (x3 + (2 : Int32)).toNatClampNeg) (scr (x3 + (3 : Int32)).toNatClampNeg) (scr (x3 + (4 : Int32)).toNatClampNeg) q776.2) (fun q787 => (if q776.1 = q787.1 then (l_L_law_18 scr L y1 y2 n (x3 + (6 : Int32)) q787.2) else (some (Sum.inl (false, q787.2)))))) else none) else none) else none) else none) else none) else none))) else none) else none) else none) else none) else none) else none) else (if ((scr x3.toNatClampNeg) &&& (31 : Int32)) = (31 : Int32) then (if ixb (x3 + (1 : Int32)) L = true then (if ixb (x3 + (2 : Int32)) L = true then (if y1 = 32 then (if lyB TX h = true then (Option.bind (f_X11_taken (scr (x3 + (1 : Int32)).toNatClampNeg) (scr (x3 + (2 : Int32)).toNatClampNeg) h) (fun q759 => (if ixb (x3 + (1 : Int32)) L = true then (if ixb (x3 + (2 : Int32)) L = true then (if y2 = 60 then (if lyB TM h = true then (Option.bind (f_X12_taken (scr (x3 + (1 : Int32)).toNatClampNeg) (scr (x3 + (2 : Int32)).toNatClampNeg) h) (fun q766 => (if q759 = q766 then (l_L_law_18 scr L y1 y2 n (x3 + (6 : Int32)) h) else (some (Sum.inl (false, h)))))) else none) else none) else none) else none))) else none) else none) else none) else none) else (l_L_law_18 scr L y1 y2 n (x3 + (6 : Int32)) h))))))))))))))))))))))))))))))))) else none))
set_option maxHeartbeats 4000000 in
set_option maxRecDepth 20000 in
theorem p_L_law_18 {scr : Nat → Int32} {L : Nat} {y1 : Nat} {y2 : Nat} : ∀ (n : Nat) {x3 : Int32} {h : HS} {q : ((Bool × HS) ⊕ HS)}, l_L_law_18 scr L y1 y2 n x3 h = some q → Pr h (Sum.elim (fun v => v.2) (fun e => e) q) := by
  intro n
  induction n with
  | zero => intro x3 h q H; exact nz H
  | succ n ih =>
    intro x3 h q H
    unfold l_L_law_18 at H
    replace H := oi H; obtain ⟨c720, H⟩ | ⟨c720, H⟩ := H
    · obtain rfl := Option.some.inj H
      exact Pr.rf
    · replace H := og H; obtain ⟨g721, H⟩ := H
      replace H := oi H; obtain ⟨k722, H⟩ | ⟨k722, H⟩ := H
      · replace H := og H; obtain ⟨g1394, H⟩ := H
        replace H := og H; obtain ⟨g1395, H⟩ := H
        replace H := og H; obtain ⟨g1396, H⟩ := H
        replace H := og H; obtain ⟨g1397, H⟩ := H
        replace H := og H; obtain ⟨g1398, H⟩ := H
        subst g1398
        replace H := og H; obtain ⟨g1399, H⟩ := H
        replace H := ob H; obtain ⟨q1401, c1402, H⟩ := H
        have e1403 := p_X11_stall c1402
        replace H := og H; obtain ⟨g1405, H⟩ := H
        replace H := og H; obtain ⟨g1406, H⟩ := H
        replace H := og H; obtain ⟨g1407, H⟩ := H
        replace H := og H; obtain ⟨g1408, H⟩ := H
        replace H := og H; obtain ⟨g1409, H⟩ := H
        subst g1409
        replace H := og H; obtain ⟨g1410, H⟩ := H
        replace H := ob H; obtain ⟨q1412, c1413, H⟩ := H
        have e1414 := p_X12_stall c1413
        replace H := oi H; obtain ⟨c1417, H⟩ | ⟨c1417, H⟩ := H
        · exact (e1403.tr e1414).tr (ih H)
        · obtain rfl := Option.some.inj H
          exact (e1403.tr e1414)
      · replace H := oi H; obtain ⟨k723, H⟩ | ⟨k723, H⟩ := H
        · replace H := og H; obtain ⟨g1372, H⟩ := H
          replace H := og H; obtain ⟨g1373, H⟩ := H
          replace H := og H; obtain ⟨g1374, H⟩ := H
          replace H := og H; obtain ⟨g1375, H⟩ := H
          subst g1375
          replace H := og H; obtain ⟨g1376, H⟩ := H
          replace H := ob H; obtain ⟨q1378, c1379, H⟩ := H
          have e1380 := p_X11_set c1379
          replace H := og H; obtain ⟨g1382, H⟩ := H
          replace H := og H; obtain ⟨g1383, H⟩ := H
          replace H := og H; obtain ⟨g1384, H⟩ := H
          replace H := og H; obtain ⟨g1385, H⟩ := H
          subst g1385
          replace H := og H; obtain ⟨g1386, H⟩ := H
          replace H := ob H; obtain ⟨q1388, c1389, H⟩ := H
          have e1390 := p_X12_set c1389
          replace H := oi H; obtain ⟨c1393, H⟩ | ⟨c1393, H⟩ := H
          · exact (e1380.tr e1390).tr (ih H)
          · obtain rfl := Option.some.inj H
            exact (e1380.tr e1390)
        · replace H := oi H; obtain ⟨k724, H⟩ | ⟨k724, H⟩ := H
          · replace H := og H; obtain ⟨g1352, H⟩ := H
            replace H := og H; obtain ⟨g1353, H⟩ := H
            replace H := og H; obtain ⟨g1354, H⟩ := H
            subst g1354
            replace H := og H; obtain ⟨g1355, H⟩ := H
            replace H := ob H; obtain ⟨q1357, c1358, H⟩ := H
            have e1359 := p_X11_told c1358
            replace H := og H; obtain ⟨g1361, H⟩ := H
            replace H := og H; obtain ⟨g1362, H⟩ := H
            replace H := og H; obtain ⟨g1363, H⟩ := H
            subst g1363
            replace H := og H; obtain ⟨g1364, H⟩ := H
            replace H := ob H; obtain ⟨q1366, c1367, H⟩ := H
            have e1368 := p_X12_told c1367
            replace H := oi H; obtain ⟨c1371, H⟩ | ⟨c1371, H⟩ := H
            · exact (e1359.tr e1368).tr (ih H)
            · obtain rfl := Option.some.inj H
              exact (e1359.tr e1368)
          · replace H := oi H; obtain ⟨k725, H⟩ | ⟨k725, H⟩ := H
            · replace H := og H; obtain ⟨g1335, H⟩ := H
              replace H := og H; obtain ⟨g1336, H⟩ := H
              replace H := og H; obtain ⟨g1337, H⟩ := H
              replace H := og H; obtain ⟨g1338, H⟩ := H
              subst g1338
              replace H := og H; obtain ⟨g1339, H⟩ := H
              replace H := ob H; obtain ⟨q1341, c1342, H⟩ := H
              replace H := og H; obtain ⟨g1343, H⟩ := H
              replace H := og H; obtain ⟨g1344, H⟩ := H
              replace H := og H; obtain ⟨g1345, H⟩ := H
              replace H := og H; obtain ⟨g1346, H⟩ := H
              subst g1346
              replace H := og H; obtain ⟨g1347, H⟩ := H
              replace H := ob H; obtain ⟨q1349, c1350, H⟩ := H
              replace H := oi H; obtain ⟨c1351, H⟩ | ⟨c1351, H⟩ := H
              · exact id (ih H)
              · obtain rfl := Option.some.inj H
                exact Pr.rf
            · replace H := oi H; obtain ⟨k726, H⟩ | ⟨k726, H⟩ := H
              · replace H := og H; obtain ⟨g1313, H⟩ := H
                replace H := og H; obtain ⟨g1314, H⟩ := H
                replace H := og H; obtain ⟨g1315, H⟩ := H
                replace H := og H; obtain ⟨g1316, H⟩ := H
                subst g1316
                replace H := og H; obtain ⟨g1317, H⟩ := H
                replace H := ob H; obtain ⟨q1319, c1320, H⟩ := H
                have e1321 := p_X11_hand c1320
                replace H := og H; obtain ⟨g1323, H⟩ := H
                replace H := og H; obtain ⟨g1324, H⟩ := H
                replace H := og H; obtain ⟨g1325, H⟩ := H
                replace H := og H; obtain ⟨g1326, H⟩ := H
                subst g1326
                replace H := og H; obtain ⟨g1327, H⟩ := H
                replace H := ob H; obtain ⟨q1329, c1330, H⟩ := H
                have e1331 := p_X12_hand c1330
                replace H := oi H; obtain ⟨c1334, H⟩ | ⟨c1334, H⟩ := H
                · exact (e1321.tr e1331).tr (ih H)
                · obtain rfl := Option.some.inj H
                  exact (e1321.tr e1331)
              · replace H := oi H; obtain ⟨k727, H⟩ | ⟨k727, H⟩ := H
                · replace H := og H; obtain ⟨g1292, H⟩ := H
                  replace H := og H; obtain ⟨g1293, H⟩ := H
                  replace H := og H; obtain ⟨g1294, H⟩ := H
                  replace H := og H; obtain ⟨g1295, H⟩ := H
                  replace H := og H; obtain ⟨g1296, H⟩ := H
                  subst g1296
                  replace H := og H; obtain ⟨g1297, H⟩ := H
                  replace H := ob H; obtain ⟨q1299, c1300, H⟩ := H
                  have e1301 := p_X11_odds c1300
                  replace H := og H; obtain ⟨g1303, H⟩ := H
                  replace H := og H; obtain ⟨g1304, H⟩ := H
                  replace H := og H; obtain ⟨g1305, H⟩ := H
                  replace H := og H; obtain ⟨g1306, H⟩ := H
                  replace H := og H; obtain ⟨g1307, H⟩ := H
                  subst g1307
                  replace H := og H; obtain ⟨g1308, H⟩ := H
                  replace H := ob H; obtain ⟨q1310, c1311, H⟩ := H
                  replace H := oi H; obtain ⟨c1312, H⟩ | ⟨c1312, H⟩ := H
                  · exact e1301.tr (ih H)
                  · obtain rfl := Option.some.inj H
                    exact e1301
                · replace H := oi H; obtain ⟨k728, H⟩ | ⟨k728, H⟩ := H
                  · replace H := og H; obtain ⟨g1270, H⟩ := H
                    replace H := og H; obtain ⟨g1271, H⟩ := H
                    replace H := og H; obtain ⟨g1272, H⟩ := H
                    replace H := og H; obtain ⟨g1273, H⟩ := H
                    subst g1273
                    replace H := og H; obtain ⟨g1274, H⟩ := H
                    replace H := ob H; obtain ⟨q1276, c1277, H⟩ := H
                    have e1278 := p_X11_best c1277
                    replace H := og H; obtain ⟨g1280, H⟩ := H
                    replace H := og H; obtain ⟨g1281, H⟩ := H
                    replace H := og H; obtain ⟨g1282, H⟩ := H
                    replace H := og H; obtain ⟨g1283, H⟩ := H
                    subst g1283
                    replace H := og H; obtain ⟨g1284, H⟩ := H
                    replace H := ob H; obtain ⟨q1286, c1287, H⟩ := H
                    have e1288 := p_X12_best c1287
                    replace H := oi H; obtain ⟨c1291, H⟩ | ⟨c1291, H⟩ := H
                    · exact (e1278.tr e1288).tr (ih H)
                    · obtain rfl := Option.some.inj H
                      exact (e1278.tr e1288)
                  · replace H := oi H; obtain ⟨k729, H⟩ | ⟨k729, H⟩ := H
                    · replace H := og H; obtain ⟨g1246, H⟩ := H
                      replace H := og H; obtain ⟨g1247, H⟩ := H
                      replace H := og H; obtain ⟨g1248, H⟩ := H
                      replace H := og H; obtain ⟨g1249, H⟩ := H
                      replace H := og H; obtain ⟨g1250, H⟩ := H
                      subst g1250
                      replace H := og H; obtain ⟨g1251, H⟩ := H
                      replace H := ob H; obtain ⟨q1253, c1254, H⟩ := H
                      have e1255 := p_X11_tried c1254
                      replace H := og H; obtain ⟨g1257, H⟩ := H
                      replace H := og H; obtain ⟨g1258, H⟩ := H
                      replace H := og H; obtain ⟨g1259, H⟩ := H
                      replace H := og H; obtain ⟨g1260, H⟩ := H
                      replace H := og H; obtain ⟨g1261, H⟩ := H
                      subst g1261
                      replace H := og H; obtain ⟨g1262, H⟩ := H
                      replace H := ob H; obtain ⟨q1264, c1265, H⟩ := H
                      have e1266 := p_X12_tried c1265
                      replace H := oi H; obtain ⟨c1269, H⟩ | ⟨c1269, H⟩ := H
                      · exact (e1255.tr e1266).tr (ih H)
                      · obtain rfl := Option.some.inj H
                        exact (e1255.tr e1266)
                    · replace H := oi H; obtain ⟨k730, H⟩ | ⟨k730, H⟩ := H
                      · replace H := og H; obtain ⟨g1222, H⟩ := H
                        replace H := og H; obtain ⟨g1223, H⟩ := H
                        replace H := og H; obtain ⟨g1224, H⟩ := H
                        replace H := og H; obtain ⟨g1225, H⟩ := H
                        replace H := og H; obtain ⟨g1226, H⟩ := H
                        subst g1226
                        replace H := og H; obtain ⟨g1227, H⟩ := H
                        replace H := ob H; obtain ⟨q1229, c1230, H⟩ := H
                        have e1231 := p_X11_shown c1230
                        replace H := og H; obtain ⟨g1233, H⟩ := H
                        replace H := og H; obtain ⟨g1234, H⟩ := H
                        replace H := og H; obtain ⟨g1235, H⟩ := H
                        replace H := og H; obtain ⟨g1236, H⟩ := H
                        replace H := og H; obtain ⟨g1237, H⟩ := H
                        subst g1237
                        replace H := og H; obtain ⟨g1238, H⟩ := H
                        replace H := ob H; obtain ⟨q1240, c1241, H⟩ := H
                        have e1242 := p_X12_shown c1241
                        replace H := oi H; obtain ⟨c1245, H⟩ | ⟨c1245, H⟩ := H
                        · exact (e1231.tr e1242).tr (ih H)
                        · obtain rfl := Option.some.inj H
                          exact (e1231.tr e1242)
                      · replace H := oi H; obtain ⟨k731, H⟩ | ⟨k731, H⟩ := H
                        · replace H := og H; obtain ⟨g1207, H⟩ := H
                          replace H := og H; obtain ⟨g1208, H⟩ := H
                          replace H := og H; obtain ⟨g1209, H⟩ := H
                          subst g1209
                          replace H := og H; obtain ⟨g1210, H⟩ := H
                          replace H := ob H; obtain ⟨q1212, c1213, H⟩ := H
                          replace H := og H; obtain ⟨g1214, H⟩ := H
                          replace H := og H; obtain ⟨g1215, H⟩ := H
                          replace H := og H; obtain ⟨g1216, H⟩ := H
                          subst g1216
                          replace H := og H; obtain ⟨g1217, H⟩ := H
                          replace H := ob H; obtain ⟨q1219, c1220, H⟩ := H
                          replace H := oi H; obtain ⟨c1221, H⟩ | ⟨c1221, H⟩ := H
                          · exact id (ih H)
                          · obtain rfl := Option.some.inj H
                            exact Pr.rf
                        · replace H := oi H; obtain ⟨k732, H⟩ | ⟨k732, H⟩ := H
                          · replace H := og H; obtain ⟨g1188, H⟩ := H
                            replace H := og H; obtain ⟨g1189, H⟩ := H
                            replace H := og H; obtain ⟨g1190, H⟩ := H
                            replace H := og H; obtain ⟨g1191, H⟩ := H
                            subst g1191
                            replace H := og H; obtain ⟨g1192, H⟩ := H
                            replace H := ob H; obtain ⟨q1194, c1195, H⟩ := H
                            have e1196 := p_X11_setAll c1195
                            replace H := og H; obtain ⟨g1198, H⟩ := H
                            replace H := og H; obtain ⟨g1199, H⟩ := H
                            replace H := og H; obtain ⟨g1200, H⟩ := H
                            replace H := og H; obtain ⟨g1201, H⟩ := H
                            subst g1201
                            replace H := og H; obtain ⟨g1202, H⟩ := H
                            replace H := ob H; obtain ⟨q1204, c1205, H⟩ := H
                            replace H := oi H; obtain ⟨c1206, H⟩ | ⟨c1206, H⟩ := H
                            · exact e1196.tr (ih H)
                            · obtain rfl := Option.some.inj H
                              exact e1196
                          · replace H := oi H; obtain ⟨k733, H⟩ | ⟨k733, H⟩ := H
                            · replace H := og H; obtain ⟨g1165, H⟩ := H
                              replace H := og H; obtain ⟨g1166, H⟩ := H
                              replace H := og H; obtain ⟨g1167, H⟩ := H
                              replace H := og H; obtain ⟨g1168, H⟩ := H
                              replace H := og H; obtain ⟨g1169, H⟩ := H
                              replace H := og H; obtain ⟨g1170, H⟩ := H
                              subst g1170
                              replace H := og H; obtain ⟨g1171, H⟩ := H
                              replace H := ob H; obtain ⟨q1173, c1174, H⟩ := H
                              have e1175 := p_X11_worth c1174
                              replace H := og H; obtain ⟨g1177, H⟩ := H
                              replace H := og H; obtain ⟨g1178, H⟩ := H
                              replace H := og H; obtain ⟨g1179, H⟩ := H
                              replace H := og H; obtain ⟨g1180, H⟩ := H
                              replace H := og H; obtain ⟨g1181, H⟩ := H
                              replace H := og H; obtain ⟨g1182, H⟩ := H
                              subst g1182
                              replace H := og H; obtain ⟨g1183, H⟩ := H
                              replace H := ob H; obtain ⟨q1185, c1186, H⟩ := H
                              replace H := oi H; obtain ⟨c1187, H⟩ | ⟨c1187, H⟩ := H
                              · exact e1175.tr (ih H)
                              · obtain rfl := Option.some.inj H
                                exact e1175
                            · replace H := oi H; obtain ⟨k734, H⟩ | ⟨k734, H⟩ := H
                              · replace H := og H; obtain ⟨g1145, H⟩ := H
                                replace H := og H; obtain ⟨g1146, H⟩ := H
                                replace H := og H; obtain ⟨g1147, H⟩ := H
                                subst g1147
                                replace H := og H; obtain ⟨g1148, H⟩ := H
                                replace H := ob H; obtain ⟨q1150, c1151, H⟩ := H
                                have e1152 := p_X11_leaves c1151
                                replace H := og H; obtain ⟨g1154, H⟩ := H
                                replace H := og H; obtain ⟨g1155, H⟩ := H
                                replace H := og H; obtain ⟨g1156, H⟩ := H
                                subst g1156
                                replace H := og H; obtain ⟨g1157, H⟩ := H
                                replace H := ob H; obtain ⟨q1159, c1160, H⟩ := H
                                have e1161 := p_X12_leaves c1160
                                replace H := oi H; obtain ⟨c1164, H⟩ | ⟨c1164, H⟩ := H
                                · exact (e1152.tr e1161).tr (ih H)
                                · obtain rfl := Option.some.inj H
                                  exact (e1152.tr e1161)
                              · replace H := oi H; obtain ⟨k735, H⟩ | ⟨k735, H⟩ := H
                                · replace H := og H; obtain ⟨g1123, H⟩ := H
                                  replace H := og H; obtain ⟨g1124, H⟩ := H
                                  replace H := og H; obtain ⟨g1125, H⟩ := H
                                  replace H := og H; obtain ⟨g1126, H⟩ := H
                                  subst g1126
                                  replace H := og H; obtain ⟨g1127, H⟩ := H
                                  replace H := ob H; obtain ⟨q1129, c1130, H⟩ := H
                                  have e1131 := p_X11_feed c1130
                                  replace H := og H; obtain ⟨g1133, H⟩ := H
                                  replace H := og H; obtain ⟨g1134, H⟩ := H
                                  replace H := og H; obtain ⟨g1135, H⟩ := H
                                  replace H := og H; obtain ⟨g1136, H⟩ := H
                                  subst g1136
                                  replace H := og H; obtain ⟨g1137, H⟩ := H
                                  replace H := ob H; obtain ⟨q1139, c1140, H⟩ := H
                                  have e1141 := p_X12_feed c1140
                                  replace H := oi H; obtain ⟨c1144, H⟩ | ⟨c1144, H⟩ := H
                                  · exact (e1131.tr e1141).tr (ih H)
                                  · obtain rfl := Option.some.inj H
                                    exact (e1131.tr e1141)
                                · replace H := oi H; obtain ⟨k736, H⟩ | ⟨k736, H⟩ := H
                                  · replace H := og H; obtain ⟨g1107, H⟩ := H
                                    subst g1107
                                    replace H := og H; obtain ⟨g1108, H⟩ := H
                                    replace H := ob H; obtain ⟨q1110, c1111, H⟩ := H
                                    have e1112 := p_X11_text c1111
                                    replace H := og H; obtain ⟨g1114, H⟩ := H
                                    subst g1114
                                    replace H := og H; obtain ⟨g1115, H⟩ := H
                                    replace H := ob H; obtain ⟨q1117, c1118, H⟩ := H
                                    have e1119 := p_X12_text c1118
                                    replace H := oi H; obtain ⟨c1122, H⟩ | ⟨c1122, H⟩ := H
                                    · exact (e1112.tr e1119).tr (ih H)
                                    · obtain rfl := Option.some.inj H
                                      exact (e1112.tr e1119)
                                  · replace H := oi H; obtain ⟨k737, H⟩ | ⟨k737, H⟩ := H
                                    · replace H := og H; obtain ⟨g1089, H⟩ := H
                                      replace H := og H; obtain ⟨g1090, H⟩ := H
                                      subst g1090
                                      replace H := og H; obtain ⟨g1091, H⟩ := H
                                      replace H := ob H; obtain ⟨q1093, c1094, H⟩ := H
                                      have e1095 := p_X11_force c1094
                                      replace H := og H; obtain ⟨g1097, H⟩ := H
                                      replace H := og H; obtain ⟨g1098, H⟩ := H
                                      subst g1098
                                      replace H := og H; obtain ⟨g1099, H⟩ := H
                                      replace H := ob H; obtain ⟨q1101, c1102, H⟩ := H
                                      have e1103 := p_X12_force c1102
                                      replace H := oi H; obtain ⟨c1106, H⟩ | ⟨c1106, H⟩ := H
                                      · exact (e1095.tr e1103).tr (ih H)
                                      · obtain rfl := Option.some.inj H
                                        exact (e1095.tr e1103)
                                    · replace H := oi H; obtain ⟨k738, H⟩ | ⟨k738, H⟩ := H
                                      · replace H := og H; obtain ⟨g1063, H⟩ := H
                                        replace H := og H; obtain ⟨g1064, H⟩ := H
                                        replace H := og H; obtain ⟨g1065, H⟩ := H
                                        replace H := og H; obtain ⟨g1066, H⟩ := H
                                        replace H := og H; obtain ⟨g1067, H⟩ := H
                                        replace H := og H; obtain ⟨g1068, H⟩ := H
                                        subst g1068
                                        replace H := og H; obtain ⟨g1069, H⟩ := H
                                        replace H := ob H; obtain ⟨q1071, c1072, H⟩ := H
                                        have e1073 := p_X11_says c1072
                                        replace H := og H; obtain ⟨g1075, H⟩ := H
                                        replace H := og H; obtain ⟨g1076, H⟩ := H
                                        replace H := og H; obtain ⟨g1077, H⟩ := H
                                        replace H := og H; obtain ⟨g1078, H⟩ := H
                                        replace H := og H; obtain ⟨g1079, H⟩ := H
                                        replace H := og H; obtain ⟨g1080, H⟩ := H
                                        subst g1080
                                        replace H := og H; obtain ⟨g1081, H⟩ := H
                                        replace H := ob H; obtain ⟨q1083, c1084, H⟩ := H
                                        have e1085 := p_X12_says c1084
                                        replace H := oi H; obtain ⟨c1088, H⟩ | ⟨c1088, H⟩ := H
                                        · exact (e1073.tr e1085).tr (ih H)
                                        · obtain rfl := Option.some.inj H
                                          exact (e1073.tr e1085)
                                      · replace H := oi H; obtain ⟨k739, H⟩ | ⟨k739, H⟩ := H
                                        · replace H := og H; obtain ⟨g1037, H⟩ := H
                                          replace H := og H; obtain ⟨g1038, H⟩ := H
                                          replace H := og H; obtain ⟨g1039, H⟩ := H
                                          replace H := og H; obtain ⟨g1040, H⟩ := H
                                          replace H := og H; obtain ⟨g1041, H⟩ := H
                                          replace H := og H; obtain ⟨g1042, H⟩ := H
                                          subst g1042
                                          replace H := og H; obtain ⟨g1043, H⟩ := H
                                          replace H := ob H; obtain ⟨q1045, c1046, H⟩ := H
                                          have e1047 := p_X11_player c1046
                                          replace H := og H; obtain ⟨g1049, H⟩ := H
                                          replace H := og H; obtain ⟨g1050, H⟩ := H
                                          replace H := og H; obtain ⟨g1051, H⟩ := H
                                          replace H := og H; obtain ⟨g1052, H⟩ := H
                                          replace H := og H; obtain ⟨g1053, H⟩ := H
                                          replace H := og H; obtain ⟨g1054, H⟩ := H
                                          subst g1054
                                          replace H := og H; obtain ⟨g1055, H⟩ := H
                                          replace H := ob H; obtain ⟨q1057, c1058, H⟩ := H
                                          have e1059 := p_X12_player c1058
                                          replace H := oi H; obtain ⟨c1062, H⟩ | ⟨c1062, H⟩ := H
                                          · exact (e1047.tr e1059).tr (ih H)
                                          · obtain rfl := Option.some.inj H
                                            exact (e1047.tr e1059)
                                        · replace H := oi H; obtain ⟨k740, H⟩ | ⟨k740, H⟩ := H
                                          · replace H := og H; obtain ⟨g1011, H⟩ := H
                                            replace H := og H; obtain ⟨g1012, H⟩ := H
                                            replace H := og H; obtain ⟨g1013, H⟩ := H
                                            replace H := og H; obtain ⟨g1014, H⟩ := H
                                            replace H := og H; obtain ⟨g1015, H⟩ := H
                                            replace H := og H; obtain ⟨g1016, H⟩ := H
                                            subst g1016
                                            replace H := og H; obtain ⟨g1017, H⟩ := H
                                            replace H := ob H; obtain ⟨q1019, c1020, H⟩ := H
                                            have e1021 := p_X11_most c1020
                                            replace H := og H; obtain ⟨g1023, H⟩ := H
                                            replace H := og H; obtain ⟨g1024, H⟩ := H
                                            replace H := og H; obtain ⟨g1025, H⟩ := H
                                            replace H := og H; obtain ⟨g1026, H⟩ := H
                                            replace H := og H; obtain ⟨g1027, H⟩ := H
                                            replace H := og H; obtain ⟨g1028, H⟩ := H
                                            subst g1028
                                            replace H := og H; obtain ⟨g1029, H⟩ := H
                                            replace H := ob H; obtain ⟨q1031, c1032, H⟩ := H
                                            have e1033 := p_X12_most c1032
                                            replace H := oi H; obtain ⟨c1036, H⟩ | ⟨c1036, H⟩ := H
                                            · exact (e1021.tr e1033).tr (ih H)
                                            · obtain rfl := Option.some.inj H
                                              exact (e1021.tr e1033)
                                          · replace H := oi H; obtain ⟨k741, H⟩ | ⟨k741, H⟩ := H
                                            · replace H := og H; obtain ⟨g991, H⟩ := H
                                              replace H := og H; obtain ⟨g992, H⟩ := H
                                              replace H := og H; obtain ⟨g993, H⟩ := H
                                              subst g993
                                              replace H := og H; obtain ⟨g994, H⟩ := H
                                              replace H := ob H; obtain ⟨q996, c997, H⟩ := H
                                              have e998 := p_X11_test c997
                                              replace H := og H; obtain ⟨g1000, H⟩ := H
                                              replace H := og H; obtain ⟨g1001, H⟩ := H
                                              replace H := og H; obtain ⟨g1002, H⟩ := H
                                              subst g1002
                                              replace H := og H; obtain ⟨g1003, H⟩ := H
                                              replace H := ob H; obtain ⟨q1005, c1006, H⟩ := H
                                              have e1007 := p_X12_test c1006
                                              replace H := oi H; obtain ⟨c1010, H⟩ | ⟨c1010, H⟩ := H
                                              · exact (e998.tr e1007).tr (ih H)
                                              · obtain rfl := Option.some.inj H
                                                exact (e998.tr e1007)
                                            · replace H := oi H; obtain ⟨k742, H⟩ | ⟨k742, H⟩ := H
                                              · replace H := og H; obtain ⟨g976, H⟩ := H
                                                replace H := og H; obtain ⟨g977, H⟩ := H
                                                replace H := og H; obtain ⟨g978, H⟩ := H
                                                subst g978
                                                replace H := og H; obtain ⟨g979, H⟩ := H
                                                replace H := ob H; obtain ⟨q981, c982, H⟩ := H
                                                replace H := og H; obtain ⟨g983, H⟩ := H
                                                replace H := og H; obtain ⟨g984, H⟩ := H
                                                replace H := og H; obtain ⟨g985, H⟩ := H
                                                subst g985
                                                replace H := og H; obtain ⟨g986, H⟩ := H
                                                replace H := ob H; obtain ⟨q988, c989, H⟩ := H
                                                replace H := oi H; obtain ⟨c990, H⟩ | ⟨c990, H⟩ := H
                                                · exact id (ih H)
                                                · obtain rfl := Option.some.inj H
                                                  exact Pr.rf
                                              · replace H := oi H; obtain ⟨k743, H⟩ | ⟨k743, H⟩ := H
                                                · replace H := og H; obtain ⟨g956, H⟩ := H
                                                  replace H := og H; obtain ⟨g957, H⟩ := H
                                                  replace H := og H; obtain ⟨g958, H⟩ := H
                                                  subst g958
                                                  replace H := og H; obtain ⟨g959, H⟩ := H
                                                  replace H := ob H; obtain ⟨q961, c962, H⟩ := H
                                                  have e963 := p_X11_year c962
                                                  replace H := og H; obtain ⟨g965, H⟩ := H
                                                  replace H := og H; obtain ⟨g966, H⟩ := H
                                                  replace H := og H; obtain ⟨g967, H⟩ := H
                                                  subst g967
                                                  replace H := og H; obtain ⟨g968, H⟩ := H
                                                  replace H := ob H; obtain ⟨q970, c971, H⟩ := H
                                                  have e972 := p_X12_year c971
                                                  replace H := oi H; obtain ⟨c975, H⟩ | ⟨c975, H⟩ := H
                                                  · exact (e963.tr e972).tr (ih H)
                                                  · obtain rfl := Option.some.inj H
                                                    exact (e963.tr e972)
                                                · replace H := oi H; obtain ⟨k744, H⟩ | ⟨k744, H⟩ := H
                                                  · replace H := og H; obtain ⟨g930, H⟩ := H
                                                    replace H := og H; obtain ⟨g931, H⟩ := H
                                                    replace H := og H; obtain ⟨g932, H⟩ := H
                                                    replace H := og H; obtain ⟨g933, H⟩ := H
                                                    replace H := og H; obtain ⟨g934, H⟩ := H
                                                    replace H := og H; obtain ⟨g935, H⟩ := H
                                                    subst g935
                                                    replace H := og H; obtain ⟨g936, H⟩ := H
                                                    replace H := ob H; obtain ⟨q938, c939, H⟩ := H
                                                    have e940 := p_X11_make c939
                                                    replace H := og H; obtain ⟨g942, H⟩ := H
                                                    replace H := og H; obtain ⟨g943, H⟩ := H
                                                    replace H := og H; obtain ⟨g944, H⟩ := H
                                                    replace H := og H; obtain ⟨g945, H⟩ := H
                                                    replace H := og H; obtain ⟨g946, H⟩ := H
                                                    replace H := og H; obtain ⟨g947, H⟩ := H
                                                    subst g947
                                                    replace H := og H; obtain ⟨g948, H⟩ := H
                                                    replace H := ob H; obtain ⟨q950, c951, H⟩ := H
                                                    have e952 := p_X12_make c951
                                                    replace H := oi H; obtain ⟨c955, H⟩ | ⟨c955, H⟩ := H
                                                    · exact (e940.tr e952).tr (ih H)
                                                    · obtain rfl := Option.some.inj H
                                                      exact (e940.tr e952)
                                                  · replace H := oi H; obtain ⟨k745, H⟩ | ⟨k745, H⟩ := H
                                                    · replace H := og H; obtain ⟨g908, H⟩ := H
                                                      replace H := og H; obtain ⟨g909, H⟩ := H
                                                      replace H := og H; obtain ⟨g910, H⟩ := H
                                                      replace H := og H; obtain ⟨g911, H⟩ := H
                                                      subst g911
                                                      replace H := og H; obtain ⟨g912, H⟩ := H
                                                      replace H := ob H; obtain ⟨q914, c915, H⟩ := H
                                                      have e916 := p_X11_walk c915
                                                      replace H := og H; obtain ⟨g918, H⟩ := H
                                                      replace H := og H; obtain ⟨g919, H⟩ := H
                                                      replace H := og H; obtain ⟨g920, H⟩ := H
                                                      replace H := og H; obtain ⟨g921, H⟩ := H
                                                      subst g921
                                                      replace H := og H; obtain ⟨g922, H⟩ := H
                                                      replace H := ob H; obtain ⟨q924, c925, H⟩ := H
                                                      have e926 := p_X12_walk c925
                                                      replace H := oi H; obtain ⟨c929, H⟩ | ⟨c929, H⟩ := H
                                                      · exact (e916.tr e926).tr (ih H)
                                                      · obtain rfl := Option.some.inj H
                                                        exact (e916.tr e926)
                                                    · replace H := oi H; obtain ⟨k746, H⟩ | ⟨k746, H⟩ := H
                                                      · replace H := og H; obtain ⟨g892, H⟩ := H
                                                        subst g892
                                                        replace H := og H; obtain ⟨g893, H⟩ := H
                                                        replace H := ob H; obtain ⟨q895, c896, H⟩ := H
                                                        have e897 := p_X11_image c896
                                                        replace H := og H; obtain ⟨g899, H⟩ := H
                                                        subst g899
                                                        replace H := og H; obtain ⟨g900, H⟩ := H
                                                        replace H := ob H; obtain ⟨q902, c903, H⟩ := H
                                                        have e904 := p_X12_image c903
                                                        replace H := oi H; obtain ⟨c907, H⟩ | ⟨c907, H⟩ := H
                                                        · exact (e897.tr e904).tr (ih H)
                                                        · obtain rfl := Option.some.inj H
                                                          exact (e897.tr e904)
                                                      · replace H := oi H; obtain ⟨k747, H⟩ | ⟨k747, H⟩ := H
                                                        · replace H := og H; obtain ⟨g876, H⟩ := H
                                                          subst g876
                                                          replace H := og H; obtain ⟨g877, H⟩ := H
                                                          replace H := ob H; obtain ⟨q879, c880, H⟩ := H
                                                          have e881 := p_X11_back c880
                                                          replace H := og H; obtain ⟨g883, H⟩ := H
                                                          subst g883
                                                          replace H := og H; obtain ⟨g884, H⟩ := H
                                                          replace H := ob H; obtain ⟨q886, c887, H⟩ := H
                                                          have e888 := p_X12_back c887
                                                          replace H := oi H; obtain ⟨c891, H⟩ | ⟨c891, H⟩ := H
                                                          · exact (e881.tr e888).tr (ih H)
                                                          · obtain rfl := Option.some.inj H
                                                            exact (e881.tr e888)
                                                        · replace H := oi H; obtain ⟨k748, H⟩ | ⟨k748, H⟩ := H
                                                          · replace H := og H; obtain ⟨g863, H⟩ := H
                                                            replace H := og H; obtain ⟨g864, H⟩ := H
                                                            subst g864
                                                            replace H := og H; obtain ⟨g865, H⟩ := H
                                                            replace H := ob H; obtain ⟨q867, c868, H⟩ := H
                                                            replace H := og H; obtain ⟨g869, H⟩ := H
                                                            replace H := og H; obtain ⟨g870, H⟩ := H
                                                            subst g870
                                                            replace H := og H; obtain ⟨g871, H⟩ := H
                                                            replace H := ob H; obtain ⟨q873, c874, H⟩ := H
                                                            replace H := oi H; obtain ⟨c875, H⟩ | ⟨c875, H⟩ := H
                                                            · exact id (ih H)
                                                            · obtain rfl := Option.some.inj H
                                                              exact Pr.rf
                                                          · replace H := oi H; obtain ⟨k749, H⟩ | ⟨k749, H⟩ := H
                                                            · replace H := og H; obtain ⟨g841, H⟩ := H
                                                              replace H := og H; obtain ⟨g842, H⟩ := H
                                                              replace H := og H; obtain ⟨g843, H⟩ := H
                                                              replace H := og H; obtain ⟨g844, H⟩ := H
                                                              subst g844
                                                              replace H := og H; obtain ⟨g845, H⟩ := H
                                                              replace H := ob H; obtain ⟨q847, c848, H⟩ := H
                                                              have e849 := p_X11_sheet c848
                                                              replace H := og H; obtain ⟨g851, H⟩ := H
                                                              replace H := og H; obtain ⟨g852, H⟩ := H
                                                              replace H := og H; obtain ⟨g853, H⟩ := H
                                                              replace H := og H; obtain ⟨g854, H⟩ := H
                                                              subst g854
                                                              replace H := og H; obtain ⟨g855, H⟩ := H
                                                              replace H := ob H; obtain ⟨q857, c858, H⟩ := H
                                                              have e859 := p_X12_sheet c858
                                                              replace H := oi H; obtain ⟨c862, H⟩ | ⟨c862, H⟩ := H
                                                              · exact (e849.tr e859).tr (ih H)
                                                              · obtain rfl := Option.some.inj H
                                                                exact (e849.tr e859)
                                                            · replace H := oi H; obtain ⟨k750, H⟩ | ⟨k750, H⟩ := H
                                                              · replace H := og H; obtain ⟨g819, H⟩ := H
                                                                replace H := og H; obtain ⟨g820, H⟩ := H
                                                                replace H := og H; obtain ⟨g821, H⟩ := H
                                                                replace H := og H; obtain ⟨g822, H⟩ := H
                                                                subst g822
                                                                replace H := og H; obtain ⟨g823, H⟩ := H
                                                                replace H := ob H; obtain ⟨q825, c826, H⟩ := H
                                                                have e827 := p_X11_cell c826
                                                                replace H := og H; obtain ⟨g829, H⟩ := H
                                                                replace H := og H; obtain ⟨g830, H⟩ := H
                                                                replace H := og H; obtain ⟨g831, H⟩ := H
                                                                replace H := og H; obtain ⟨g832, H⟩ := H
                                                                subst g832
                                                                replace H := og H; obtain ⟨g833, H⟩ := H
                                                                replace H := ob H; obtain ⟨q835, c836, H⟩ := H
                                                                have e837 := p_X12_cell c836
                                                                replace H := oi H; obtain ⟨c840, H⟩ | ⟨c840, H⟩ := H
                                                                · exact (e827.tr e837).tr (ih H)
                                                                · obtain rfl := Option.some.inj H
                                                                  exact (e827.tr e837)
                                                              · replace H := oi H; obtain ⟨k751, H⟩ | ⟨k751, H⟩ := H
                                                                · replace H := og H; obtain ⟨g793, H⟩ := H
                                                                  replace H := og H; obtain ⟨g794, H⟩ := H
                                                                  replace H := og H; obtain ⟨g795, H⟩ := H
                                                                  replace H := og H; obtain ⟨g796, H⟩ := H
                                                                  replace H := og H; obtain ⟨g797, H⟩ := H
                                                                  replace H := og H; obtain ⟨g798, H⟩ := H
                                                                  subst g798
                                                                  replace H := og H; obtain ⟨g799, H⟩ := H
                                                                  replace H := ob H; obtain ⟨q801, c802, H⟩ := H
                                                                  have e803 := p_X11_copy c802
                                                                  replace H := og H; obtain ⟨g805, H⟩ := H
                                                                  replace H := og H; obtain ⟨g806, H⟩ := H
                                                                  replace H := og H; obtain ⟨g807, H⟩ := H
                                                                  replace H := og H; obtain ⟨g808, H⟩ := H
                                                                  replace H := og H; obtain ⟨g809, H⟩ := H
                                                                  replace H := og H; obtain ⟨g810, H⟩ := H
                                                                  subst g810
                                                                  replace H := og H; obtain ⟨g811, H⟩ := H
                                                                  replace H := ob H; obtain ⟨q813, c814, H⟩ := H
                                                                  have e815 := p_X12_copy c814
                                                                  replace H := oi H; obtain ⟨c818, H⟩ | ⟨c818, H⟩ := H
                                                                  · exact (e803.tr e815).tr (ih H)
                                                                  · obtain rfl := Option.some.inj H
                                                                    exact (e803.tr e815)
                                                                · replace H := oi H; obtain ⟨k752, H⟩ | ⟨k752, H⟩ := H
                                                                  · replace H := og H; obtain ⟨g769, H⟩ := H
                                                                    replace H := og H; obtain ⟨g770, H⟩ := H
                                                                    replace H := og H; obtain ⟨g771, H⟩ := H
                                                                    replace H := og H; obtain ⟨g772, H⟩ := H
                                                                    replace H := og H; obtain ⟨g773, H⟩ := H
                                                                    subst g773
                                                                    replace H := og H; obtain ⟨g774, H⟩ := H
                                                                    replace H := ob H; obtain ⟨q776, c777, H⟩ := H
                                                                    have e778 := p_X11_tries c777
                                                                    replace H := og H; obtain ⟨g780, H⟩ := H
                                                                    replace H := og H; obtain ⟨g781, H⟩ := H
                                                                    replace H := og H; obtain ⟨g782, H⟩ := H
                                                                    replace H := og H; obtain ⟨g783, H⟩ := H
                                                                    replace H := og H; obtain ⟨g784, H⟩ := H
                                                                    subst g784
                                                                    replace H := og H; obtain ⟨g785, H⟩ := H
                                                                    replace H := ob H; obtain ⟨q787, c788, H⟩ := H
                                                                    have e789 := p_X12_tries c788
                                                                    replace H := oi H; obtain ⟨c792, H⟩ | ⟨c792, H⟩ := H
                                                                    · exact (e778.tr e789).tr (ih H)
                                                                    · obtain rfl := Option.some.inj H
                                                                      exact (e778.tr e789)
                                                                  · replace H := oi H; obtain ⟨k753, H⟩ | ⟨k753, H⟩ := H
                                                                    · replace H := og H; obtain ⟨g754, H⟩ := H
                                                                      replace H := og H; obtain ⟨g755, H⟩ := H
                                                                      replace H := og H; obtain ⟨g756, H⟩ := H
                                                                      subst g756
                                                                      replace H := og H; obtain ⟨g757, H⟩ := H
                                                                      replace H := ob H; obtain ⟨q759, c760, H⟩ := H
                                                                      replace H := og H; obtain ⟨g761, H⟩ := H
                                                                      replace H := og H; obtain ⟨g762, H⟩ := H
                                                                      replace H := og H; obtain ⟨g763, H⟩ := H
                                                                      subst g763
                                                                      replace H := og H; obtain ⟨g764, H⟩ := H
                                                                      replace H := ob H; obtain ⟨q766, c767, H⟩ := H
                                                                      replace H := oi H; obtain ⟨c768, H⟩ | ⟨c768, H⟩ := H
                                                                      · exact id (ih H)
                                                                      · obtain rfl := Option.some.inj H
                                                                        exact Pr.rf
                                                                    · exact id (ih H)
set_option maxHeartbeats 4000000 in
set_option maxRecDepth 20000 in
theorem w_L_law_18 {G : GE} (d : Nat) {scr : Nat → Int32} {L : Nat} (hscr : scr = fun j => nI (G.2.1 (101 + j))) (hLL : L = G.2.1 100) {y1 : Nat} {y2 : Nat} {r : Option Value} {h' : HS}  : ∀ (n : Nat) {x3 : Int32} {h : HS} {q : ((Bool × HS) ⊕ HS)}, l_L_law_18 scr L y1 y2 n x3 h = some q → (∀ v, q = Sum.inl v → r = some (.int (b2i v.1)) ∧ h' = v.2) → (∀ e, q = Sum.inr e → En G (d + 67) miL_law 1555 [dum, dum, dum, dum] [] e r h') → En G (d + 67) miL_law 18 [.ref 28, .ref y1, .ref y2, .int x3] [] h r h' := by
  intro n
  induction n with
  | zero => intro x3 h q H kR kE; exact nz H
  | succ n ih =>
    intro x3 h q H kR kE
    unfold l_L_law_18 at H
    refine e_iload_n dL_law_18 rfl ?_
    refine g_aload_n dL_law_19 rfl rfl ?_
    refine e_scl dL_law_20 ?_
    refine e_ci (y := nI L) (by rw [hLL]) ?_
    refine e_bipush (v := (6 : Int32)) dL_law_21 (by decide) ?_
    refine e_isub dL_law_23 ?_
    refine e_icmp_gt (tgt := 1555) dL_law_24 (by decide) (fun c720 => ?_) (fun c720 => ?_)
    · replace H := ot c720 H
      obtain rfl := Option.some.inj H
      exact e_wk (lk0 (lk0 (lk0 (lk0 lkn)))) (kE _ rfl)
    · replace H := of_ c720 H
      refine g_aload_n dL_law_27 rfl rfl ?_
      refine e_iload_n dL_law_28 rfl ?_
      replace H := og H; obtain ⟨g721, H⟩ := H
      refine e_sca (ixb_y hLL.symm g721) dL_law_29 ?_
      refine e_ci (y := scr x3.toNatClampNeg) (by rw [hscr]) ?_
      refine e_bipush (v := (31 : Int32)) dL_law_30 (by decide) ?_
      refine e_iand dL_law_32 ?_
      by_cases k722 : ((scr x3.toNatClampNeg) &&& (31 : Int32)) = (0 : Int32)
      · replace H := ot k722 H
        refine e_tableIn (off := 143) (tgt := 176) dL_law_33 (by rw [k722]; decide) (by rw [k722]; decide) (by rw [k722]; rfl) (by decide) ?_
        refine g_aload_n dL_law_176 rfl rfl ?_
        refine g_aload_n dL_law_177 rfl rfl ?_
        refine e_iload_n dL_law_178 rfl ?_
        refine e_iconst (v := (1 : Int32)) dL_law_179 (by decide) ?_
        refine e_iadd dL_law_180 ?_
        replace H := og H; obtain ⟨g1394, H⟩ := H
        refine e_sca (ixb_y hLL.symm g1394) dL_law_181 ?_
        refine e_ci (y := scr (x3 + (1 : Int32)).toNatClampNeg) (by rw [hscr]) ?_
        refine g_aload_n dL_law_182 rfl rfl ?_
        refine e_iload_n dL_law_183 rfl ?_
        refine e_iconst (v := (2 : Int32)) dL_law_184 (by decide) ?_
        refine e_iadd dL_law_185 ?_
        replace H := og H; obtain ⟨g1395, H⟩ := H
        refine e_sca (ixb_y hLL.symm g1395) dL_law_186 ?_
        refine e_ci (y := scr (x3 + (2 : Int32)).toNatClampNeg) (by rw [hscr]) ?_
        refine g_aload_n dL_law_187 rfl rfl ?_
        refine e_iload_n dL_law_188 rfl ?_
        refine e_iconst (v := (3 : Int32)) dL_law_189 (by decide) ?_
        refine e_iadd dL_law_190 ?_
        replace H := og H; obtain ⟨g1396, H⟩ := H
        refine e_sca (ixb_y hLL.symm g1396) dL_law_191 ?_
        refine e_ci (y := scr (x3 + (3 : Int32)).toNatClampNeg) (by rw [hscr]) ?_
        refine g_aload_n dL_law_192 rfl rfl ?_
        refine e_iload_n dL_law_193 rfl ?_
        refine e_iconst (v := (4 : Int32)) dL_law_194 (by decide) ?_
        refine e_iadd dL_law_195 ?_
        replace H := og H; obtain ⟨g1397, H⟩ := H
        refine e_sca (ixb_y hLL.symm g1397) dL_law_196 ?_
        refine e_ci (y := scr (x3 + (4 : Int32)).toNatClampNeg) (by rw [hscr]) ?_
        replace H := og H; obtain ⟨g1398, H⟩ := H
        subst g1398
        replace H := og H; obtain ⟨g1399, H⟩ := H
        have hY1400 : LY TX h := g1399
        replace H := ob H; obtain ⟨q1401, c1402, H⟩ := H
        refine v1 (hY1400.t 0 rfl) (by decide) rfl rfl lmL_13 liX11_stall lvX11_X11_stall msX11_stall dL_law_197 (t_X11_stall (d + 61) hY1400 c1402) rfl (Nat.le_of_ble_eq_true rfl) (Nat.le_refl _) ?_
        have e1403 := p_X11_stall c1402
        have hY1404 := hY1400.pr okX e1403
        refine g_aload_n dL_law_200 rfl rfl ?_
        refine g_aload_n dL_law_201 rfl rfl ?_
        refine e_iload_n dL_law_202 rfl ?_
        refine e_iconst (v := (1 : Int32)) dL_law_203 (by decide) ?_
        refine e_iadd dL_law_204 ?_
        replace H := og H; obtain ⟨g1405, H⟩ := H
        refine e_sca (ixb_y hLL.symm g1405) dL_law_205 ?_
        refine e_ci (y := scr (x3 + (1 : Int32)).toNatClampNeg) (by rw [hscr]) ?_
        refine g_aload_n dL_law_206 rfl rfl ?_
        refine e_iload_n dL_law_207 rfl ?_
        refine e_iconst (v := (2 : Int32)) dL_law_208 (by decide) ?_
        refine e_iadd dL_law_209 ?_
        replace H := og H; obtain ⟨g1406, H⟩ := H
        refine e_sca (ixb_y hLL.symm g1406) dL_law_210 ?_
        refine e_ci (y := scr (x3 + (2 : Int32)).toNatClampNeg) (by rw [hscr]) ?_
        refine g_aload_n dL_law_211 rfl rfl ?_
        refine e_iload_n dL_law_212 rfl ?_
        refine e_iconst (v := (3 : Int32)) dL_law_213 (by decide) ?_
        refine e_iadd dL_law_214 ?_
        replace H := og H; obtain ⟨g1407, H⟩ := H
        refine e_sca (ixb_y hLL.symm g1407) dL_law_215 ?_
        refine e_ci (y := scr (x3 + (3 : Int32)).toNatClampNeg) (by rw [hscr]) ?_
        refine g_aload_n dL_law_216 rfl rfl ?_
        refine e_iload_n dL_law_217 rfl ?_
        refine e_iconst (v := (4 : Int32)) dL_law_218 (by decide) ?_
        refine e_iadd dL_law_219 ?_
        replace H := og H; obtain ⟨g1408, H⟩ := H
        refine e_sca (ixb_y hLL.symm g1408) dL_law_220 ?_
        refine e_ci (y := scr (x3 + (4 : Int32)).toNatClampNeg) (by rw [hscr]) ?_
        replace H := og H; obtain ⟨g1409, H⟩ := H
        subst g1409
        replace H := og H; obtain ⟨g1410, H⟩ := H
        have hY1411 : LY TM q1401.2 := g1410
        replace H := ob H; obtain ⟨q1412, c1413, H⟩ := H
        refine v1 (hY1411.t 0 rfl) (by decide) rfl rfl lmL_17 liX12_stall lvX12_X12_stall msX12_stall dL_law_221 (t_X12_stall (d + 65) hY1411 c1413) rfl (Nat.le_of_ble_eq_true rfl) (Nat.le_refl _) ?_
        have e1414 := p_X12_stall c1413
        have hY1415 := hY1404.pr okX e1414
        have hY1416 := hY1411.pr okM e1414
        refine e_icmp_eq (tgt := 1549) dL_law_224 (by decide) (fun c1417 => ?_) (fun c1417 => ?_)
        · replace H := ot c1417 H
          refine e_iinc dL_law_1549 rfl (ii_ (by decide : Int32.ofInt (6) = (6 : Int32))) (Nat.le_of_ble_eq_true rfl) rfl rfl ?_
          refine e_goto (tgt := 18) dL_law_1552 (by decide) ?_
          exact e_wk (lk1 (lk1 (lk1 (lk1 lkn)))) (ih H kR kE)
        · replace H := of_ c1417 H
          refine e_iconst (v := (0 : Int32)) dL_law_227 (by decide) ?_
          obtain rfl := Option.some.inj H
          obtain ⟨eR, eH⟩ := kR _ rfl
          exact z_iret rfl rfl dL_law_228 eR eH
      · replace H := of_ k722 H
        by_cases k723 : ((scr x3.toNatClampNeg) &&& (31 : Int32)) = (1 : Int32)
        · replace H := ot k723 H
          refine e_tableIn (off := 196) (tgt := 229) dL_law_33 (by rw [k723]; decide) (by rw [k723]; decide) (by rw [k723]; rfl) (by decide) ?_
          refine g_aload_n dL_law_229 rfl rfl ?_
          refine g_aload_n dL_law_230 rfl rfl ?_
          refine e_iload_n dL_law_231 rfl ?_
          refine e_iconst (v := (1 : Int32)) dL_law_232 (by decide) ?_
          refine e_iadd dL_law_233 ?_
          replace H := og H; obtain ⟨g1372, H⟩ := H
          refine e_sca (ixb_y hLL.symm g1372) dL_law_234 ?_
          refine e_ci (y := scr (x3 + (1 : Int32)).toNatClampNeg) (by rw [hscr]) ?_
          refine g_aload_n dL_law_235 rfl rfl ?_
          refine e_iload_n dL_law_236 rfl ?_
          refine e_iconst (v := (2 : Int32)) dL_law_237 (by decide) ?_
          refine e_iadd dL_law_238 ?_
          replace H := og H; obtain ⟨g1373, H⟩ := H
          refine e_sca (ixb_y hLL.symm g1373) dL_law_239 ?_
          refine e_ci (y := scr (x3 + (2 : Int32)).toNatClampNeg) (by rw [hscr]) ?_
          refine g_aload_n dL_law_240 rfl rfl ?_
          refine e_iload_n dL_law_241 rfl ?_
          refine e_iconst (v := (3 : Int32)) dL_law_242 (by decide) ?_
          refine e_iadd dL_law_243 ?_
          replace H := og H; obtain ⟨g1374, H⟩ := H
          refine e_sca (ixb_y hLL.symm g1374) dL_law_244 ?_
          refine e_ci (y := scr (x3 + (3 : Int32)).toNatClampNeg) (by rw [hscr]) ?_
          replace H := og H; obtain ⟨g1375, H⟩ := H
          subst g1375
          replace H := og H; obtain ⟨g1376, H⟩ := H
          have hY1377 : LY TX h := g1376
          replace H := ob H; obtain ⟨q1378, c1379, H⟩ := H
          refine v1 (hY1377.t 0 rfl) (by decide) rfl rfl lmL_18 liX11_set lvX11_X11_set msX11_set dL_law_245 (t_X11_set (d + 62) hY1377 c1379) rfl (Nat.le_of_ble_eq_true rfl) (Nat.le_refl _) ?_
          have e1380 := p_X11_set c1379
          have hY1381 := hY1377.pr okX e1380
          refine g_aload_n dL_law_248 rfl rfl ?_
          refine g_aload_n dL_law_249 rfl rfl ?_
          refine e_iload_n dL_law_250 rfl ?_
          refine e_iconst (v := (1 : Int32)) dL_law_251 (by decide) ?_
          refine e_iadd dL_law_252 ?_
          replace H := og H; obtain ⟨g1382, H⟩ := H
          refine e_sca (ixb_y hLL.symm g1382) dL_law_253 ?_
          refine e_ci (y := scr (x3 + (1 : Int32)).toNatClampNeg) (by rw [hscr]) ?_
          refine g_aload_n dL_law_254 rfl rfl ?_
          refine e_iload_n dL_law_255 rfl ?_
          refine e_iconst (v := (2 : Int32)) dL_law_256 (by decide) ?_
          refine e_iadd dL_law_257 ?_
          replace H := og H; obtain ⟨g1383, H⟩ := H
          refine e_sca (ixb_y hLL.symm g1383) dL_law_258 ?_
          refine e_ci (y := scr (x3 + (2 : Int32)).toNatClampNeg) (by rw [hscr]) ?_
          refine g_aload_n dL_law_259 rfl rfl ?_
          refine e_iload_n dL_law_260 rfl ?_
          refine e_iconst (v := (3 : Int32)) dL_law_261 (by decide) ?_
          refine e_iadd dL_law_262 ?_
          replace H := og H; obtain ⟨g1384, H⟩ := H
          refine e_sca (ixb_y hLL.symm g1384) dL_law_263 ?_
          refine e_ci (y := scr (x3 + (3 : Int32)).toNatClampNeg) (by rw [hscr]) ?_
          replace H := og H; obtain ⟨g1385, H⟩ := H
          subst g1385
          replace H := og H; obtain ⟨g1386, H⟩ := H
          have hY1387 : LY TM q1378.2 := g1386
          replace H := ob H; obtain ⟨q1388, c1389, H⟩ := H
          refine v1 (hY1387.t 0 rfl) (by decide) rfl rfl lmL_22 liX12_set lvX12_X12_set msX12_set dL_law_264 (t_X12_set (d + 64) hY1387 c1389) rfl (Nat.le_of_ble_eq_true rfl) (Nat.le_refl _) ?_
          have e1390 := p_X12_set c1389
          have hY1391 := hY1381.pr okX e1390
          have hY1392 := hY1387.pr okM e1390
          refine e_icmp_eq (tgt := 1549) dL_law_267 (by decide) (fun c1393 => ?_) (fun c1393 => ?_)
          · replace H := ot c1393 H
            refine e_iinc dL_law_1549 rfl (ii_ (by decide : Int32.ofInt (6) = (6 : Int32))) (Nat.le_of_ble_eq_true rfl) rfl rfl ?_
            refine e_goto (tgt := 18) dL_law_1552 (by decide) ?_
            exact e_wk (lk1 (lk1 (lk1 (lk1 lkn)))) (ih H kR kE)
          · replace H := of_ c1393 H
            refine e_iconst (v := (0 : Int32)) dL_law_270 (by decide) ?_
            obtain rfl := Option.some.inj H
            obtain ⟨eR, eH⟩ := kR _ rfl
            exact z_iret rfl rfl dL_law_271 eR eH
        · replace H := of_ k723 H
          by_cases k724 : ((scr x3.toNatClampNeg) &&& (31 : Int32)) = (2 : Int32)
          · replace H := ot k724 H
            refine e_tableIn (off := 239) (tgt := 272) dL_law_33 (by rw [k724]; decide) (by rw [k724]; decide) (by rw [k724]; rfl) (by decide) ?_
            refine g_aload_n dL_law_272 rfl rfl ?_
            refine g_aload_n dL_law_273 rfl rfl ?_
            refine e_iload_n dL_law_274 rfl ?_
            refine e_iconst (v := (1 : Int32)) dL_law_275 (by decide) ?_
            refine e_iadd dL_law_276 ?_
            replace H := og H; obtain ⟨g1352, H⟩ := H
            refine e_sca (ixb_y hLL.symm g1352) dL_law_277 ?_
            refine e_ci (y := scr (x3 + (1 : Int32)).toNatClampNeg) (by rw [hscr]) ?_
            refine g_aload_n dL_law_278 rfl rfl ?_
            refine e_iload_n dL_law_279 rfl ?_
            refine e_iconst (v := (2 : Int32)) dL_law_280 (by decide) ?_
            refine e_iadd dL_law_281 ?_
            replace H := og H; obtain ⟨g1353, H⟩ := H
            refine e_sca (ixb_y hLL.symm g1353) dL_law_282 ?_
            refine e_ci (y := scr (x3 + (2 : Int32)).toNatClampNeg) (by rw [hscr]) ?_
            replace H := og H; obtain ⟨g1354, H⟩ := H
            subst g1354
            replace H := og H; obtain ⟨g1355, H⟩ := H
            have hY1356 : LY TX h := g1355
            replace H := ob H; obtain ⟨q1357, c1358, H⟩ := H
            refine v1 (hY1356.t 0 rfl) (by decide) rfl rfl lmL_23 liX11_told lvX11_X11_told msX11_told dL_law_283 (t_X11_told (d + 61) hY1356 c1358) rfl (Nat.le_of_ble_eq_true rfl) (Nat.le_refl _) ?_
            have e1359 := p_X11_told c1358
            have hY1360 := hY1356.pr okX e1359
            refine g_aload_n dL_law_286 rfl rfl ?_
            refine g_aload_n dL_law_287 rfl rfl ?_
            refine e_iload_n dL_law_288 rfl ?_
            refine e_iconst (v := (1 : Int32)) dL_law_289 (by decide) ?_
            refine e_iadd dL_law_290 ?_
            replace H := og H; obtain ⟨g1361, H⟩ := H
            refine e_sca (ixb_y hLL.symm g1361) dL_law_291 ?_
            refine e_ci (y := scr (x3 + (1 : Int32)).toNatClampNeg) (by rw [hscr]) ?_
            refine g_aload_n dL_law_292 rfl rfl ?_
            refine e_iload_n dL_law_293 rfl ?_
            refine e_iconst (v := (2 : Int32)) dL_law_294 (by decide) ?_
            refine e_iadd dL_law_295 ?_
            replace H := og H; obtain ⟨g1362, H⟩ := H
            refine e_sca (ixb_y hLL.symm g1362) dL_law_296 ?_
            refine e_ci (y := scr (x3 + (2 : Int32)).toNatClampNeg) (by rw [hscr]) ?_
            replace H := og H; obtain ⟨g1363, H⟩ := H
            subst g1363
            replace H := og H; obtain ⟨g1364, H⟩ := H
            have hY1365 : LY TM q1357.2 := g1364
            replace H := ob H; obtain ⟨q1366, c1367, H⟩ := H
            refine v1 (hY1365.t 0 rfl) (by decide) rfl rfl lmL_27 liX12_told lvX12_X12_told msX12_told dL_law_297 (t_X12_told (d + 0) hY1365 c1367) rfl (Nat.le_of_ble_eq_true rfl) (Nat.le_refl _) ?_
            have e1368 := p_X12_told c1367
            have hY1369 := hY1360.pr okX e1368
            have hY1370 := hY1365.pr okM e1368
            refine e_icmp_eq (tgt := 1549) dL_law_300 (by decide) (fun c1371 => ?_) (fun c1371 => ?_)
            · replace H := ot c1371 H
              refine e_iinc dL_law_1549 rfl (ii_ (by decide : Int32.ofInt (6) = (6 : Int32))) (Nat.le_of_ble_eq_true rfl) rfl rfl ?_
              refine e_goto (tgt := 18) dL_law_1552 (by decide) ?_
              exact e_wk (lk1 (lk1 (lk1 (lk1 lkn)))) (ih H kR kE)
            · replace H := of_ c1371 H
              refine e_iconst (v := (0 : Int32)) dL_law_303 (by decide) ?_
              obtain rfl := Option.some.inj H
              obtain ⟨eR, eH⟩ := kR _ rfl
              exact z_iret rfl rfl dL_law_304 eR eH
          · replace H := of_ k724 H
            by_cases k725 : ((scr x3.toNatClampNeg) &&& (31 : Int32)) = (3 : Int32)
            · replace H := ot k725 H
              refine e_tableIn (off := 272) (tgt := 305) dL_law_33 (by rw [k725]; decide) (by rw [k725]; decide) (by rw [k725]; rfl) (by decide) ?_
              refine g_aload_n dL_law_305 rfl rfl ?_
              refine g_aload_n dL_law_306 rfl rfl ?_
              refine e_iload_n dL_law_307 rfl ?_
              refine e_iconst (v := (1 : Int32)) dL_law_308 (by decide) ?_
              refine e_iadd dL_law_309 ?_
              replace H := og H; obtain ⟨g1335, H⟩ := H
              refine e_sca (ixb_y hLL.symm g1335) dL_law_310 ?_
              refine e_ci (y := scr (x3 + (1 : Int32)).toNatClampNeg) (by rw [hscr]) ?_
              refine g_aload_n dL_law_311 rfl rfl ?_
              refine e_iload_n dL_law_312 rfl ?_
              refine e_iconst (v := (2 : Int32)) dL_law_313 (by decide) ?_
              refine e_iadd dL_law_314 ?_
              replace H := og H; obtain ⟨g1336, H⟩ := H
              refine e_sca (ixb_y hLL.symm g1336) dL_law_315 ?_
              refine e_ci (y := scr (x3 + (2 : Int32)).toNatClampNeg) (by rw [hscr]) ?_
              refine g_aload_n dL_law_316 rfl rfl ?_
              refine e_iload_n dL_law_317 rfl ?_
              refine e_iconst (v := (3 : Int32)) dL_law_318 (by decide) ?_
              refine e_iadd dL_law_319 ?_
              replace H := og H; obtain ⟨g1337, H⟩ := H
              refine e_sca (ixb_y hLL.symm g1337) dL_law_320 ?_
              refine e_ci (y := scr (x3 + (3 : Int32)).toNatClampNeg) (by rw [hscr]) ?_
              replace H := og H; obtain ⟨g1338, H⟩ := H
              subst g1338
              replace H := og H; obtain ⟨g1339, H⟩ := H
              have hY1340 : LY TX h := g1339
              replace H := ob H; obtain ⟨q1341, c1342, H⟩ := H
              refine v1 (hY1340.t 0 rfl) (by decide) rfl rfl lmL_28 liX11_wins lvX11_X11_wins msX11_wins dL_law_321 (t_X11_wins (d + 62) hY1340 c1342) rfl (Nat.le_of_ble_eq_true rfl) (Nat.le_refl _) ?_
              refine g_aload_n dL_law_324 rfl rfl ?_
              refine g_aload_n dL_law_325 rfl rfl ?_
              refine e_iload_n dL_law_326 rfl ?_
              refine e_iconst (v := (1 : Int32)) dL_law_327 (by decide) ?_
              refine e_iadd dL_law_328 ?_
              replace H := og H; obtain ⟨g1343, H⟩ := H
              refine e_sca (ixb_y hLL.symm g1343) dL_law_329 ?_
              refine e_ci (y := scr (x3 + (1 : Int32)).toNatClampNeg) (by rw [hscr]) ?_
              refine g_aload_n dL_law_330 rfl rfl ?_
              refine e_iload_n dL_law_331 rfl ?_
              refine e_iconst (v := (2 : Int32)) dL_law_332 (by decide) ?_
              refine e_iadd dL_law_333 ?_
              replace H := og H; obtain ⟨g1344, H⟩ := H
              refine e_sca (ixb_y hLL.symm g1344) dL_law_334 ?_
              refine e_ci (y := scr (x3 + (2 : Int32)).toNatClampNeg) (by rw [hscr]) ?_
              refine g_aload_n dL_law_335 rfl rfl ?_
              refine e_iload_n dL_law_336 rfl ?_
              refine e_iconst (v := (3 : Int32)) dL_law_337 (by decide) ?_
              refine e_iadd dL_law_338 ?_
              replace H := og H; obtain ⟨g1345, H⟩ := H
              refine e_sca (ixb_y hLL.symm g1345) dL_law_339 ?_
              refine e_ci (y := scr (x3 + (3 : Int32)).toNatClampNeg) (by rw [hscr]) ?_
              replace H := og H; obtain ⟨g1346, H⟩ := H
              subst g1346
              replace H := og H; obtain ⟨g1347, H⟩ := H
              have hY1348 : LY TM h := g1347
              replace H := ob H; obtain ⟨q1349, c1350, H⟩ := H
              refine v1 (hY1348.t 0 rfl) (by decide) rfl rfl lmL_31 liX12_wins lvX12_X12_wins msX12_wins dL_law_340 (t_X12_wins (d + 63) hY1348 c1350) rfl (Nat.le_of_ble_eq_true rfl) (Nat.le_refl _) ?_
              refine e_icmp_eq (tgt := 1549) dL_law_343 (by decide) (fun c1351 => ?_) (fun c1351 => ?_)
              · replace H := ot c1351 H
                refine e_iinc dL_law_1549 rfl (ii_ (by decide : Int32.ofInt (6) = (6 : Int32))) (Nat.le_of_ble_eq_true rfl) rfl rfl ?_
                refine e_goto (tgt := 18) dL_law_1552 (by decide) ?_
                exact e_wk (lk1 (lk1 (lk1 (lk1 lkn)))) (ih H kR kE)
              · replace H := of_ c1351 H
                refine e_iconst (v := (0 : Int32)) dL_law_346 (by decide) ?_
                obtain rfl := Option.some.inj H
                obtain ⟨eR, eH⟩ := kR _ rfl
                exact z_iret rfl rfl dL_law_347 eR eH
            · replace H := of_ k725 H
              by_cases k726 : ((scr x3.toNatClampNeg) &&& (31 : Int32)) = (4 : Int32)
              · replace H := ot k726 H
                refine e_tableIn (off := 315) (tgt := 348) dL_law_33 (by rw [k726]; decide) (by rw [k726]; decide) (by rw [k726]; rfl) (by decide) ?_
                refine g_aload_n dL_law_348 rfl rfl ?_
                refine g_aload_n dL_law_349 rfl rfl ?_
                refine e_iload_n dL_law_350 rfl ?_
                refine e_iconst (v := (1 : Int32)) dL_law_351 (by decide) ?_
                refine e_iadd dL_law_352 ?_
                replace H := og H; obtain ⟨g1313, H⟩ := H
                refine e_sca (ixb_y hLL.symm g1313) dL_law_353 ?_
                refine e_ci (y := scr (x3 + (1 : Int32)).toNatClampNeg) (by rw [hscr]) ?_
                refine g_aload_n dL_law_354 rfl rfl ?_
                refine e_iload_n dL_law_355 rfl ?_
                refine e_iconst (v := (2 : Int32)) dL_law_356 (by decide) ?_
                refine e_iadd dL_law_357 ?_
                replace H := og H; obtain ⟨g1314, H⟩ := H
                refine e_sca (ixb_y hLL.symm g1314) dL_law_358 ?_
                refine e_ci (y := scr (x3 + (2 : Int32)).toNatClampNeg) (by rw [hscr]) ?_
                refine g_aload_n dL_law_359 rfl rfl ?_
                refine e_iload_n dL_law_360 rfl ?_
                refine e_iconst (v := (3 : Int32)) dL_law_361 (by decide) ?_
                refine e_iadd dL_law_362 ?_
                replace H := og H; obtain ⟨g1315, H⟩ := H
                refine e_sca (ixb_y hLL.symm g1315) dL_law_363 ?_
                refine e_ci (y := scr (x3 + (3 : Int32)).toNatClampNeg) (by rw [hscr]) ?_
                replace H := og H; obtain ⟨g1316, H⟩ := H
                subst g1316
                replace H := og H; obtain ⟨g1317, H⟩ := H
                have hY1318 : LY TX h := g1317
                replace H := ob H; obtain ⟨q1319, c1320, H⟩ := H
                refine v1 (hY1318.t 0 rfl) (by decide) rfl rfl lmL_32 liX11_hand lvX11_X11_hand msX11_hand dL_law_364 (t_X11_hand (d + 61) hY1318 c1320) rfl (Nat.le_of_ble_eq_true rfl) (Nat.le_refl _) ?_
                have e1321 := p_X11_hand c1320
                have hY1322 := hY1318.pr okX e1321
                refine g_aload_n dL_law_367 rfl rfl ?_
                refine g_aload_n dL_law_368 rfl rfl ?_
                refine e_iload_n dL_law_369 rfl ?_
                refine e_iconst (v := (1 : Int32)) dL_law_370 (by decide) ?_
                refine e_iadd dL_law_371 ?_
                replace H := og H; obtain ⟨g1323, H⟩ := H
                refine e_sca (ixb_y hLL.symm g1323) dL_law_372 ?_
                refine e_ci (y := scr (x3 + (1 : Int32)).toNatClampNeg) (by rw [hscr]) ?_
                refine g_aload_n dL_law_373 rfl rfl ?_
                refine e_iload_n dL_law_374 rfl ?_
                refine e_iconst (v := (2 : Int32)) dL_law_375 (by decide) ?_
                refine e_iadd dL_law_376 ?_
                replace H := og H; obtain ⟨g1324, H⟩ := H
                refine e_sca (ixb_y hLL.symm g1324) dL_law_377 ?_
                refine e_ci (y := scr (x3 + (2 : Int32)).toNatClampNeg) (by rw [hscr]) ?_
                refine g_aload_n dL_law_378 rfl rfl ?_
                refine e_iload_n dL_law_379 rfl ?_
                refine e_iconst (v := (3 : Int32)) dL_law_380 (by decide) ?_
                refine e_iadd dL_law_381 ?_
                replace H := og H; obtain ⟨g1325, H⟩ := H
                refine e_sca (ixb_y hLL.symm g1325) dL_law_382 ?_
                refine e_ci (y := scr (x3 + (3 : Int32)).toNatClampNeg) (by rw [hscr]) ?_
                replace H := og H; obtain ⟨g1326, H⟩ := H
                subst g1326
                replace H := og H; obtain ⟨g1327, H⟩ := H
                have hY1328 : LY TM q1319.2 := g1327
                replace H := ob H; obtain ⟨q1329, c1330, H⟩ := H
                refine v1 (hY1328.t 0 rfl) (by decide) rfl rfl lmL_35 liX12_hand lvX12_X12_hand msX12_hand dL_law_383 (t_X12_hand (d + 65) hY1328 c1330) rfl (Nat.le_of_ble_eq_true rfl) (Nat.le_refl _) ?_
                have e1331 := p_X12_hand c1330
                have hY1332 := hY1322.pr okX e1331
                have hY1333 := hY1328.pr okM e1331
                refine e_icmp_eq (tgt := 1549) dL_law_386 (by decide) (fun c1334 => ?_) (fun c1334 => ?_)
                · replace H := ot c1334 H
                  refine e_iinc dL_law_1549 rfl (ii_ (by decide : Int32.ofInt (6) = (6 : Int32))) (Nat.le_of_ble_eq_true rfl) rfl rfl ?_
                  refine e_goto (tgt := 18) dL_law_1552 (by decide) ?_
                  exact e_wk (lk1 (lk1 (lk1 (lk1 lkn)))) (ih H kR kE)
                · replace H := of_ c1334 H
                  refine e_iconst (v := (0 : Int32)) dL_law_389 (by decide) ?_
                  obtain rfl := Option.some.inj H
                  obtain ⟨eR, eH⟩ := kR _ rfl
                  exact z_iret rfl rfl dL_law_390 eR eH
              · replace H := of_ k726 H
                by_cases k727 : ((scr x3.toNatClampNeg) &&& (31 : Int32)) = (5 : Int32)
                · replace H := ot k727 H
                  refine e_tableIn (off := 358) (tgt := 391) dL_law_33 (by rw [k727]; decide) (by rw [k727]; decide) (by rw [k727]; rfl) (by decide) ?_
                  refine g_aload_n dL_law_391 rfl rfl ?_
                  refine g_aload_n dL_law_392 rfl rfl ?_
                  refine e_iload_n dL_law_393 rfl ?_
                  refine e_iconst (v := (1 : Int32)) dL_law_394 (by decide) ?_
                  refine e_iadd dL_law_395 ?_
                  replace H := og H; obtain ⟨g1292, H⟩ := H
                  refine e_sca (ixb_y hLL.symm g1292) dL_law_396 ?_
                  refine e_ci (y := scr (x3 + (1 : Int32)).toNatClampNeg) (by rw [hscr]) ?_
                  refine g_aload_n dL_law_397 rfl rfl ?_
                  refine e_iload_n dL_law_398 rfl ?_
                  refine e_iconst (v := (2 : Int32)) dL_law_399 (by decide) ?_
                  refine e_iadd dL_law_400 ?_
                  replace H := og H; obtain ⟨g1293, H⟩ := H
                  refine e_sca (ixb_y hLL.symm g1293) dL_law_401 ?_
                  refine e_ci (y := scr (x3 + (2 : Int32)).toNatClampNeg) (by rw [hscr]) ?_
                  refine g_aload_n dL_law_402 rfl rfl ?_
                  refine e_iload_n dL_law_403 rfl ?_
                  refine e_iconst (v := (3 : Int32)) dL_law_404 (by decide) ?_
                  refine e_iadd dL_law_405 ?_
                  replace H := og H; obtain ⟨g1294, H⟩ := H
                  refine e_sca (ixb_y hLL.symm g1294) dL_law_406 ?_
                  refine e_ci (y := scr (x3 + (3 : Int32)).toNatClampNeg) (by rw [hscr]) ?_
                  refine g_aload_n dL_law_407 rfl rfl ?_
                  refine e_iload_n dL_law_408 rfl ?_
                  refine e_iconst (v := (4 : Int32)) dL_law_409 (by decide) ?_
                  refine e_iadd dL_law_410 ?_
                  replace H := og H; obtain ⟨g1295, H⟩ := H
                  refine e_sca (ixb_y hLL.symm g1295) dL_law_411 ?_
                  refine e_ci (y := scr (x3 + (4 : Int32)).toNatClampNeg) (by rw [hscr]) ?_
                  replace H := og H; obtain ⟨g1296, H⟩ := H
                  subst g1296
                  replace H := og H; obtain ⟨g1297, H⟩ := H
                  have hY1298 : LY TX h := g1297
                  replace H := ob H; obtain ⟨q1299, c1300, H⟩ := H
                  refine v1 (hY1298.t 0 rfl) (by decide) rfl rfl lmL_36 liX11_odds lvX11_X11_odds msX11_odds dL_law_412 (t_X11_odds (d + 61) hY1298 c1300) rfl (Nat.le_of_ble_eq_true rfl) (Nat.le_refl _) ?_
                  have e1301 := p_X11_odds c1300
                  have hY1302 := hY1298.pr okX e1301
                  refine g_aload_n dL_law_415 rfl rfl ?_
                  refine g_aload_n dL_law_416 rfl rfl ?_
                  refine e_iload_n dL_law_417 rfl ?_
                  refine e_iconst (v := (1 : Int32)) dL_law_418 (by decide) ?_
                  refine e_iadd dL_law_419 ?_
                  replace H := og H; obtain ⟨g1303, H⟩ := H
                  refine e_sca (ixb_y hLL.symm g1303) dL_law_420 ?_
                  refine e_ci (y := scr (x3 + (1 : Int32)).toNatClampNeg) (by rw [hscr]) ?_
                  refine g_aload_n dL_law_421 rfl rfl ?_
                  refine e_iload_n dL_law_422 rfl ?_
                  refine e_iconst (v := (2 : Int32)) dL_law_423 (by decide) ?_
                  refine e_iadd dL_law_424 ?_
                  replace H := og H; obtain ⟨g1304, H⟩ := H
                  refine e_sca (ixb_y hLL.symm g1304) dL_law_425 ?_
                  refine e_ci (y := scr (x3 + (2 : Int32)).toNatClampNeg) (by rw [hscr]) ?_
                  refine g_aload_n dL_law_426 rfl rfl ?_
                  refine e_iload_n dL_law_427 rfl ?_
                  refine e_iconst (v := (3 : Int32)) dL_law_428 (by decide) ?_
                  refine e_iadd dL_law_429 ?_
                  replace H := og H; obtain ⟨g1305, H⟩ := H
                  refine e_sca (ixb_y hLL.symm g1305) dL_law_430 ?_
                  refine e_ci (y := scr (x3 + (3 : Int32)).toNatClampNeg) (by rw [hscr]) ?_
                  refine g_aload_n dL_law_431 rfl rfl ?_
                  refine e_iload_n dL_law_432 rfl ?_
                  refine e_iconst (v := (4 : Int32)) dL_law_433 (by decide) ?_
                  refine e_iadd dL_law_434 ?_
                  replace H := og H; obtain ⟨g1306, H⟩ := H
                  refine e_sca (ixb_y hLL.symm g1306) dL_law_435 ?_
                  refine e_ci (y := scr (x3 + (4 : Int32)).toNatClampNeg) (by rw [hscr]) ?_
                  replace H := og H; obtain ⟨g1307, H⟩ := H
                  subst g1307
                  replace H := og H; obtain ⟨g1308, H⟩ := H
                  have hY1309 : LY TM q1299.2 := g1308
                  replace H := ob H; obtain ⟨q1310, c1311, H⟩ := H
                  refine v1 (hY1309.t 0 rfl) (by decide) rfl rfl lmL_40 liX12_odds lvX12_X12_odds msX12_odds dL_law_436 (t_X12_odds (d + 61) hY1309 c1311) rfl (Nat.le_of_ble_eq_true rfl) (Nat.le_refl _) ?_
                  refine e_lc_eq (tgt := 1549) dL_law_439 dL_law_440 (by decide) (fun c1312 => ?_) (fun c1312 => ?_)
                  · replace H := ot c1312 H
                    refine e_iinc dL_law_1549 rfl (ii_ (by decide : Int32.ofInt (6) = (6 : Int32))) (Nat.le_of_ble_eq_true rfl) rfl rfl ?_
                    refine e_goto (tgt := 18) dL_law_1552 (by decide) ?_
                    exact e_wk (lk1 (lk1 (lk1 (lk1 lkn)))) (ih H kR kE)
                  · replace H := of_ c1312 H
                    refine e_iconst (v := (0 : Int32)) dL_law_443 (by decide) ?_
                    obtain rfl := Option.some.inj H
                    obtain ⟨eR, eH⟩ := kR _ rfl
                    exact z_iret rfl rfl dL_law_444 eR eH
                · replace H := of_ k727 H
                  by_cases k728 : ((scr x3.toNatClampNeg) &&& (31 : Int32)) = (6 : Int32)
                  · replace H := ot k728 H
                    refine e_tableIn (off := 412) (tgt := 445) dL_law_33 (by rw [k728]; decide) (by rw [k728]; decide) (by rw [k728]; rfl) (by decide) ?_
                    refine g_aload_n dL_law_445 rfl rfl ?_
                    refine g_aload_n dL_law_446 rfl rfl ?_
                    refine e_iload_n dL_law_447 rfl ?_
                    refine e_iconst (v := (1 : Int32)) dL_law_448 (by decide) ?_
                    refine e_iadd dL_law_449 ?_
                    replace H := og H; obtain ⟨g1270, H⟩ := H
                    refine e_sca (ixb_y hLL.symm g1270) dL_law_450 ?_
                    refine e_ci (y := scr (x3 + (1 : Int32)).toNatClampNeg) (by rw [hscr]) ?_
                    refine g_aload_n dL_law_451 rfl rfl ?_
                    refine e_iload_n dL_law_452 rfl ?_
                    refine e_iconst (v := (2 : Int32)) dL_law_453 (by decide) ?_
                    refine e_iadd dL_law_454 ?_
                    replace H := og H; obtain ⟨g1271, H⟩ := H
                    refine e_sca (ixb_y hLL.symm g1271) dL_law_455 ?_
                    refine e_ci (y := scr (x3 + (2 : Int32)).toNatClampNeg) (by rw [hscr]) ?_
                    refine g_aload_n dL_law_456 rfl rfl ?_
                    refine e_iload_n dL_law_457 rfl ?_
                    refine e_iconst (v := (3 : Int32)) dL_law_458 (by decide) ?_
                    refine e_iadd dL_law_459 ?_
                    replace H := og H; obtain ⟨g1272, H⟩ := H
                    refine e_sca (ixb_y hLL.symm g1272) dL_law_460 ?_
                    refine e_ci (y := scr (x3 + (3 : Int32)).toNatClampNeg) (by rw [hscr]) ?_
                    replace H := og H; obtain ⟨g1273, H⟩ := H
                    subst g1273
                    replace H := og H; obtain ⟨g1274, H⟩ := H
                    have hY1275 : LY TX h := g1274
                    replace H := ob H; obtain ⟨q1276, c1277, H⟩ := H
                    refine v1 (hY1275.t 0 rfl) (by decide) rfl rfl lmL_41 liX11_best lvX11_X11_best msX11_best dL_law_461 (t_X11_best (d + 61) hY1275 c1277) rfl (Nat.le_of_ble_eq_true rfl) (Nat.le_refl _) ?_
                    have e1278 := p_X11_best c1277
                    have hY1279 := hY1275.pr okX e1278
                    refine g_aload_n dL_law_464 rfl rfl ?_
                    refine g_aload_n dL_law_465 rfl rfl ?_
                    refine e_iload_n dL_law_466 rfl ?_
                    refine e_iconst (v := (1 : Int32)) dL_law_467 (by decide) ?_
                    refine e_iadd dL_law_468 ?_
                    replace H := og H; obtain ⟨g1280, H⟩ := H
                    refine e_sca (ixb_y hLL.symm g1280) dL_law_469 ?_
                    refine e_ci (y := scr (x3 + (1 : Int32)).toNatClampNeg) (by rw [hscr]) ?_
                    refine g_aload_n dL_law_470 rfl rfl ?_
                    refine e_iload_n dL_law_471 rfl ?_
                    refine e_iconst (v := (2 : Int32)) dL_law_472 (by decide) ?_
                    refine e_iadd dL_law_473 ?_
                    replace H := og H; obtain ⟨g1281, H⟩ := H
                    refine e_sca (ixb_y hLL.symm g1281) dL_law_474 ?_
                    refine e_ci (y := scr (x3 + (2 : Int32)).toNatClampNeg) (by rw [hscr]) ?_
                    refine g_aload_n dL_law_475 rfl rfl ?_
                    refine e_iload_n dL_law_476 rfl ?_
                    refine e_iconst (v := (3 : Int32)) dL_law_477 (by decide) ?_
                    refine e_iadd dL_law_478 ?_
                    replace H := og H; obtain ⟨g1282, H⟩ := H
                    refine e_sca (ixb_y hLL.symm g1282) dL_law_479 ?_
                    refine e_ci (y := scr (x3 + (3 : Int32)).toNatClampNeg) (by rw [hscr]) ?_
                    replace H := og H; obtain ⟨g1283, H⟩ := H
                    subst g1283
                    replace H := og H; obtain ⟨g1284, H⟩ := H
                    have hY1285 : LY TM q1276.2 := g1284
                    replace H := ob H; obtain ⟨q1286, c1287, H⟩ := H
                    refine v1 (hY1285.t 0 rfl) (by decide) rfl rfl lmL_45 liX12_best lvX12_X12_best msX12_best dL_law_480 (t_X12_best (d + 60) hY1285 c1287) rfl (Nat.le_of_ble_eq_true rfl) (Nat.le_refl _) ?_
                    have e1288 := p_X12_best c1287
                    have hY1289 := hY1279.pr okX e1288
                    have hY1290 := hY1285.pr okM e1288
                    refine e_lc_eq (tgt := 1549) dL_law_483 dL_law_484 (by decide) (fun c1291 => ?_) (fun c1291 => ?_)
                    · replace H := ot c1291 H
                      refine e_iinc dL_law_1549 rfl (ii_ (by decide : Int32.ofInt (6) = (6 : Int32))) (Nat.le_of_ble_eq_true rfl) rfl rfl ?_
                      refine e_goto (tgt := 18) dL_law_1552 (by decide) ?_
                      exact e_wk (lk1 (lk1 (lk1 (lk1 lkn)))) (ih H kR kE)
                    · replace H := of_ c1291 H
                      refine e_iconst (v := (0 : Int32)) dL_law_487 (by decide) ?_
                      obtain rfl := Option.some.inj H
                      obtain ⟨eR, eH⟩ := kR _ rfl
                      exact z_iret rfl rfl dL_law_488 eR eH
                  · replace H := of_ k728 H
                    by_cases k729 : ((scr x3.toNatClampNeg) &&& (31 : Int32)) = (7 : Int32)
                    · replace H := ot k729 H
                      refine e_tableIn (off := 456) (tgt := 489) dL_law_33 (by rw [k729]; decide) (by rw [k729]; decide) (by rw [k729]; rfl) (by decide) ?_
                      refine g_aload_n dL_law_489 rfl rfl ?_
                      refine g_aload_n dL_law_490 rfl rfl ?_
                      refine e_iload_n dL_law_491 rfl ?_
                      refine e_iconst (v := (1 : Int32)) dL_law_492 (by decide) ?_
                      refine e_iadd dL_law_493 ?_
                      replace H := og H; obtain ⟨g1246, H⟩ := H
                      refine e_sca (ixb_y hLL.symm g1246) dL_law_494 ?_
                      refine e_ci (y := scr (x3 + (1 : Int32)).toNatClampNeg) (by rw [hscr]) ?_
                      refine g_aload_n dL_law_495 rfl rfl ?_
                      refine e_iload_n dL_law_496 rfl ?_
                      refine e_iconst (v := (2 : Int32)) dL_law_497 (by decide) ?_
                      refine e_iadd dL_law_498 ?_
                      replace H := og H; obtain ⟨g1247, H⟩ := H
                      refine e_sca (ixb_y hLL.symm g1247) dL_law_499 ?_
                      refine e_ci (y := scr (x3 + (2 : Int32)).toNatClampNeg) (by rw [hscr]) ?_
                      refine g_aload_n dL_law_500 rfl rfl ?_
                      refine e_iload_n dL_law_501 rfl ?_
                      refine e_iconst (v := (3 : Int32)) dL_law_502 (by decide) ?_
                      refine e_iadd dL_law_503 ?_
                      replace H := og H; obtain ⟨g1248, H⟩ := H
                      refine e_sca (ixb_y hLL.symm g1248) dL_law_504 ?_
                      refine e_ci (y := scr (x3 + (3 : Int32)).toNatClampNeg) (by rw [hscr]) ?_
                      refine g_aload_n dL_law_505 rfl rfl ?_
                      refine e_iload_n dL_law_506 rfl ?_
                      refine e_iconst (v := (4 : Int32)) dL_law_507 (by decide) ?_
                      refine e_iadd dL_law_508 ?_
                      replace H := og H; obtain ⟨g1249, H⟩ := H
                      refine e_sca (ixb_y hLL.symm g1249) dL_law_509 ?_
                      refine e_ci (y := scr (x3 + (4 : Int32)).toNatClampNeg) (by rw [hscr]) ?_
                      replace H := og H; obtain ⟨g1250, H⟩ := H
                      subst g1250
                      replace H := og H; obtain ⟨g1251, H⟩ := H
                      have hY1252 : LY TX h := g1251
                      replace H := ob H; obtain ⟨q1253, c1254, H⟩ := H
                      refine v1 (hY1252.t 0 rfl) (by decide) rfl rfl lmL_46 liX11_tried lvX11_X11_tried msX11_tried dL_law_510 (t_X11_tried (d + 61) hY1252 c1254) rfl (Nat.le_of_ble_eq_true rfl) (Nat.le_refl _) ?_
                      have e1255 := p_X11_tried c1254
                      have hY1256 := hY1252.pr okX e1255
                      refine g_aload_n dL_law_513 rfl rfl ?_
                      refine g_aload_n dL_law_514 rfl rfl ?_
                      refine e_iload_n dL_law_515 rfl ?_
                      refine e_iconst (v := (1 : Int32)) dL_law_516 (by decide) ?_
                      refine e_iadd dL_law_517 ?_
                      replace H := og H; obtain ⟨g1257, H⟩ := H
                      refine e_sca (ixb_y hLL.symm g1257) dL_law_518 ?_
                      refine e_ci (y := scr (x3 + (1 : Int32)).toNatClampNeg) (by rw [hscr]) ?_
                      refine g_aload_n dL_law_519 rfl rfl ?_
                      refine e_iload_n dL_law_520 rfl ?_
                      refine e_iconst (v := (2 : Int32)) dL_law_521 (by decide) ?_
                      refine e_iadd dL_law_522 ?_
                      replace H := og H; obtain ⟨g1258, H⟩ := H
                      refine e_sca (ixb_y hLL.symm g1258) dL_law_523 ?_
                      refine e_ci (y := scr (x3 + (2 : Int32)).toNatClampNeg) (by rw [hscr]) ?_
                      refine g_aload_n dL_law_524 rfl rfl ?_
                      refine e_iload_n dL_law_525 rfl ?_
                      refine e_iconst (v := (3 : Int32)) dL_law_526 (by decide) ?_
                      refine e_iadd dL_law_527 ?_
                      replace H := og H; obtain ⟨g1259, H⟩ := H
                      refine e_sca (ixb_y hLL.symm g1259) dL_law_528 ?_
                      refine e_ci (y := scr (x3 + (3 : Int32)).toNatClampNeg) (by rw [hscr]) ?_
                      refine g_aload_n dL_law_529 rfl rfl ?_
                      refine e_iload_n dL_law_530 rfl ?_
                      refine e_iconst (v := (4 : Int32)) dL_law_531 (by decide) ?_
                      refine e_iadd dL_law_532 ?_
                      replace H := og H; obtain ⟨g1260, H⟩ := H
                      refine e_sca (ixb_y hLL.symm g1260) dL_law_533 ?_
                      refine e_ci (y := scr (x3 + (4 : Int32)).toNatClampNeg) (by rw [hscr]) ?_
                      replace H := og H; obtain ⟨g1261, H⟩ := H
                      subst g1261
                      replace H := og H; obtain ⟨g1262, H⟩ := H
                      have hY1263 : LY TM q1253.2 := g1262
                      replace H := ob H; obtain ⟨q1264, c1265, H⟩ := H
                      refine v1 (hY1263.t 0 rfl) (by decide) rfl rfl lmL_49 liX12_tried lvX12_X12_tried msX12_tried dL_law_534 (t_X12_tried (d + 62) hY1263 c1265) rfl (Nat.le_of_ble_eq_true rfl) (Nat.le_refl _) ?_
                      have e1266 := p_X12_tried c1265
                      have hY1267 := hY1256.pr okX e1266
                      have hY1268 := hY1263.pr okM e1266
                      refine e_icmp_eq (tgt := 1549) dL_law_537 (by decide) (fun c1269 => ?_) (fun c1269 => ?_)
                      · replace H := ot c1269 H
                        refine e_iinc dL_law_1549 rfl (ii_ (by decide : Int32.ofInt (6) = (6 : Int32))) (Nat.le_of_ble_eq_true rfl) rfl rfl ?_
                        refine e_goto (tgt := 18) dL_law_1552 (by decide) ?_
                        exact e_wk (lk1 (lk1 (lk1 (lk1 lkn)))) (ih H kR kE)
                      · replace H := of_ c1269 H
                        refine e_iconst (v := (0 : Int32)) dL_law_540 (by decide) ?_
                        obtain rfl := Option.some.inj H
                        obtain ⟨eR, eH⟩ := kR _ rfl
                        exact z_iret rfl rfl dL_law_541 eR eH
                    · replace H := of_ k729 H
                      by_cases k730 : ((scr x3.toNatClampNeg) &&& (31 : Int32)) = (8 : Int32)
                      · replace H := ot k730 H
                        refine e_tableIn (off := 509) (tgt := 542) dL_law_33 (by rw [k730]; decide) (by rw [k730]; decide) (by rw [k730]; rfl) (by decide) ?_
                        refine g_aload_n dL_law_542 rfl rfl ?_
                        refine g_aload_n dL_law_543 rfl rfl ?_
                        refine e_iload_n dL_law_544 rfl ?_
                        refine e_iconst (v := (1 : Int32)) dL_law_545 (by decide) ?_
                        refine e_iadd dL_law_546 ?_
                        replace H := og H; obtain ⟨g1222, H⟩ := H
                        refine e_sca (ixb_y hLL.symm g1222) dL_law_547 ?_
                        refine e_ci (y := scr (x3 + (1 : Int32)).toNatClampNeg) (by rw [hscr]) ?_
                        refine g_aload_n dL_law_548 rfl rfl ?_
                        refine e_iload_n dL_law_549 rfl ?_
                        refine e_iconst (v := (2 : Int32)) dL_law_550 (by decide) ?_
                        refine e_iadd dL_law_551 ?_
                        replace H := og H; obtain ⟨g1223, H⟩ := H
                        refine e_sca (ixb_y hLL.symm g1223) dL_law_552 ?_
                        refine e_ci (y := scr (x3 + (2 : Int32)).toNatClampNeg) (by rw [hscr]) ?_
                        refine g_aload_n dL_law_553 rfl rfl ?_
                        refine e_iload_n dL_law_554 rfl ?_
                        refine e_iconst (v := (3 : Int32)) dL_law_555 (by decide) ?_
                        refine e_iadd dL_law_556 ?_
                        replace H := og H; obtain ⟨g1224, H⟩ := H
                        refine e_sca (ixb_y hLL.symm g1224) dL_law_557 ?_
                        refine e_ci (y := scr (x3 + (3 : Int32)).toNatClampNeg) (by rw [hscr]) ?_
                        refine g_aload_n dL_law_558 rfl rfl ?_
                        refine e_iload_n dL_law_559 rfl ?_
                        refine e_iconst (v := (4 : Int32)) dL_law_560 (by decide) ?_
                        refine e_iadd dL_law_561 ?_
                        replace H := og H; obtain ⟨g1225, H⟩ := H
                        refine e_sca (ixb_y hLL.symm g1225) dL_law_562 ?_
                        refine e_ci (y := scr (x3 + (4 : Int32)).toNatClampNeg) (by rw [hscr]) ?_
                        replace H := og H; obtain ⟨g1226, H⟩ := H
                        subst g1226
                        replace H := og H; obtain ⟨g1227, H⟩ := H
                        have hY1228 : LY TX h := g1227
                        replace H := ob H; obtain ⟨q1229, c1230, H⟩ := H
                        refine v1 (hY1228.t 0 rfl) (by decide) rfl rfl lmL_50 liX11_shown lvX11_X11_shown msX11_shown dL_law_563 (t_X11_shown (d + 61) hY1228 c1230) rfl (Nat.le_of_ble_eq_true rfl) (Nat.le_refl _) ?_
                        have e1231 := p_X11_shown c1230
                        have hY1232 := hY1228.pr okX e1231
                        refine g_aload_n dL_law_566 rfl rfl ?_
                        refine g_aload_n dL_law_567 rfl rfl ?_
                        refine e_iload_n dL_law_568 rfl ?_
                        refine e_iconst (v := (1 : Int32)) dL_law_569 (by decide) ?_
                        refine e_iadd dL_law_570 ?_
                        replace H := og H; obtain ⟨g1233, H⟩ := H
                        refine e_sca (ixb_y hLL.symm g1233) dL_law_571 ?_
                        refine e_ci (y := scr (x3 + (1 : Int32)).toNatClampNeg) (by rw [hscr]) ?_
                        refine g_aload_n dL_law_572 rfl rfl ?_
                        refine e_iload_n dL_law_573 rfl ?_
                        refine e_iconst (v := (2 : Int32)) dL_law_574 (by decide) ?_
                        refine e_iadd dL_law_575 ?_
                        replace H := og H; obtain ⟨g1234, H⟩ := H
                        refine e_sca (ixb_y hLL.symm g1234) dL_law_576 ?_
                        refine e_ci (y := scr (x3 + (2 : Int32)).toNatClampNeg) (by rw [hscr]) ?_
                        refine g_aload_n dL_law_577 rfl rfl ?_
                        refine e_iload_n dL_law_578 rfl ?_
                        refine e_iconst (v := (3 : Int32)) dL_law_579 (by decide) ?_
                        refine e_iadd dL_law_580 ?_
                        replace H := og H; obtain ⟨g1235, H⟩ := H
                        refine e_sca (ixb_y hLL.symm g1235) dL_law_581 ?_
                        refine e_ci (y := scr (x3 + (3 : Int32)).toNatClampNeg) (by rw [hscr]) ?_
                        refine g_aload_n dL_law_582 rfl rfl ?_
                        refine e_iload_n dL_law_583 rfl ?_
                        refine e_iconst (v := (4 : Int32)) dL_law_584 (by decide) ?_
                        refine e_iadd dL_law_585 ?_
                        replace H := og H; obtain ⟨g1236, H⟩ := H
                        refine e_sca (ixb_y hLL.symm g1236) dL_law_586 ?_
                        refine e_ci (y := scr (x3 + (4 : Int32)).toNatClampNeg) (by rw [hscr]) ?_
                        replace H := og H; obtain ⟨g1237, H⟩ := H
                        subst g1237
                        replace H := og H; obtain ⟨g1238, H⟩ := H
                        have hY1239 : LY TM q1229.2 := g1238
                        replace H := ob H; obtain ⟨q1240, c1241, H⟩ := H
                        refine v1 (hY1239.t 0 rfl) (by decide) rfl rfl lmL_53 liX12_shown lvX12_X12_shown msX12_shown dL_law_587 (t_X12_shown (d + 64) hY1239 c1241) rfl (Nat.le_of_ble_eq_true rfl) (Nat.le_refl _) ?_
                        have e1242 := p_X12_shown c1241
                        have hY1243 := hY1232.pr okX e1242
                        have hY1244 := hY1239.pr okM e1242
                        refine e_icmp_eq (tgt := 1549) dL_law_590 (by decide) (fun c1245 => ?_) (fun c1245 => ?_)
                        · replace H := ot c1245 H
                          refine e_iinc dL_law_1549 rfl (ii_ (by decide : Int32.ofInt (6) = (6 : Int32))) (Nat.le_of_ble_eq_true rfl) rfl rfl ?_
                          refine e_goto (tgt := 18) dL_law_1552 (by decide) ?_
                          exact e_wk (lk1 (lk1 (lk1 (lk1 lkn)))) (ih H kR kE)
                        · replace H := of_ c1245 H
                          refine e_iconst (v := (0 : Int32)) dL_law_593 (by decide) ?_
                          obtain rfl := Option.some.inj H
                          obtain ⟨eR, eH⟩ := kR _ rfl
                          exact z_iret rfl rfl dL_law_594 eR eH
                      · replace H := of_ k730 H
                        by_cases k731 : ((scr x3.toNatClampNeg) &&& (31 : Int32)) = (9 : Int32)
                        · replace H := ot k731 H
                          refine e_tableIn (off := 562) (tgt := 595) dL_law_33 (by rw [k731]; decide) (by rw [k731]; decide) (by rw [k731]; rfl) (by decide) ?_
                          refine g_aload_n dL_law_595 rfl rfl ?_
                          refine g_aload_n dL_law_596 rfl rfl ?_
                          refine e_iload_n dL_law_597 rfl ?_
                          refine e_iconst (v := (1 : Int32)) dL_law_598 (by decide) ?_
                          refine e_iadd dL_law_599 ?_
                          replace H := og H; obtain ⟨g1207, H⟩ := H
                          refine e_sca (ixb_y hLL.symm g1207) dL_law_600 ?_
                          refine e_ci (y := scr (x3 + (1 : Int32)).toNatClampNeg) (by rw [hscr]) ?_
                          refine g_aload_n dL_law_601 rfl rfl ?_
                          refine e_iload_n dL_law_602 rfl ?_
                          refine e_iconst (v := (2 : Int32)) dL_law_603 (by decide) ?_
                          refine e_iadd dL_law_604 ?_
                          replace H := og H; obtain ⟨g1208, H⟩ := H
                          refine e_sca (ixb_y hLL.symm g1208) dL_law_605 ?_
                          refine e_ci (y := scr (x3 + (2 : Int32)).toNatClampNeg) (by rw [hscr]) ?_
                          replace H := og H; obtain ⟨g1209, H⟩ := H
                          subst g1209
                          replace H := og H; obtain ⟨g1210, H⟩ := H
                          have hY1211 : LY TX h := g1210
                          replace H := ob H; obtain ⟨q1212, c1213, H⟩ := H
                          refine v1 (hY1211.t 0 rfl) (by decide) rfl rfl lmL_54 liX11_tryTold lvX11_X11_tryTold msX11_tryTold dL_law_606 (t_X11_tryTold (d + 64) hY1211 c1213) rfl (Nat.le_of_ble_eq_true rfl) (Nat.le_refl _) ?_
                          refine g_aload_n dL_law_609 rfl rfl ?_
                          refine g_aload_n dL_law_610 rfl rfl ?_
                          refine e_iload_n dL_law_611 rfl ?_
                          refine e_iconst (v := (1 : Int32)) dL_law_612 (by decide) ?_
                          refine e_iadd dL_law_613 ?_
                          replace H := og H; obtain ⟨g1214, H⟩ := H
                          refine e_sca (ixb_y hLL.symm g1214) dL_law_614 ?_
                          refine e_ci (y := scr (x3 + (1 : Int32)).toNatClampNeg) (by rw [hscr]) ?_
                          refine g_aload_n dL_law_615 rfl rfl ?_
                          refine e_iload_n dL_law_616 rfl ?_
                          refine e_iconst (v := (2 : Int32)) dL_law_617 (by decide) ?_
                          refine e_iadd dL_law_618 ?_
                          replace H := og H; obtain ⟨g1215, H⟩ := H
                          refine e_sca (ixb_y hLL.symm g1215) dL_law_619 ?_
                          refine e_ci (y := scr (x3 + (2 : Int32)).toNatClampNeg) (by rw [hscr]) ?_
                          replace H := og H; obtain ⟨g1216, H⟩ := H
                          subst g1216
                          replace H := og H; obtain ⟨g1217, H⟩ := H
                          have hY1218 : LY TM h := g1217
                          replace H := ob H; obtain ⟨q1219, c1220, H⟩ := H
                          refine v1 (hY1218.t 0 rfl) (by decide) rfl rfl lmL_57 liX12_tryTold lvX12_X12_tryTold msX12_tryTold dL_law_620 (t_X12_tryTold (d + 65) hY1218 c1220) rfl (Nat.le_of_ble_eq_true rfl) (Nat.le_refl _) ?_
                          refine e_icmp_eq (tgt := 1549) dL_law_623 (by decide) (fun c1221 => ?_) (fun c1221 => ?_)
                          · replace H := ot c1221 H
                            refine e_iinc dL_law_1549 rfl (ii_ (by decide : Int32.ofInt (6) = (6 : Int32))) (Nat.le_of_ble_eq_true rfl) rfl rfl ?_
                            refine e_goto (tgt := 18) dL_law_1552 (by decide) ?_
                            exact e_wk (lk1 (lk1 (lk1 (lk1 lkn)))) (ih H kR kE)
                          · replace H := of_ c1221 H
                            refine e_iconst (v := (0 : Int32)) dL_law_626 (by decide) ?_
                            obtain rfl := Option.some.inj H
                            obtain ⟨eR, eH⟩ := kR _ rfl
                            exact z_iret rfl rfl dL_law_627 eR eH
                        · replace H := of_ k731 H
                          by_cases k732 : ((scr x3.toNatClampNeg) &&& (31 : Int32)) = (10 : Int32)
                          · replace H := ot k732 H
                            refine e_tableIn (off := 595) (tgt := 628) dL_law_33 (by rw [k732]; decide) (by rw [k732]; decide) (by rw [k732]; rfl) (by decide) ?_
                            refine g_aload_n dL_law_628 rfl rfl ?_
                            refine g_aload_n dL_law_629 rfl rfl ?_
                            refine e_iload_n dL_law_630 rfl ?_
                            refine e_iconst (v := (1 : Int32)) dL_law_631 (by decide) ?_
                            refine e_iadd dL_law_632 ?_
                            replace H := og H; obtain ⟨g1188, H⟩ := H
                            refine e_sca (ixb_y hLL.symm g1188) dL_law_633 ?_
                            refine e_ci (y := scr (x3 + (1 : Int32)).toNatClampNeg) (by rw [hscr]) ?_
                            refine g_aload_n dL_law_634 rfl rfl ?_
                            refine e_iload_n dL_law_635 rfl ?_
                            refine e_iconst (v := (2 : Int32)) dL_law_636 (by decide) ?_
                            refine e_iadd dL_law_637 ?_
                            replace H := og H; obtain ⟨g1189, H⟩ := H
                            refine e_sca (ixb_y hLL.symm g1189) dL_law_638 ?_
                            refine e_ci (y := scr (x3 + (2 : Int32)).toNatClampNeg) (by rw [hscr]) ?_
                            refine g_aload_n dL_law_639 rfl rfl ?_
                            refine e_iload_n dL_law_640 rfl ?_
                            refine e_iconst (v := (3 : Int32)) dL_law_641 (by decide) ?_
                            refine e_iadd dL_law_642 ?_
                            replace H := og H; obtain ⟨g1190, H⟩ := H
                            refine e_sca (ixb_y hLL.symm g1190) dL_law_643 ?_
                            refine e_ci (y := scr (x3 + (3 : Int32)).toNatClampNeg) (by rw [hscr]) ?_
                            replace H := og H; obtain ⟨g1191, H⟩ := H
                            subst g1191
                            replace H := og H; obtain ⟨g1192, H⟩ := H
                            have hY1193 : LY TX h := g1192
                            replace H := ob H; obtain ⟨q1194, c1195, H⟩ := H
                            refine v1 (hY1193.t 0 rfl) (by decide) rfl rfl lmL_58 liX11_setAll lvX11_X11_setAll msX11_setAll dL_law_644 (t_X11_setAll (d + 61) hY1193 c1195) rfl (Nat.le_of_ble_eq_true rfl) (Nat.le_refl _) ?_
                            have e1196 := p_X11_setAll c1195
                            have hY1197 := hY1193.pr okX e1196
                            refine g_aload_n dL_law_647 rfl rfl ?_
                            refine g_aload_n dL_law_648 rfl rfl ?_
                            refine e_iload_n dL_law_649 rfl ?_
                            refine e_iconst (v := (1 : Int32)) dL_law_650 (by decide) ?_
                            refine e_iadd dL_law_651 ?_
                            replace H := og H; obtain ⟨g1198, H⟩ := H
                            refine e_sca (ixb_y hLL.symm g1198) dL_law_652 ?_
                            refine e_ci (y := scr (x3 + (1 : Int32)).toNatClampNeg) (by rw [hscr]) ?_
                            refine g_aload_n dL_law_653 rfl rfl ?_
                            refine e_iload_n dL_law_654 rfl ?_
                            refine e_iconst (v := (2 : Int32)) dL_law_655 (by decide) ?_
                            refine e_iadd dL_law_656 ?_
                            replace H := og H; obtain ⟨g1199, H⟩ := H
                            refine e_sca (ixb_y hLL.symm g1199) dL_law_657 ?_
                            refine e_ci (y := scr (x3 + (2 : Int32)).toNatClampNeg) (by rw [hscr]) ?_
                            refine g_aload_n dL_law_658 rfl rfl ?_
                            refine e_iload_n dL_law_659 rfl ?_
                            refine e_iconst (v := (3 : Int32)) dL_law_660 (by decide) ?_
                            refine e_iadd dL_law_661 ?_
                            replace H := og H; obtain ⟨g1200, H⟩ := H
                            refine e_sca (ixb_y hLL.symm g1200) dL_law_662 ?_
                            refine e_ci (y := scr (x3 + (3 : Int32)).toNatClampNeg) (by rw [hscr]) ?_
                            replace H := og H; obtain ⟨g1201, H⟩ := H
                            subst g1201
                            replace H := og H; obtain ⟨g1202, H⟩ := H
                            have hY1203 : LY TM q1194.2 := g1202
                            replace H := ob H; obtain ⟨q1204, c1205, H⟩ := H
                            refine v1 (hY1203.t 0 rfl) (by decide) rfl rfl lmL_61 liX12_setAll lvX12_X12_setAll msX12_setAll dL_law_663 (t_X12_setAll (d + 62) hY1203 c1205) rfl (Nat.le_of_ble_eq_true rfl) (Nat.le_refl _) ?_
                            refine e_lc_eq (tgt := 1549) dL_law_666 dL_law_667 (by decide) (fun c1206 => ?_) (fun c1206 => ?_)
                            · replace H := ot c1206 H
                              refine e_iinc dL_law_1549 rfl (ii_ (by decide : Int32.ofInt (6) = (6 : Int32))) (Nat.le_of_ble_eq_true rfl) rfl rfl ?_
                              refine e_goto (tgt := 18) dL_law_1552 (by decide) ?_
                              exact e_wk (lk1 (lk1 (lk1 (lk1 lkn)))) (ih H kR kE)
                            · replace H := of_ c1206 H
                              refine e_iconst (v := (0 : Int32)) dL_law_670 (by decide) ?_
                              obtain rfl := Option.some.inj H
                              obtain ⟨eR, eH⟩ := kR _ rfl
                              exact z_iret rfl rfl dL_law_671 eR eH
                          · replace H := of_ k732 H
                            by_cases k733 : ((scr x3.toNatClampNeg) &&& (31 : Int32)) = (11 : Int32)
                            · replace H := ot k733 H
                              refine e_tableIn (off := 639) (tgt := 672) dL_law_33 (by rw [k733]; decide) (by rw [k733]; decide) (by rw [k733]; rfl) (by decide) ?_
                              refine g_aload_n dL_law_672 rfl rfl ?_
                              refine g_aload_n dL_law_673 rfl rfl ?_
                              refine e_iload_n dL_law_674 rfl ?_
                              refine e_iconst (v := (1 : Int32)) dL_law_675 (by decide) ?_
                              refine e_iadd dL_law_676 ?_
                              replace H := og H; obtain ⟨g1165, H⟩ := H
                              refine e_sca (ixb_y hLL.symm g1165) dL_law_677 ?_
                              refine e_ci (y := scr (x3 + (1 : Int32)).toNatClampNeg) (by rw [hscr]) ?_
                              refine g_aload_n dL_law_678 rfl rfl ?_
                              refine e_iload_n dL_law_679 rfl ?_
                              refine e_iconst (v := (2 : Int32)) dL_law_680 (by decide) ?_
                              refine e_iadd dL_law_681 ?_
                              replace H := og H; obtain ⟨g1166, H⟩ := H
                              refine e_sca (ixb_y hLL.symm g1166) dL_law_682 ?_
                              refine e_ci (y := scr (x3 + (2 : Int32)).toNatClampNeg) (by rw [hscr]) ?_
                              refine g_aload_n dL_law_683 rfl rfl ?_
                              refine e_iload_n dL_law_684 rfl ?_
                              refine e_iconst (v := (3 : Int32)) dL_law_685 (by decide) ?_
                              refine e_iadd dL_law_686 ?_
                              replace H := og H; obtain ⟨g1167, H⟩ := H
                              refine e_sca (ixb_y hLL.symm g1167) dL_law_687 ?_
                              refine e_ci (y := scr (x3 + (3 : Int32)).toNatClampNeg) (by rw [hscr]) ?_
                              refine g_aload_n dL_law_688 rfl rfl ?_
                              refine e_iload_n dL_law_689 rfl ?_
                              refine e_iconst (v := (4 : Int32)) dL_law_690 (by decide) ?_
                              refine e_iadd dL_law_691 ?_
                              replace H := og H; obtain ⟨g1168, H⟩ := H
                              refine e_sca (ixb_y hLL.symm g1168) dL_law_692 ?_
                              refine e_ci (y := scr (x3 + (4 : Int32)).toNatClampNeg) (by rw [hscr]) ?_
                              refine g_aload_n dL_law_693 rfl rfl ?_
                              refine e_iload_n dL_law_694 rfl ?_
                              refine e_iconst (v := (5 : Int32)) dL_law_695 (by decide) ?_
                              refine e_iadd dL_law_696 ?_
                              replace H := og H; obtain ⟨g1169, H⟩ := H
                              refine e_sca (ixb_y hLL.symm g1169) dL_law_697 ?_
                              refine e_ci (y := scr (x3 + (5 : Int32)).toNatClampNeg) (by rw [hscr]) ?_
                              replace H := og H; obtain ⟨g1170, H⟩ := H
                              subst g1170
                              replace H := og H; obtain ⟨g1171, H⟩ := H
                              have hY1172 : LY TX h := g1171
                              replace H := ob H; obtain ⟨q1173, c1174, H⟩ := H
                              refine v1 (hY1172.t 0 rfl) (by decide) rfl rfl lmL_62 liX11_worth lvX11_X11_worth msX11_worth dL_law_698 (t_X11_worth (d + 61) hY1172 c1174) rfl (Nat.le_of_ble_eq_true rfl) (Nat.le_refl _) ?_
                              have e1175 := p_X11_worth c1174
                              have hY1176 := hY1172.pr okX e1175
                              refine g_aload_n dL_law_701 rfl rfl ?_
                              refine g_aload_n dL_law_702 rfl rfl ?_
                              refine e_iload_n dL_law_703 rfl ?_
                              refine e_iconst (v := (1 : Int32)) dL_law_704 (by decide) ?_
                              refine e_iadd dL_law_705 ?_
                              replace H := og H; obtain ⟨g1177, H⟩ := H
                              refine e_sca (ixb_y hLL.symm g1177) dL_law_706 ?_
                              refine e_ci (y := scr (x3 + (1 : Int32)).toNatClampNeg) (by rw [hscr]) ?_
                              refine g_aload_n dL_law_707 rfl rfl ?_
                              refine e_iload_n dL_law_708 rfl ?_
                              refine e_iconst (v := (2 : Int32)) dL_law_709 (by decide) ?_
                              refine e_iadd dL_law_710 ?_
                              replace H := og H; obtain ⟨g1178, H⟩ := H
                              refine e_sca (ixb_y hLL.symm g1178) dL_law_711 ?_
                              refine e_ci (y := scr (x3 + (2 : Int32)).toNatClampNeg) (by rw [hscr]) ?_
                              refine g_aload_n dL_law_712 rfl rfl ?_
                              refine e_iload_n dL_law_713 rfl ?_
                              refine e_iconst (v := (3 : Int32)) dL_law_714 (by decide) ?_
                              refine e_iadd dL_law_715 ?_
                              replace H := og H; obtain ⟨g1179, H⟩ := H
                              refine e_sca (ixb_y hLL.symm g1179) dL_law_716 ?_
                              refine e_ci (y := scr (x3 + (3 : Int32)).toNatClampNeg) (by rw [hscr]) ?_
                              refine g_aload_n dL_law_717 rfl rfl ?_
                              refine e_iload_n dL_law_718 rfl ?_
                              refine e_iconst (v := (4 : Int32)) dL_law_719 (by decide) ?_
                              refine e_iadd dL_law_720 ?_
                              replace H := og H; obtain ⟨g1180, H⟩ := H
                              refine e_sca (ixb_y hLL.symm g1180) dL_law_721 ?_
                              refine e_ci (y := scr (x3 + (4 : Int32)).toNatClampNeg) (by rw [hscr]) ?_
                              refine g_aload_n dL_law_722 rfl rfl ?_
                              refine e_iload_n dL_law_723 rfl ?_
                              refine e_iconst (v := (5 : Int32)) dL_law_724 (by decide) ?_
                              refine e_iadd dL_law_725 ?_
                              replace H := og H; obtain ⟨g1181, H⟩ := H
                              refine e_sca (ixb_y hLL.symm g1181) dL_law_726 ?_
                              refine e_ci (y := scr (x3 + (5 : Int32)).toNatClampNeg) (by rw [hscr]) ?_
                              replace H := og H; obtain ⟨g1182, H⟩ := H
                              subst g1182
                              replace H := og H; obtain ⟨g1183, H⟩ := H
                              have hY1184 : LY TM q1173.2 := g1183
                              replace H := ob H; obtain ⟨q1185, c1186, H⟩ := H
                              refine v1 (hY1184.t 0 rfl) (by decide) rfl rfl lmL_66 liX12_worth lvX12_X12_worth msX12_worth dL_law_727 (t_X12_worth (d + 61) hY1184 c1186) rfl (Nat.le_of_ble_eq_true rfl) (Nat.le_refl _) ?_
                              refine e_lc_eq (tgt := 1549) dL_law_730 dL_law_731 (by decide) (fun c1187 => ?_) (fun c1187 => ?_)
                              · replace H := ot c1187 H
                                refine e_iinc dL_law_1549 rfl (ii_ (by decide : Int32.ofInt (6) = (6 : Int32))) (Nat.le_of_ble_eq_true rfl) rfl rfl ?_
                                refine e_goto (tgt := 18) dL_law_1552 (by decide) ?_
                                exact e_wk (lk1 (lk1 (lk1 (lk1 lkn)))) (ih H kR kE)
                              · replace H := of_ c1187 H
                                refine e_iconst (v := (0 : Int32)) dL_law_734 (by decide) ?_
                                obtain rfl := Option.some.inj H
                                obtain ⟨eR, eH⟩ := kR _ rfl
                                exact z_iret rfl rfl dL_law_735 eR eH
                            · replace H := of_ k733 H
                              by_cases k734 : ((scr x3.toNatClampNeg) &&& (31 : Int32)) = (12 : Int32)
                              · replace H := ot k734 H
                                refine e_tableIn (off := 703) (tgt := 736) dL_law_33 (by rw [k734]; decide) (by rw [k734]; decide) (by rw [k734]; rfl) (by decide) ?_
                                refine g_aload_n dL_law_736 rfl rfl ?_
                                refine g_aload_n dL_law_737 rfl rfl ?_
                                refine e_iload_n dL_law_738 rfl ?_
                                refine e_iconst (v := (1 : Int32)) dL_law_739 (by decide) ?_
                                refine e_iadd dL_law_740 ?_
                                replace H := og H; obtain ⟨g1145, H⟩ := H
                                refine e_sca (ixb_y hLL.symm g1145) dL_law_741 ?_
                                refine e_ci (y := scr (x3 + (1 : Int32)).toNatClampNeg) (by rw [hscr]) ?_
                                refine g_aload_n dL_law_742 rfl rfl ?_
                                refine e_iload_n dL_law_743 rfl ?_
                                refine e_iconst (v := (2 : Int32)) dL_law_744 (by decide) ?_
                                refine e_iadd dL_law_745 ?_
                                replace H := og H; obtain ⟨g1146, H⟩ := H
                                refine e_sca (ixb_y hLL.symm g1146) dL_law_746 ?_
                                refine e_ci (y := scr (x3 + (2 : Int32)).toNatClampNeg) (by rw [hscr]) ?_
                                replace H := og H; obtain ⟨g1147, H⟩ := H
                                subst g1147
                                replace H := og H; obtain ⟨g1148, H⟩ := H
                                have hY1149 : LY TX h := g1148
                                replace H := ob H; obtain ⟨q1150, c1151, H⟩ := H
                                refine v1 (hY1149.t 0 rfl) (by decide) rfl rfl lmL_67 liX11_leaves lvX11_X11_leaves msX11_leaves dL_law_747 (t_X11_leaves (d + 60) hY1149 c1151) rfl (Nat.le_of_ble_eq_true rfl) (Nat.le_refl _) ?_
                                have e1152 := p_X11_leaves c1151
                                have hY1153 := hY1149.pr okX e1152
                                refine g_aload_n dL_law_750 rfl rfl ?_
                                refine g_aload_n dL_law_751 rfl rfl ?_
                                refine e_iload_n dL_law_752 rfl ?_
                                refine e_iconst (v := (1 : Int32)) dL_law_753 (by decide) ?_
                                refine e_iadd dL_law_754 ?_
                                replace H := og H; obtain ⟨g1154, H⟩ := H
                                refine e_sca (ixb_y hLL.symm g1154) dL_law_755 ?_
                                refine e_ci (y := scr (x3 + (1 : Int32)).toNatClampNeg) (by rw [hscr]) ?_
                                refine g_aload_n dL_law_756 rfl rfl ?_
                                refine e_iload_n dL_law_757 rfl ?_
                                refine e_iconst (v := (2 : Int32)) dL_law_758 (by decide) ?_
                                refine e_iadd dL_law_759 ?_
                                replace H := og H; obtain ⟨g1155, H⟩ := H
                                refine e_sca (ixb_y hLL.symm g1155) dL_law_760 ?_
                                refine e_ci (y := scr (x3 + (2 : Int32)).toNatClampNeg) (by rw [hscr]) ?_
                                replace H := og H; obtain ⟨g1156, H⟩ := H
                                subst g1156
                                replace H := og H; obtain ⟨g1157, H⟩ := H
                                have hY1158 : LY TM q1150.2 := g1157
                                replace H := ob H; obtain ⟨q1159, c1160, H⟩ := H
                                refine v1 (hY1158.t 0 rfl) (by decide) rfl rfl lmL_71 liX12_leaves lvX12_X12_leaves msX12_leaves dL_law_761 (t_X12_leaves (d + 60) hY1158 c1160) rfl (Nat.le_of_ble_eq_true rfl) (Nat.le_refl _) ?_
                                have e1161 := p_X12_leaves c1160
                                have hY1162 := hY1153.pr okX e1161
                                have hY1163 := hY1158.pr okM e1161
                                refine e_lc_eq (tgt := 1549) dL_law_764 dL_law_765 (by decide) (fun c1164 => ?_) (fun c1164 => ?_)
                                · replace H := ot c1164 H
                                  refine e_iinc dL_law_1549 rfl (ii_ (by decide : Int32.ofInt (6) = (6 : Int32))) (Nat.le_of_ble_eq_true rfl) rfl rfl ?_
                                  refine e_goto (tgt := 18) dL_law_1552 (by decide) ?_
                                  exact e_wk (lk1 (lk1 (lk1 (lk1 lkn)))) (ih H kR kE)
                                · replace H := of_ c1164 H
                                  refine e_iconst (v := (0 : Int32)) dL_law_768 (by decide) ?_
                                  obtain rfl := Option.some.inj H
                                  obtain ⟨eR, eH⟩ := kR _ rfl
                                  exact z_iret rfl rfl dL_law_769 eR eH
                              · replace H := of_ k734 H
                                by_cases k735 : ((scr x3.toNatClampNeg) &&& (31 : Int32)) = (13 : Int32)
                                · replace H := ot k735 H
                                  refine e_tableIn (off := 737) (tgt := 770) dL_law_33 (by rw [k735]; decide) (by rw [k735]; decide) (by rw [k735]; rfl) (by decide) ?_
                                  refine g_aload_n dL_law_770 rfl rfl ?_
                                  refine g_aload_n dL_law_771 rfl rfl ?_
                                  refine e_iload_n dL_law_772 rfl ?_
                                  refine e_iconst (v := (1 : Int32)) dL_law_773 (by decide) ?_
                                  refine e_iadd dL_law_774 ?_
                                  replace H := og H; obtain ⟨g1123, H⟩ := H
                                  refine e_sca (ixb_y hLL.symm g1123) dL_law_775 ?_
                                  refine e_ci (y := scr (x3 + (1 : Int32)).toNatClampNeg) (by rw [hscr]) ?_
                                  refine g_aload_n dL_law_776 rfl rfl ?_
                                  refine e_iload_n dL_law_777 rfl ?_
                                  refine e_iconst (v := (2 : Int32)) dL_law_778 (by decide) ?_
                                  refine e_iadd dL_law_779 ?_
                                  replace H := og H; obtain ⟨g1124, H⟩ := H
                                  refine e_sca (ixb_y hLL.symm g1124) dL_law_780 ?_
                                  refine e_ci (y := scr (x3 + (2 : Int32)).toNatClampNeg) (by rw [hscr]) ?_
                                  refine e_i2l dL_law_781 ?_
                                  refine e_bipush (v := (32 : Int32)) dL_law_782 (by decide) ?_
                                  refine e_lshl dL_law_784 ?_
                                  refine g_aload_n dL_law_785 rfl rfl ?_
                                  refine e_iload_n dL_law_786 rfl ?_
                                  refine e_iconst (v := (3 : Int32)) dL_law_787 (by decide) ?_
                                  refine e_iadd dL_law_788 ?_
                                  replace H := og H; obtain ⟨g1125, H⟩ := H
                                  refine e_sca (ixb_y hLL.symm g1125) dL_law_789 ?_
                                  refine e_ci (y := scr (x3 + (3 : Int32)).toNatClampNeg) (by rw [hscr]) ?_
                                  refine e_i2l dL_law_790 ?_
                                  refine e_ldc2 (v := (4294967295 : Int64)) lkL_72 dL_law_791 ?_
                                  refine e_land dL_law_794 ?_
                                  refine e_lor dL_law_795 ?_
                                  replace H := og H; obtain ⟨g1126, H⟩ := H
                                  subst g1126
                                  replace H := og H; obtain ⟨g1127, H⟩ := H
                                  have hY1128 : LY TX h := g1127
                                  replace H := ob H; obtain ⟨q1129, c1130, H⟩ := H
                                  refine v1 (hY1128.t 0 rfl) (by decide) rfl rfl lmL_74 liX11_feed lvX11_X11_feed msX11_feed dL_law_796 (t_X11_feed (d + 65) hY1128 c1130) rfl (Nat.le_of_ble_eq_true rfl) (Nat.le_refl _) ?_
                                  have e1131 := p_X11_feed c1130
                                  have hY1132 := hY1128.pr okX e1131
                                  refine g_aload_n dL_law_799 rfl rfl ?_
                                  refine g_aload_n dL_law_800 rfl rfl ?_
                                  refine e_iload_n dL_law_801 rfl ?_
                                  refine e_iconst (v := (1 : Int32)) dL_law_802 (by decide) ?_
                                  refine e_iadd dL_law_803 ?_
                                  replace H := og H; obtain ⟨g1133, H⟩ := H
                                  refine e_sca (ixb_y hLL.symm g1133) dL_law_804 ?_
                                  refine e_ci (y := scr (x3 + (1 : Int32)).toNatClampNeg) (by rw [hscr]) ?_
                                  refine g_aload_n dL_law_805 rfl rfl ?_
                                  refine e_iload_n dL_law_806 rfl ?_
                                  refine e_iconst (v := (2 : Int32)) dL_law_807 (by decide) ?_
                                  refine e_iadd dL_law_808 ?_
                                  replace H := og H; obtain ⟨g1134, H⟩ := H
                                  refine e_sca (ixb_y hLL.symm g1134) dL_law_809 ?_
                                  refine e_ci (y := scr (x3 + (2 : Int32)).toNatClampNeg) (by rw [hscr]) ?_
                                  refine e_i2l dL_law_810 ?_
                                  refine e_bipush (v := (32 : Int32)) dL_law_811 (by decide) ?_
                                  refine e_lshl dL_law_813 ?_
                                  refine g_aload_n dL_law_814 rfl rfl ?_
                                  refine e_iload_n dL_law_815 rfl ?_
                                  refine e_iconst (v := (3 : Int32)) dL_law_816 (by decide) ?_
                                  refine e_iadd dL_law_817 ?_
                                  replace H := og H; obtain ⟨g1135, H⟩ := H
                                  refine e_sca (ixb_y hLL.symm g1135) dL_law_818 ?_
                                  refine e_ci (y := scr (x3 + (3 : Int32)).toNatClampNeg) (by rw [hscr]) ?_
                                  refine e_i2l dL_law_819 ?_
                                  refine e_ldc2 (v := (4294967295 : Int64)) lkL_72 dL_law_820 ?_
                                  refine e_land dL_law_823 ?_
                                  refine e_lor dL_law_824 ?_
                                  replace H := og H; obtain ⟨g1136, H⟩ := H
                                  subst g1136
                                  replace H := og H; obtain ⟨g1137, H⟩ := H
                                  have hY1138 : LY TM q1129.2 := g1137
                                  replace H := ob H; obtain ⟨q1139, c1140, H⟩ := H
                                  refine v1 (hY1138.t 0 rfl) (by decide) rfl rfl lmL_78 liX12_feed lvX12_X12_feed msX12_feed dL_law_825 (t_X12_feed (d + 65) hY1138 c1140) rfl (Nat.le_of_ble_eq_true rfl) (Nat.le_refl _) ?_
                                  have e1141 := p_X12_feed c1140
                                  have hY1142 := hY1132.pr okX e1141
                                  have hY1143 := hY1138.pr okM e1141
                                  refine e_icmp_eq (tgt := 1549) dL_law_828 (by decide) (fun c1144 => ?_) (fun c1144 => ?_)
                                  · replace H := ot c1144 H
                                    refine e_iinc dL_law_1549 rfl (ii_ (by decide : Int32.ofInt (6) = (6 : Int32))) (Nat.le_of_ble_eq_true rfl) rfl rfl ?_
                                    refine e_goto (tgt := 18) dL_law_1552 (by decide) ?_
                                    exact e_wk (lk1 (lk1 (lk1 (lk1 lkn)))) (ih H kR kE)
                                  · replace H := of_ c1144 H
                                    refine e_iconst (v := (0 : Int32)) dL_law_831 (by decide) ?_
                                    obtain rfl := Option.some.inj H
                                    obtain ⟨eR, eH⟩ := kR _ rfl
                                    exact z_iret rfl rfl dL_law_832 eR eH
                                · replace H := of_ k735 H
                                  by_cases k736 : ((scr x3.toNatClampNeg) &&& (31 : Int32)) = (14 : Int32)
                                  · replace H := ot k736 H
                                    refine e_tableIn (off := 800) (tgt := 833) dL_law_33 (by rw [k736]; decide) (by rw [k736]; decide) (by rw [k736]; rfl) (by decide) ?_
                                    refine g_aload_n dL_law_833 rfl rfl ?_
                                    replace H := og H; obtain ⟨g1107, H⟩ := H
                                    subst g1107
                                    replace H := og H; obtain ⟨g1108, H⟩ := H
                                    have hY1109 : LY TX h := g1108
                                    replace H := ob H; obtain ⟨q1110, c1111, H⟩ := H
                                    refine v1 (hY1109.t 0 rfl) (by decide) rfl rfl lmL_79 liX11_text lvX11_X11_text msX11_text dL_law_834 (t_X11_text (d + 1) hY1109 c1111) rfl (Nat.le_of_ble_eq_true rfl) (Nat.le_refl _) ?_
                                    have e1112 := p_X11_text c1111
                                    have hY1113 := hY1109.pr okX e1112
                                    refine g_aload_n dL_law_837 rfl rfl ?_
                                    replace H := og H; obtain ⟨g1114, H⟩ := H
                                    subst g1114
                                    replace H := og H; obtain ⟨g1115, H⟩ := H
                                    have hY1116 : LY TM q1110.2 := g1115
                                    replace H := ob H; obtain ⟨q1117, c1118, H⟩ := H
                                    refine v1 (hY1116.t 0 rfl) (by decide) rfl rfl lmL_83 liX12_text lvX12_X12_text msX12_text dL_law_838 (t_X12_text (d + 1) hY1116 c1118) rfl (Nat.le_of_ble_eq_true rfl) (Nat.le_refl _) ?_
                                    have e1119 := p_X12_text c1118
                                    have hY1120 := hY1113.pr okX e1119
                                    have hY1121 := hY1116.pr okM e1119
                                    refine e_icmp_eq (tgt := 1549) dL_law_841 (by decide) (fun c1122 => ?_) (fun c1122 => ?_)
                                    · replace H := ot c1122 H
                                      refine e_iinc dL_law_1549 rfl (ii_ (by decide : Int32.ofInt (6) = (6 : Int32))) (Nat.le_of_ble_eq_true rfl) rfl rfl ?_
                                      refine e_goto (tgt := 18) dL_law_1552 (by decide) ?_
                                      exact e_wk (lk1 (lk1 (lk1 (lk1 lkn)))) (ih H kR kE)
                                    · replace H := of_ c1122 H
                                      refine e_iconst (v := (0 : Int32)) dL_law_844 (by decide) ?_
                                      obtain rfl := Option.some.inj H
                                      obtain ⟨eR, eH⟩ := kR _ rfl
                                      exact z_iret rfl rfl dL_law_845 eR eH
                                  · replace H := of_ k736 H
                                    by_cases k737 : ((scr x3.toNatClampNeg) &&& (31 : Int32)) = (15 : Int32)
                                    · replace H := ot k737 H
                                      refine e_tableIn (off := 813) (tgt := 846) dL_law_33 (by rw [k737]; decide) (by rw [k737]; decide) (by rw [k737]; rfl) (by decide) ?_
                                      refine g_aload_n dL_law_846 rfl rfl ?_
                                      refine g_aload_n dL_law_847 rfl rfl ?_
                                      refine e_iload_n dL_law_848 rfl ?_
                                      refine e_iconst (v := (1 : Int32)) dL_law_849 (by decide) ?_
                                      refine e_iadd dL_law_850 ?_
                                      replace H := og H; obtain ⟨g1089, H⟩ := H
                                      refine e_sca (ixb_y hLL.symm g1089) dL_law_851 ?_
                                      refine e_ci (y := scr (x3 + (1 : Int32)).toNatClampNeg) (by rw [hscr]) ?_
                                      replace H := og H; obtain ⟨g1090, H⟩ := H
                                      subst g1090
                                      replace H := og H; obtain ⟨g1091, H⟩ := H
                                      have hY1092 : LY TX h := g1091
                                      replace H := ob H; obtain ⟨q1093, c1094, H⟩ := H
                                      refine v1 (hY1092.t 0 rfl) (by decide) rfl rfl lmL_84 liX11_force lvX11_X11_force msX11_force dL_law_852 (t_X11_force (d + 65) hY1092 c1094) rfl (Nat.le_of_ble_eq_true rfl) (Nat.le_refl _) ?_
                                      have e1095 := p_X11_force c1094
                                      have hY1096 := hY1092.pr okX e1095
                                      refine g_aload_n dL_law_855 rfl rfl ?_
                                      refine g_aload_n dL_law_856 rfl rfl ?_
                                      refine e_iload_n dL_law_857 rfl ?_
                                      refine e_iconst (v := (1 : Int32)) dL_law_858 (by decide) ?_
                                      refine e_iadd dL_law_859 ?_
                                      replace H := og H; obtain ⟨g1097, H⟩ := H
                                      refine e_sca (ixb_y hLL.symm g1097) dL_law_860 ?_
                                      refine e_ci (y := scr (x3 + (1 : Int32)).toNatClampNeg) (by rw [hscr]) ?_
                                      replace H := og H; obtain ⟨g1098, H⟩ := H
                                      subst g1098
                                      replace H := og H; obtain ⟨g1099, H⟩ := H
                                      have hY1100 : LY TM q1093.2 := g1099
                                      replace H := ob H; obtain ⟨q1101, c1102, H⟩ := H
                                      refine v1 (hY1100.t 0 rfl) (by decide) rfl rfl lmL_88 liX12_force lvX12_X12_force msX12_force dL_law_861 (t_X12_force (d + 65) hY1100 c1102) rfl (Nat.le_of_ble_eq_true rfl) (Nat.le_refl _) ?_
                                      have e1103 := p_X12_force c1102
                                      have hY1104 := hY1096.pr okX e1103
                                      have hY1105 := hY1100.pr okM e1103
                                      refine e_icmp_eq (tgt := 1549) dL_law_864 (by decide) (fun c1106 => ?_) (fun c1106 => ?_)
                                      · replace H := ot c1106 H
                                        refine e_iinc dL_law_1549 rfl (ii_ (by decide : Int32.ofInt (6) = (6 : Int32))) (Nat.le_of_ble_eq_true rfl) rfl rfl ?_
                                        refine e_goto (tgt := 18) dL_law_1552 (by decide) ?_
                                        exact e_wk (lk1 (lk1 (lk1 (lk1 lkn)))) (ih H kR kE)
                                      · replace H := of_ c1106 H
                                        refine e_iconst (v := (0 : Int32)) dL_law_867 (by decide) ?_
                                        obtain rfl := Option.some.inj H
                                        obtain ⟨eR, eH⟩ := kR _ rfl
                                        exact z_iret rfl rfl dL_law_868 eR eH
                                    · replace H := of_ k737 H
                                      by_cases k738 : ((scr x3.toNatClampNeg) &&& (31 : Int32)) = (16 : Int32)
                                      · replace H := ot k738 H
                                        refine e_tableIn (off := 836) (tgt := 869) dL_law_33 (by rw [k738]; decide) (by rw [k738]; decide) (by rw [k738]; rfl) (by decide) ?_
                                        refine g_aload_n dL_law_869 rfl rfl ?_
                                        refine g_aload_n dL_law_870 rfl rfl ?_
                                        refine e_iload_n dL_law_871 rfl ?_
                                        refine e_iconst (v := (1 : Int32)) dL_law_872 (by decide) ?_
                                        refine e_iadd dL_law_873 ?_
                                        replace H := og H; obtain ⟨g1063, H⟩ := H
                                        refine e_sca (ixb_y hLL.symm g1063) dL_law_874 ?_
                                        refine e_ci (y := scr (x3 + (1 : Int32)).toNatClampNeg) (by rw [hscr]) ?_
                                        refine g_aload_n dL_law_875 rfl rfl ?_
                                        refine e_iload_n dL_law_876 rfl ?_
                                        refine e_iconst (v := (2 : Int32)) dL_law_877 (by decide) ?_
                                        refine e_iadd dL_law_878 ?_
                                        replace H := og H; obtain ⟨g1064, H⟩ := H
                                        refine e_sca (ixb_y hLL.symm g1064) dL_law_879 ?_
                                        refine e_ci (y := scr (x3 + (2 : Int32)).toNatClampNeg) (by rw [hscr]) ?_
                                        refine g_aload_n dL_law_880 rfl rfl ?_
                                        refine e_iload_n dL_law_881 rfl ?_
                                        refine e_iconst (v := (3 : Int32)) dL_law_882 (by decide) ?_
                                        refine e_iadd dL_law_883 ?_
                                        replace H := og H; obtain ⟨g1065, H⟩ := H
                                        refine e_sca (ixb_y hLL.symm g1065) dL_law_884 ?_
                                        refine e_ci (y := scr (x3 + (3 : Int32)).toNatClampNeg) (by rw [hscr]) ?_
                                        refine g_aload_n dL_law_885 rfl rfl ?_
                                        refine e_iload_n dL_law_886 rfl ?_
                                        refine e_iconst (v := (4 : Int32)) dL_law_887 (by decide) ?_
                                        refine e_iadd dL_law_888 ?_
                                        replace H := og H; obtain ⟨g1066, H⟩ := H
                                        refine e_sca (ixb_y hLL.symm g1066) dL_law_889 ?_
                                        refine e_ci (y := scr (x3 + (4 : Int32)).toNatClampNeg) (by rw [hscr]) ?_
                                        refine g_aload_n dL_law_890 rfl rfl ?_
                                        refine e_iload_n dL_law_891 rfl ?_
                                        refine e_iconst (v := (5 : Int32)) dL_law_892 (by decide) ?_
                                        refine e_iadd dL_law_893 ?_
                                        replace H := og H; obtain ⟨g1067, H⟩ := H
                                        refine e_sca (ixb_y hLL.symm g1067) dL_law_894 ?_
                                        refine e_ci (y := scr (x3 + (5 : Int32)).toNatClampNeg) (by rw [hscr]) ?_
                                        replace H := og H; obtain ⟨g1068, H⟩ := H
                                        subst g1068
                                        replace H := og H; obtain ⟨g1069, H⟩ := H
                                        have hY1070 : LY TX h := g1069
                                        replace H := ob H; obtain ⟨q1071, c1072, H⟩ := H
                                        refine v1 (hY1070.t 0 rfl) (by decide) rfl rfl lmL_89 liX11_says lvX11_X11_says msX11_says dL_law_895 (t_X11_says (d + 60) hY1070 c1072) rfl (Nat.le_of_ble_eq_true rfl) (Nat.le_refl _) ?_
                                        have e1073 := p_X11_says c1072
                                        have hY1074 := hY1070.pr okX e1073
                                        refine g_aload_n dL_law_898 rfl rfl ?_
                                        refine g_aload_n dL_law_899 rfl rfl ?_
                                        refine e_iload_n dL_law_900 rfl ?_
                                        refine e_iconst (v := (1 : Int32)) dL_law_901 (by decide) ?_
                                        refine e_iadd dL_law_902 ?_
                                        replace H := og H; obtain ⟨g1075, H⟩ := H
                                        refine e_sca (ixb_y hLL.symm g1075) dL_law_903 ?_
                                        refine e_ci (y := scr (x3 + (1 : Int32)).toNatClampNeg) (by rw [hscr]) ?_
                                        refine g_aload_n dL_law_904 rfl rfl ?_
                                        refine e_iload_n dL_law_905 rfl ?_
                                        refine e_iconst (v := (2 : Int32)) dL_law_906 (by decide) ?_
                                        refine e_iadd dL_law_907 ?_
                                        replace H := og H; obtain ⟨g1076, H⟩ := H
                                        refine e_sca (ixb_y hLL.symm g1076) dL_law_908 ?_
                                        refine e_ci (y := scr (x3 + (2 : Int32)).toNatClampNeg) (by rw [hscr]) ?_
                                        refine g_aload_n dL_law_909 rfl rfl ?_
                                        refine e_iload_n dL_law_910 rfl ?_
                                        refine e_iconst (v := (3 : Int32)) dL_law_911 (by decide) ?_
                                        refine e_iadd dL_law_912 ?_
                                        replace H := og H; obtain ⟨g1077, H⟩ := H
                                        refine e_sca (ixb_y hLL.symm g1077) dL_law_913 ?_
                                        refine e_ci (y := scr (x3 + (3 : Int32)).toNatClampNeg) (by rw [hscr]) ?_
                                        refine g_aload_n dL_law_914 rfl rfl ?_
                                        refine e_iload_n dL_law_915 rfl ?_
                                        refine e_iconst (v := (4 : Int32)) dL_law_916 (by decide) ?_
                                        refine e_iadd dL_law_917 ?_
                                        replace H := og H; obtain ⟨g1078, H⟩ := H
                                        refine e_sca (ixb_y hLL.symm g1078) dL_law_918 ?_
                                        refine e_ci (y := scr (x3 + (4 : Int32)).toNatClampNeg) (by rw [hscr]) ?_
                                        refine g_aload_n dL_law_919 rfl rfl ?_
                                        refine e_iload_n dL_law_920 rfl ?_
                                        refine e_iconst (v := (5 : Int32)) dL_law_921 (by decide) ?_
                                        refine e_iadd dL_law_922 ?_
                                        replace H := og H; obtain ⟨g1079, H⟩ := H
                                        refine e_sca (ixb_y hLL.symm g1079) dL_law_923 ?_
                                        refine e_ci (y := scr (x3 + (5 : Int32)).toNatClampNeg) (by rw [hscr]) ?_
                                        replace H := og H; obtain ⟨g1080, H⟩ := H
                                        subst g1080
                                        replace H := og H; obtain ⟨g1081, H⟩ := H
                                        have hY1082 : LY TM q1071.2 := g1081
                                        replace H := ob H; obtain ⟨q1083, c1084, H⟩ := H
                                        refine v1 (hY1082.t 0 rfl) (by decide) rfl rfl lmL_92 liX12_says lvX12_X12_says msX12_says dL_law_924 (t_X12_says (d + 1) hY1082 c1084) rfl (Nat.le_of_ble_eq_true rfl) (Nat.le_refl _) ?_
                                        have e1085 := p_X12_says c1084
                                        have hY1086 := hY1074.pr okX e1085
                                        have hY1087 := hY1082.pr okM e1085
                                        refine e_lc_eq (tgt := 1549) dL_law_927 dL_law_928 (by decide) (fun c1088 => ?_) (fun c1088 => ?_)
                                        · replace H := ot c1088 H
                                          refine e_iinc dL_law_1549 rfl (ii_ (by decide : Int32.ofInt (6) = (6 : Int32))) (Nat.le_of_ble_eq_true rfl) rfl rfl ?_
                                          refine e_goto (tgt := 18) dL_law_1552 (by decide) ?_
                                          exact e_wk (lk1 (lk1 (lk1 (lk1 lkn)))) (ih H kR kE)
                                        · replace H := of_ c1088 H
                                          refine e_iconst (v := (0 : Int32)) dL_law_931 (by decide) ?_
                                          obtain rfl := Option.some.inj H
                                          obtain ⟨eR, eH⟩ := kR _ rfl
                                          exact z_iret rfl rfl dL_law_932 eR eH
                                      · replace H := of_ k738 H
                                        by_cases k739 : ((scr x3.toNatClampNeg) &&& (31 : Int32)) = (17 : Int32)
                                        · replace H := ot k739 H
                                          refine e_tableIn (off := 900) (tgt := 933) dL_law_33 (by rw [k739]; decide) (by rw [k739]; decide) (by rw [k739]; rfl) (by decide) ?_
                                          refine g_aload_n dL_law_933 rfl rfl ?_
                                          refine g_aload_n dL_law_934 rfl rfl ?_
                                          refine e_iload_n dL_law_935 rfl ?_
                                          refine e_iconst (v := (1 : Int32)) dL_law_936 (by decide) ?_
                                          refine e_iadd dL_law_937 ?_
                                          replace H := og H; obtain ⟨g1037, H⟩ := H
                                          refine e_sca (ixb_y hLL.symm g1037) dL_law_938 ?_
                                          refine e_ci (y := scr (x3 + (1 : Int32)).toNatClampNeg) (by rw [hscr]) ?_
                                          refine g_aload_n dL_law_939 rfl rfl ?_
                                          refine e_iload_n dL_law_940 rfl ?_
                                          refine e_iconst (v := (2 : Int32)) dL_law_941 (by decide) ?_
                                          refine e_iadd dL_law_942 ?_
                                          replace H := og H; obtain ⟨g1038, H⟩ := H
                                          refine e_sca (ixb_y hLL.symm g1038) dL_law_943 ?_
                                          refine e_ci (y := scr (x3 + (2 : Int32)).toNatClampNeg) (by rw [hscr]) ?_
                                          refine g_aload_n dL_law_944 rfl rfl ?_
                                          refine e_iload_n dL_law_945 rfl ?_
                                          refine e_iconst (v := (3 : Int32)) dL_law_946 (by decide) ?_
                                          refine e_iadd dL_law_947 ?_
                                          replace H := og H; obtain ⟨g1039, H⟩ := H
                                          refine e_sca (ixb_y hLL.symm g1039) dL_law_948 ?_
                                          refine e_ci (y := scr (x3 + (3 : Int32)).toNatClampNeg) (by rw [hscr]) ?_
                                          refine g_aload_n dL_law_949 rfl rfl ?_
                                          refine e_iload_n dL_law_950 rfl ?_
                                          refine e_iconst (v := (4 : Int32)) dL_law_951 (by decide) ?_
                                          refine e_iadd dL_law_952 ?_
                                          replace H := og H; obtain ⟨g1040, H⟩ := H
                                          refine e_sca (ixb_y hLL.symm g1040) dL_law_953 ?_
                                          refine e_ci (y := scr (x3 + (4 : Int32)).toNatClampNeg) (by rw [hscr]) ?_
                                          refine g_aload_n dL_law_954 rfl rfl ?_
                                          refine e_iload_n dL_law_955 rfl ?_
                                          refine e_iconst (v := (5 : Int32)) dL_law_956 (by decide) ?_
                                          refine e_iadd dL_law_957 ?_
                                          replace H := og H; obtain ⟨g1041, H⟩ := H
                                          refine e_sca (ixb_y hLL.symm g1041) dL_law_958 ?_
                                          refine e_ci (y := scr (x3 + (5 : Int32)).toNatClampNeg) (by rw [hscr]) ?_
                                          replace H := og H; obtain ⟨g1042, H⟩ := H
                                          subst g1042
                                          replace H := og H; obtain ⟨g1043, H⟩ := H
                                          have hY1044 : LY TX h := g1043
                                          replace H := ob H; obtain ⟨q1045, c1046, H⟩ := H
                                          refine v1 (hY1044.t 0 rfl) (by decide) rfl rfl lmL_93 liX11_player lvX11_X11_player msX11_player dL_law_959 (t_X11_player (d + 59) hY1044 c1046) rfl (Nat.le_of_ble_eq_true rfl) (Nat.le_refl _) ?_
                                          have e1047 := p_X11_player c1046
                                          have hY1048 := hY1044.pr okX e1047
                                          refine g_aload_n dL_law_962 rfl rfl ?_
                                          refine g_aload_n dL_law_963 rfl rfl ?_
                                          refine e_iload_n dL_law_964 rfl ?_
                                          refine e_iconst (v := (1 : Int32)) dL_law_965 (by decide) ?_
                                          refine e_iadd dL_law_966 ?_
                                          replace H := og H; obtain ⟨g1049, H⟩ := H
                                          refine e_sca (ixb_y hLL.symm g1049) dL_law_967 ?_
                                          refine e_ci (y := scr (x3 + (1 : Int32)).toNatClampNeg) (by rw [hscr]) ?_
                                          refine g_aload_n dL_law_968 rfl rfl ?_
                                          refine e_iload_n dL_law_969 rfl ?_
                                          refine e_iconst (v := (2 : Int32)) dL_law_970 (by decide) ?_
                                          refine e_iadd dL_law_971 ?_
                                          replace H := og H; obtain ⟨g1050, H⟩ := H
                                          refine e_sca (ixb_y hLL.symm g1050) dL_law_972 ?_
                                          refine e_ci (y := scr (x3 + (2 : Int32)).toNatClampNeg) (by rw [hscr]) ?_
                                          refine g_aload_n dL_law_973 rfl rfl ?_
                                          refine e_iload_n dL_law_974 rfl ?_
                                          refine e_iconst (v := (3 : Int32)) dL_law_975 (by decide) ?_
                                          refine e_iadd dL_law_976 ?_
                                          replace H := og H; obtain ⟨g1051, H⟩ := H
                                          refine e_sca (ixb_y hLL.symm g1051) dL_law_977 ?_
                                          refine e_ci (y := scr (x3 + (3 : Int32)).toNatClampNeg) (by rw [hscr]) ?_
                                          refine g_aload_n dL_law_978 rfl rfl ?_
                                          refine e_iload_n dL_law_979 rfl ?_
                                          refine e_iconst (v := (4 : Int32)) dL_law_980 (by decide) ?_
                                          refine e_iadd dL_law_981 ?_
                                          replace H := og H; obtain ⟨g1052, H⟩ := H
                                          refine e_sca (ixb_y hLL.symm g1052) dL_law_982 ?_
                                          refine e_ci (y := scr (x3 + (4 : Int32)).toNatClampNeg) (by rw [hscr]) ?_
                                          refine g_aload_n dL_law_983 rfl rfl ?_
                                          refine e_iload_n dL_law_984 rfl ?_
                                          refine e_iconst (v := (5 : Int32)) dL_law_985 (by decide) ?_
                                          refine e_iadd dL_law_986 ?_
                                          replace H := og H; obtain ⟨g1053, H⟩ := H
                                          refine e_sca (ixb_y hLL.symm g1053) dL_law_987 ?_
                                          refine e_ci (y := scr (x3 + (5 : Int32)).toNatClampNeg) (by rw [hscr]) ?_
                                          replace H := og H; obtain ⟨g1054, H⟩ := H
                                          subst g1054
                                          replace H := og H; obtain ⟨g1055, H⟩ := H
                                          have hY1056 : LY TM q1045.2 := g1055
                                          replace H := ob H; obtain ⟨q1057, c1058, H⟩ := H
                                          refine v1 (hY1056.t 0 rfl) (by decide) rfl rfl lmL_96 liX12_player lvX12_X12_player msX12_player dL_law_988 (t_X12_player (d + 0) hY1056 c1058) rfl (Nat.le_of_ble_eq_true rfl) (Nat.le_refl _) ?_
                                          have e1059 := p_X12_player c1058
                                          have hY1060 := hY1048.pr okX e1059
                                          have hY1061 := hY1056.pr okM e1059
                                          refine e_lc_eq (tgt := 1549) dL_law_991 dL_law_992 (by decide) (fun c1062 => ?_) (fun c1062 => ?_)
                                          · replace H := ot c1062 H
                                            refine e_iinc dL_law_1549 rfl (ii_ (by decide : Int32.ofInt (6) = (6 : Int32))) (Nat.le_of_ble_eq_true rfl) rfl rfl ?_
                                            refine e_goto (tgt := 18) dL_law_1552 (by decide) ?_
                                            exact e_wk (lk1 (lk1 (lk1 (lk1 lkn)))) (ih H kR kE)
                                          · replace H := of_ c1062 H
                                            refine e_iconst (v := (0 : Int32)) dL_law_995 (by decide) ?_
                                            obtain rfl := Option.some.inj H
                                            obtain ⟨eR, eH⟩ := kR _ rfl
                                            exact z_iret rfl rfl dL_law_996 eR eH
                                        · replace H := of_ k739 H
                                          by_cases k740 : ((scr x3.toNatClampNeg) &&& (31 : Int32)) = (18 : Int32)
                                          · replace H := ot k740 H
                                            refine e_tableIn (off := 964) (tgt := 997) dL_law_33 (by rw [k740]; decide) (by rw [k740]; decide) (by rw [k740]; rfl) (by decide) ?_
                                            refine g_aload_n dL_law_997 rfl rfl ?_
                                            refine g_aload_n dL_law_998 rfl rfl ?_
                                            refine e_iload_n dL_law_999 rfl ?_
                                            refine e_iconst (v := (1 : Int32)) dL_law_1000 (by decide) ?_
                                            refine e_iadd dL_law_1001 ?_
                                            replace H := og H; obtain ⟨g1011, H⟩ := H
                                            refine e_sca (ixb_y hLL.symm g1011) dL_law_1002 ?_
                                            refine e_ci (y := scr (x3 + (1 : Int32)).toNatClampNeg) (by rw [hscr]) ?_
                                            refine g_aload_n dL_law_1003 rfl rfl ?_
                                            refine e_iload_n dL_law_1004 rfl ?_
                                            refine e_iconst (v := (2 : Int32)) dL_law_1005 (by decide) ?_
                                            refine e_iadd dL_law_1006 ?_
                                            replace H := og H; obtain ⟨g1012, H⟩ := H
                                            refine e_sca (ixb_y hLL.symm g1012) dL_law_1007 ?_
                                            refine e_ci (y := scr (x3 + (2 : Int32)).toNatClampNeg) (by rw [hscr]) ?_
                                            refine g_aload_n dL_law_1008 rfl rfl ?_
                                            refine e_iload_n dL_law_1009 rfl ?_
                                            refine e_iconst (v := (3 : Int32)) dL_law_1010 (by decide) ?_
                                            refine e_iadd dL_law_1011 ?_
                                            replace H := og H; obtain ⟨g1013, H⟩ := H
                                            refine e_sca (ixb_y hLL.symm g1013) dL_law_1012 ?_
                                            refine e_ci (y := scr (x3 + (3 : Int32)).toNatClampNeg) (by rw [hscr]) ?_
                                            refine g_aload_n dL_law_1013 rfl rfl ?_
                                            refine e_iload_n dL_law_1014 rfl ?_
                                            refine e_iconst (v := (4 : Int32)) dL_law_1015 (by decide) ?_
                                            refine e_iadd dL_law_1016 ?_
                                            replace H := og H; obtain ⟨g1014, H⟩ := H
                                            refine e_sca (ixb_y hLL.symm g1014) dL_law_1017 ?_
                                            refine e_ci (y := scr (x3 + (4 : Int32)).toNatClampNeg) (by rw [hscr]) ?_
                                            refine g_aload_n dL_law_1018 rfl rfl ?_
                                            refine e_iload_n dL_law_1019 rfl ?_
                                            refine e_iconst (v := (5 : Int32)) dL_law_1020 (by decide) ?_
                                            refine e_iadd dL_law_1021 ?_
                                            replace H := og H; obtain ⟨g1015, H⟩ := H
                                            refine e_sca (ixb_y hLL.symm g1015) dL_law_1022 ?_
                                            refine e_ci (y := scr (x3 + (5 : Int32)).toNatClampNeg) (by rw [hscr]) ?_
                                            replace H := og H; obtain ⟨g1016, H⟩ := H
                                            subst g1016
                                            replace H := og H; obtain ⟨g1017, H⟩ := H
                                            have hY1018 : LY TX h := g1017
                                            replace H := ob H; obtain ⟨q1019, c1020, H⟩ := H
                                            refine v1 (hY1018.t 0 rfl) (by decide) rfl rfl lmL_97 liX11_most lvX11_X11_most msX11_most dL_law_1023 (t_X11_most (d + 59) hY1018 c1020) rfl (Nat.le_of_ble_eq_true rfl) (Nat.le_refl _) ?_
                                            have e1021 := p_X11_most c1020
                                            have hY1022 := hY1018.pr okX e1021
                                            refine g_aload_n dL_law_1026 rfl rfl ?_
                                            refine g_aload_n dL_law_1027 rfl rfl ?_
                                            refine e_iload_n dL_law_1028 rfl ?_
                                            refine e_iconst (v := (1 : Int32)) dL_law_1029 (by decide) ?_
                                            refine e_iadd dL_law_1030 ?_
                                            replace H := og H; obtain ⟨g1023, H⟩ := H
                                            refine e_sca (ixb_y hLL.symm g1023) dL_law_1031 ?_
                                            refine e_ci (y := scr (x3 + (1 : Int32)).toNatClampNeg) (by rw [hscr]) ?_
                                            refine g_aload_n dL_law_1032 rfl rfl ?_
                                            refine e_iload_n dL_law_1033 rfl ?_
                                            refine e_iconst (v := (2 : Int32)) dL_law_1034 (by decide) ?_
                                            refine e_iadd dL_law_1035 ?_
                                            replace H := og H; obtain ⟨g1024, H⟩ := H
                                            refine e_sca (ixb_y hLL.symm g1024) dL_law_1036 ?_
                                            refine e_ci (y := scr (x3 + (2 : Int32)).toNatClampNeg) (by rw [hscr]) ?_
                                            refine g_aload_n dL_law_1037 rfl rfl ?_
                                            refine e_iload_n dL_law_1038 rfl ?_
                                            refine e_iconst (v := (3 : Int32)) dL_law_1039 (by decide) ?_
                                            refine e_iadd dL_law_1040 ?_
                                            replace H := og H; obtain ⟨g1025, H⟩ := H
                                            refine e_sca (ixb_y hLL.symm g1025) dL_law_1041 ?_
                                            refine e_ci (y := scr (x3 + (3 : Int32)).toNatClampNeg) (by rw [hscr]) ?_
                                            refine g_aload_n dL_law_1042 rfl rfl ?_
                                            refine e_iload_n dL_law_1043 rfl ?_
                                            refine e_iconst (v := (4 : Int32)) dL_law_1044 (by decide) ?_
                                            refine e_iadd dL_law_1045 ?_
                                            replace H := og H; obtain ⟨g1026, H⟩ := H
                                            refine e_sca (ixb_y hLL.symm g1026) dL_law_1046 ?_
                                            refine e_ci (y := scr (x3 + (4 : Int32)).toNatClampNeg) (by rw [hscr]) ?_
                                            refine g_aload_n dL_law_1047 rfl rfl ?_
                                            refine e_iload_n dL_law_1048 rfl ?_
                                            refine e_iconst (v := (5 : Int32)) dL_law_1049 (by decide) ?_
                                            refine e_iadd dL_law_1050 ?_
                                            replace H := og H; obtain ⟨g1027, H⟩ := H
                                            refine e_sca (ixb_y hLL.symm g1027) dL_law_1051 ?_
                                            refine e_ci (y := scr (x3 + (5 : Int32)).toNatClampNeg) (by rw [hscr]) ?_
                                            replace H := og H; obtain ⟨g1028, H⟩ := H
                                            subst g1028
                                            replace H := og H; obtain ⟨g1029, H⟩ := H
                                            have hY1030 : LY TM q1019.2 := g1029
                                            replace H := ob H; obtain ⟨q1031, c1032, H⟩ := H
                                            refine v1 (hY1030.t 0 rfl) (by decide) rfl rfl lmL_101 liX12_most lvX12_X12_most msX12_most dL_law_1052 (t_X12_most (d + 0) hY1030 c1032) rfl (Nat.le_of_ble_eq_true rfl) (Nat.le_refl _) ?_
                                            have e1033 := p_X12_most c1032
                                            have hY1034 := hY1022.pr okX e1033
                                            have hY1035 := hY1030.pr okM e1033
                                            refine e_icmp_eq (tgt := 1549) dL_law_1055 (by decide) (fun c1036 => ?_) (fun c1036 => ?_)
                                            · replace H := ot c1036 H
                                              refine e_iinc dL_law_1549 rfl (ii_ (by decide : Int32.ofInt (6) = (6 : Int32))) (Nat.le_of_ble_eq_true rfl) rfl rfl ?_
                                              refine e_goto (tgt := 18) dL_law_1552 (by decide) ?_
                                              exact e_wk (lk1 (lk1 (lk1 (lk1 lkn)))) (ih H kR kE)
                                            · replace H := of_ c1036 H
                                              refine e_iconst (v := (0 : Int32)) dL_law_1058 (by decide) ?_
                                              obtain rfl := Option.some.inj H
                                              obtain ⟨eR, eH⟩ := kR _ rfl
                                              exact z_iret rfl rfl dL_law_1059 eR eH
                                          · replace H := of_ k740 H
                                            by_cases k741 : ((scr x3.toNatClampNeg) &&& (31 : Int32)) = (19 : Int32)
                                            · replace H := ot k741 H
                                              refine e_tableIn (off := 1027) (tgt := 1060) dL_law_33 (by rw [k741]; decide) (by rw [k741]; decide) (by rw [k741]; rfl) (by decide) ?_
                                              refine g_aload_n dL_law_1060 rfl rfl ?_
                                              refine g_aload_n dL_law_1061 rfl rfl ?_
                                              refine e_iload_n dL_law_1062 rfl ?_
                                              refine e_iconst (v := (1 : Int32)) dL_law_1063 (by decide) ?_
                                              refine e_iadd dL_law_1064 ?_
                                              replace H := og H; obtain ⟨g991, H⟩ := H
                                              refine e_sca (ixb_y hLL.symm g991) dL_law_1065 ?_
                                              refine e_ci (y := scr (x3 + (1 : Int32)).toNatClampNeg) (by rw [hscr]) ?_
                                              refine g_aload_n dL_law_1066 rfl rfl ?_
                                              refine e_iload_n dL_law_1067 rfl ?_
                                              refine e_iconst (v := (2 : Int32)) dL_law_1068 (by decide) ?_
                                              refine e_iadd dL_law_1069 ?_
                                              replace H := og H; obtain ⟨g992, H⟩ := H
                                              refine e_sca (ixb_y hLL.symm g992) dL_law_1070 ?_
                                              refine e_ci (y := scr (x3 + (2 : Int32)).toNatClampNeg) (by rw [hscr]) ?_
                                              replace H := og H; obtain ⟨g993, H⟩ := H
                                              subst g993
                                              replace H := og H; obtain ⟨g994, H⟩ := H
                                              have hY995 : LY TX h := g994
                                              replace H := ob H; obtain ⟨q996, c997, H⟩ := H
                                              refine v1 (hY995.t 0 rfl) (by decide) rfl rfl lmL_102 liX11_test lvX11_X11_test msX11_test dL_law_1071 (t_X11_test (d + 63) hY995 c997) rfl (Nat.le_of_ble_eq_true rfl) (Nat.le_refl _) ?_
                                              have e998 := p_X11_test c997
                                              have hY999 := hY995.pr okX e998
                                              refine g_aload_n dL_law_1074 rfl rfl ?_
                                              refine g_aload_n dL_law_1075 rfl rfl ?_
                                              refine e_iload_n dL_law_1076 rfl ?_
                                              refine e_iconst (v := (1 : Int32)) dL_law_1077 (by decide) ?_
                                              refine e_iadd dL_law_1078 ?_
                                              replace H := og H; obtain ⟨g1000, H⟩ := H
                                              refine e_sca (ixb_y hLL.symm g1000) dL_law_1079 ?_
                                              refine e_ci (y := scr (x3 + (1 : Int32)).toNatClampNeg) (by rw [hscr]) ?_
                                              refine g_aload_n dL_law_1080 rfl rfl ?_
                                              refine e_iload_n dL_law_1081 rfl ?_
                                              refine e_iconst (v := (2 : Int32)) dL_law_1082 (by decide) ?_
                                              refine e_iadd dL_law_1083 ?_
                                              replace H := og H; obtain ⟨g1001, H⟩ := H
                                              refine e_sca (ixb_y hLL.symm g1001) dL_law_1084 ?_
                                              refine e_ci (y := scr (x3 + (2 : Int32)).toNatClampNeg) (by rw [hscr]) ?_
                                              replace H := og H; obtain ⟨g1002, H⟩ := H
                                              subst g1002
                                              replace H := og H; obtain ⟨g1003, H⟩ := H
                                              have hY1004 : LY TM q996.2 := g1003
                                              replace H := ob H; obtain ⟨q1005, c1006, H⟩ := H
                                              refine v1 (hY1004.t 0 rfl) (by decide) rfl rfl lmL_105 liX12_test lvX12_X12_test msX12_test dL_law_1085 (t_X12_test (d + 65) hY1004 c1006) rfl (Nat.le_of_ble_eq_true rfl) (Nat.le_refl _) ?_
                                              have e1007 := p_X12_test c1006
                                              have hY1008 := hY999.pr okX e1007
                                              have hY1009 := hY1004.pr okM e1007
                                              refine e_icmp_eq (tgt := 1549) dL_law_1088 (by decide) (fun c1010 => ?_) (fun c1010 => ?_)
                                              · replace H := ot c1010 H
                                                refine e_iinc dL_law_1549 rfl (ii_ (by decide : Int32.ofInt (6) = (6 : Int32))) (Nat.le_of_ble_eq_true rfl) rfl rfl ?_
                                                refine e_goto (tgt := 18) dL_law_1552 (by decide) ?_
                                                exact e_wk (lk1 (lk1 (lk1 (lk1 lkn)))) (ih H kR kE)
                                              · replace H := of_ c1010 H
                                                refine e_iconst (v := (0 : Int32)) dL_law_1091 (by decide) ?_
                                                obtain rfl := Option.some.inj H
                                                obtain ⟨eR, eH⟩ := kR _ rfl
                                                exact z_iret rfl rfl dL_law_1092 eR eH
                                            · replace H := of_ k741 H
                                              by_cases k742 : ((scr x3.toNatClampNeg) &&& (31 : Int32)) = (20 : Int32)
                                              · replace H := ot k742 H
                                                refine e_tableIn (off := 1060) (tgt := 1093) dL_law_33 (by rw [k742]; decide) (by rw [k742]; decide) (by rw [k742]; rfl) (by decide) ?_
                                                refine g_aload_n dL_law_1093 rfl rfl ?_
                                                refine g_aload_n dL_law_1094 rfl rfl ?_
                                                refine e_iload_n dL_law_1095 rfl ?_
                                                refine e_iconst (v := (1 : Int32)) dL_law_1096 (by decide) ?_
                                                refine e_iadd dL_law_1097 ?_
                                                replace H := og H; obtain ⟨g976, H⟩ := H
                                                refine e_sca (ixb_y hLL.symm g976) dL_law_1098 ?_
                                                refine e_ci (y := scr (x3 + (1 : Int32)).toNatClampNeg) (by rw [hscr]) ?_
                                                refine g_aload_n dL_law_1099 rfl rfl ?_
                                                refine e_iload_n dL_law_1100 rfl ?_
                                                refine e_iconst (v := (2 : Int32)) dL_law_1101 (by decide) ?_
                                                refine e_iadd dL_law_1102 ?_
                                                replace H := og H; obtain ⟨g977, H⟩ := H
                                                refine e_sca (ixb_y hLL.symm g977) dL_law_1103 ?_
                                                refine e_ci (y := scr (x3 + (2 : Int32)).toNatClampNeg) (by rw [hscr]) ?_
                                                replace H := og H; obtain ⟨g978, H⟩ := H
                                                subst g978
                                                replace H := og H; obtain ⟨g979, H⟩ := H
                                                have hY980 : LY TX h := g979
                                                replace H := ob H; obtain ⟨q981, c982, H⟩ := H
                                                refine v1 (hY980.t 0 rfl) (by decide) rfl rfl lmL_106 liX11_find lvX11_X11_find msX11_find dL_law_1104 (t_X11_find (d + 62) hY980 c982) rfl (Nat.le_of_ble_eq_true rfl) (Nat.le_refl _) ?_
                                                refine g_aload_n dL_law_1107 rfl rfl ?_
                                                refine g_aload_n dL_law_1108 rfl rfl ?_
                                                refine e_iload_n dL_law_1109 rfl ?_
                                                refine e_iconst (v := (1 : Int32)) dL_law_1110 (by decide) ?_
                                                refine e_iadd dL_law_1111 ?_
                                                replace H := og H; obtain ⟨g983, H⟩ := H
                                                refine e_sca (ixb_y hLL.symm g983) dL_law_1112 ?_
                                                refine e_ci (y := scr (x3 + (1 : Int32)).toNatClampNeg) (by rw [hscr]) ?_
                                                refine g_aload_n dL_law_1113 rfl rfl ?_
                                                refine e_iload_n dL_law_1114 rfl ?_
                                                refine e_iconst (v := (2 : Int32)) dL_law_1115 (by decide) ?_
                                                refine e_iadd dL_law_1116 ?_
                                                replace H := og H; obtain ⟨g984, H⟩ := H
                                                refine e_sca (ixb_y hLL.symm g984) dL_law_1117 ?_
                                                refine e_ci (y := scr (x3 + (2 : Int32)).toNatClampNeg) (by rw [hscr]) ?_
                                                replace H := og H; obtain ⟨g985, H⟩ := H
                                                subst g985
                                                replace H := og H; obtain ⟨g986, H⟩ := H
                                                have hY987 : LY TM h := g986
                                                replace H := ob H; obtain ⟨q988, c989, H⟩ := H
                                                refine v1 (hY987.t 0 rfl) (by decide) rfl rfl lmL_109 liX12_find lvX12_X12_find msX12_find dL_law_1118 (t_X12_find (d + 64) hY987 c989) rfl (Nat.le_of_ble_eq_true rfl) (Nat.le_refl _) ?_
                                                refine e_icmp_eq (tgt := 1549) dL_law_1121 (by decide) (fun c990 => ?_) (fun c990 => ?_)
                                                · replace H := ot c990 H
                                                  refine e_iinc dL_law_1549 rfl (ii_ (by decide : Int32.ofInt (6) = (6 : Int32))) (Nat.le_of_ble_eq_true rfl) rfl rfl ?_
                                                  refine e_goto (tgt := 18) dL_law_1552 (by decide) ?_
                                                  exact e_wk (lk1 (lk1 (lk1 (lk1 lkn)))) (ih H kR kE)
                                                · replace H := of_ c990 H
                                                  refine e_iconst (v := (0 : Int32)) dL_law_1124 (by decide) ?_
                                                  obtain rfl := Option.some.inj H
                                                  obtain ⟨eR, eH⟩ := kR _ rfl
                                                  exact z_iret rfl rfl dL_law_1125 eR eH
                                              · replace H := of_ k742 H
                                                by_cases k743 : ((scr x3.toNatClampNeg) &&& (31 : Int32)) = (21 : Int32)
                                                · replace H := ot k743 H
                                                  refine e_tableIn (off := 1093) (tgt := 1126) dL_law_33 (by rw [k743]; decide) (by rw [k743]; decide) (by rw [k743]; rfl) (by decide) ?_
                                                  refine g_aload_n dL_law_1126 rfl rfl ?_
                                                  refine g_aload_n dL_law_1127 rfl rfl ?_
                                                  refine e_iload_n dL_law_1128 rfl ?_
                                                  refine e_iconst (v := (1 : Int32)) dL_law_1129 (by decide) ?_
                                                  refine e_iadd dL_law_1130 ?_
                                                  replace H := og H; obtain ⟨g956, H⟩ := H
                                                  refine e_sca (ixb_y hLL.symm g956) dL_law_1131 ?_
                                                  refine e_ci (y := scr (x3 + (1 : Int32)).toNatClampNeg) (by rw [hscr]) ?_
                                                  refine g_aload_n dL_law_1132 rfl rfl ?_
                                                  refine e_iload_n dL_law_1133 rfl ?_
                                                  refine e_iconst (v := (2 : Int32)) dL_law_1134 (by decide) ?_
                                                  refine e_iadd dL_law_1135 ?_
                                                  replace H := og H; obtain ⟨g957, H⟩ := H
                                                  refine e_sca (ixb_y hLL.symm g957) dL_law_1136 ?_
                                                  refine e_ci (y := scr (x3 + (2 : Int32)).toNatClampNeg) (by rw [hscr]) ?_
                                                  replace H := og H; obtain ⟨g958, H⟩ := H
                                                  subst g958
                                                  replace H := og H; obtain ⟨g959, H⟩ := H
                                                  have hY960 : LY TX h := g959
                                                  replace H := ob H; obtain ⟨q961, c962, H⟩ := H
                                                  refine v1 (hY960.t 0 rfl) (by decide) rfl rfl lmL_110 liX11_year lvX11_X11_year msX11_year dL_law_1137 (t_X11_year (d + 61) hY960 c962) rfl (Nat.le_of_ble_eq_true rfl) (Nat.le_refl _) ?_
                                                  have e963 := p_X11_year c962
                                                  have hY964 := hY960.pr okX e963
                                                  refine g_aload_n dL_law_1140 rfl rfl ?_
                                                  refine g_aload_n dL_law_1141 rfl rfl ?_
                                                  refine e_iload_n dL_law_1142 rfl ?_
                                                  refine e_iconst (v := (1 : Int32)) dL_law_1143 (by decide) ?_
                                                  refine e_iadd dL_law_1144 ?_
                                                  replace H := og H; obtain ⟨g965, H⟩ := H
                                                  refine e_sca (ixb_y hLL.symm g965) dL_law_1145 ?_
                                                  refine e_ci (y := scr (x3 + (1 : Int32)).toNatClampNeg) (by rw [hscr]) ?_
                                                  refine g_aload_n dL_law_1146 rfl rfl ?_
                                                  refine e_iload_n dL_law_1147 rfl ?_
                                                  refine e_iconst (v := (2 : Int32)) dL_law_1148 (by decide) ?_
                                                  refine e_iadd dL_law_1149 ?_
                                                  replace H := og H; obtain ⟨g966, H⟩ := H
                                                  refine e_sca (ixb_y hLL.symm g966) dL_law_1150 ?_
                                                  refine e_ci (y := scr (x3 + (2 : Int32)).toNatClampNeg) (by rw [hscr]) ?_
                                                  replace H := og H; obtain ⟨g967, H⟩ := H
                                                  subst g967
                                                  replace H := og H; obtain ⟨g968, H⟩ := H
                                                  have hY969 : LY TM q961.2 := g968
                                                  replace H := ob H; obtain ⟨q970, c971, H⟩ := H
                                                  refine v1 (hY969.t 0 rfl) (by decide) rfl rfl lmL_113 liX12_year lvX12_X12_year msX12_year dL_law_1151 (t_X12_year (d + 0) hY969 c971) rfl (Nat.le_of_ble_eq_true rfl) (Nat.le_refl _) ?_
                                                  have e972 := p_X12_year c971
                                                  have hY973 := hY964.pr okX e972
                                                  have hY974 := hY969.pr okM e972
                                                  refine e_icmp_eq (tgt := 1549) dL_law_1154 (by decide) (fun c975 => ?_) (fun c975 => ?_)
                                                  · replace H := ot c975 H
                                                    refine e_iinc dL_law_1549 rfl (ii_ (by decide : Int32.ofInt (6) = (6 : Int32))) (Nat.le_of_ble_eq_true rfl) rfl rfl ?_
                                                    refine e_goto (tgt := 18) dL_law_1552 (by decide) ?_
                                                    exact e_wk (lk1 (lk1 (lk1 (lk1 lkn)))) (ih H kR kE)
                                                  · replace H := of_ c975 H
                                                    refine e_iconst (v := (0 : Int32)) dL_law_1157 (by decide) ?_
                                                    obtain rfl := Option.some.inj H
                                                    obtain ⟨eR, eH⟩ := kR _ rfl
                                                    exact z_iret rfl rfl dL_law_1158 eR eH
                                                · replace H := of_ k743 H
                                                  by_cases k744 : ((scr x3.toNatClampNeg) &&& (31 : Int32)) = (22 : Int32)
                                                  · replace H := ot k744 H
                                                    refine e_tableIn (off := 1126) (tgt := 1159) dL_law_33 (by rw [k744]; decide) (by rw [k744]; decide) (by rw [k744]; rfl) (by decide) ?_
                                                    refine g_aload_n dL_law_1159 rfl rfl ?_
                                                    refine g_aload_n dL_law_1160 rfl rfl ?_
                                                    refine e_iload_n dL_law_1161 rfl ?_
                                                    refine e_iconst (v := (1 : Int32)) dL_law_1162 (by decide) ?_
                                                    refine e_iadd dL_law_1163 ?_
                                                    replace H := og H; obtain ⟨g930, H⟩ := H
                                                    refine e_sca (ixb_y hLL.symm g930) dL_law_1164 ?_
                                                    refine e_ci (y := scr (x3 + (1 : Int32)).toNatClampNeg) (by rw [hscr]) ?_
                                                    refine g_aload_n dL_law_1165 rfl rfl ?_
                                                    refine e_iload_n dL_law_1166 rfl ?_
                                                    refine e_iconst (v := (2 : Int32)) dL_law_1167 (by decide) ?_
                                                    refine e_iadd dL_law_1168 ?_
                                                    replace H := og H; obtain ⟨g931, H⟩ := H
                                                    refine e_sca (ixb_y hLL.symm g931) dL_law_1169 ?_
                                                    refine e_ci (y := scr (x3 + (2 : Int32)).toNatClampNeg) (by rw [hscr]) ?_
                                                    refine g_aload_n dL_law_1170 rfl rfl ?_
                                                    refine e_iload_n dL_law_1171 rfl ?_
                                                    refine e_iconst (v := (3 : Int32)) dL_law_1172 (by decide) ?_
                                                    refine e_iadd dL_law_1173 ?_
                                                    replace H := og H; obtain ⟨g932, H⟩ := H
                                                    refine e_sca (ixb_y hLL.symm g932) dL_law_1174 ?_
                                                    refine e_ci (y := scr (x3 + (3 : Int32)).toNatClampNeg) (by rw [hscr]) ?_
                                                    refine g_aload_n dL_law_1175 rfl rfl ?_
                                                    refine e_iload_n dL_law_1176 rfl ?_
                                                    refine e_iconst (v := (4 : Int32)) dL_law_1177 (by decide) ?_
                                                    refine e_iadd dL_law_1178 ?_
                                                    replace H := og H; obtain ⟨g933, H⟩ := H
                                                    refine e_sca (ixb_y hLL.symm g933) dL_law_1179 ?_
                                                    refine e_ci (y := scr (x3 + (4 : Int32)).toNatClampNeg) (by rw [hscr]) ?_
                                                    refine g_aload_n dL_law_1180 rfl rfl ?_
                                                    refine e_iload_n dL_law_1181 rfl ?_
                                                    refine e_iconst (v := (5 : Int32)) dL_law_1182 (by decide) ?_
                                                    refine e_iadd dL_law_1183 ?_
                                                    replace H := og H; obtain ⟨g934, H⟩ := H
                                                    refine e_sca (ixb_y hLL.symm g934) dL_law_1184 ?_
                                                    refine e_ci (y := scr (x3 + (5 : Int32)).toNatClampNeg) (by rw [hscr]) ?_
                                                    replace H := og H; obtain ⟨g935, H⟩ := H
                                                    subst g935
                                                    replace H := og H; obtain ⟨g936, H⟩ := H
                                                    have hY937 : LY TX h := g936
                                                    replace H := ob H; obtain ⟨q938, c939, H⟩ := H
                                                    refine v1 (hY937.t 0 rfl) (by decide) rfl rfl lmL_114 liX11_make lvX11_X11_make msX11_make dL_law_1185 (t_X11_make (d + 60) hY937 c939) rfl (Nat.le_of_ble_eq_true rfl) (Nat.le_refl _) ?_
                                                    have e940 := p_X11_make c939
                                                    have hY941 := hY937.pr okX e940
                                                    refine g_aload_n dL_law_1188 rfl rfl ?_
                                                    refine g_aload_n dL_law_1189 rfl rfl ?_
                                                    refine e_iload_n dL_law_1190 rfl ?_
                                                    refine e_iconst (v := (1 : Int32)) dL_law_1191 (by decide) ?_
                                                    refine e_iadd dL_law_1192 ?_
                                                    replace H := og H; obtain ⟨g942, H⟩ := H
                                                    refine e_sca (ixb_y hLL.symm g942) dL_law_1193 ?_
                                                    refine e_ci (y := scr (x3 + (1 : Int32)).toNatClampNeg) (by rw [hscr]) ?_
                                                    refine g_aload_n dL_law_1194 rfl rfl ?_
                                                    refine e_iload_n dL_law_1195 rfl ?_
                                                    refine e_iconst (v := (2 : Int32)) dL_law_1196 (by decide) ?_
                                                    refine e_iadd dL_law_1197 ?_
                                                    replace H := og H; obtain ⟨g943, H⟩ := H
                                                    refine e_sca (ixb_y hLL.symm g943) dL_law_1198 ?_
                                                    refine e_ci (y := scr (x3 + (2 : Int32)).toNatClampNeg) (by rw [hscr]) ?_
                                                    refine g_aload_n dL_law_1199 rfl rfl ?_
                                                    refine e_iload_n dL_law_1200 rfl ?_
                                                    refine e_iconst (v := (3 : Int32)) dL_law_1201 (by decide) ?_
                                                    refine e_iadd dL_law_1202 ?_
                                                    replace H := og H; obtain ⟨g944, H⟩ := H
                                                    refine e_sca (ixb_y hLL.symm g944) dL_law_1203 ?_
                                                    refine e_ci (y := scr (x3 + (3 : Int32)).toNatClampNeg) (by rw [hscr]) ?_
                                                    refine g_aload_n dL_law_1204 rfl rfl ?_
                                                    refine e_iload_n dL_law_1205 rfl ?_
                                                    refine e_iconst (v := (4 : Int32)) dL_law_1206 (by decide) ?_
                                                    refine e_iadd dL_law_1207 ?_
                                                    replace H := og H; obtain ⟨g945, H⟩ := H
                                                    refine e_sca (ixb_y hLL.symm g945) dL_law_1208 ?_
                                                    refine e_ci (y := scr (x3 + (4 : Int32)).toNatClampNeg) (by rw [hscr]) ?_
                                                    refine g_aload_n dL_law_1209 rfl rfl ?_
                                                    refine e_iload_n dL_law_1210 rfl ?_
                                                    refine e_iconst (v := (5 : Int32)) dL_law_1211 (by decide) ?_
                                                    refine e_iadd dL_law_1212 ?_
                                                    replace H := og H; obtain ⟨g946, H⟩ := H
                                                    refine e_sca (ixb_y hLL.symm g946) dL_law_1213 ?_
                                                    refine e_ci (y := scr (x3 + (5 : Int32)).toNatClampNeg) (by rw [hscr]) ?_
                                                    replace H := og H; obtain ⟨g947, H⟩ := H
                                                    subst g947
                                                    replace H := og H; obtain ⟨g948, H⟩ := H
                                                    have hY949 : LY TM q938.2 := g948
                                                    replace H := ob H; obtain ⟨q950, c951, H⟩ := H
                                                    refine v1 (hY949.t 0 rfl) (by decide) rfl rfl lmL_117 liX12_make lvX12_X12_make msX12_make dL_law_1214 (t_X12_make (d + 61) hY949 c951) rfl (Nat.le_of_ble_eq_true rfl) (Nat.le_refl _) ?_
                                                    have e952 := p_X12_make c951
                                                    have hY953 := hY941.pr okX e952
                                                    have hY954 := hY949.pr okM e952
                                                    refine e_icmp_eq (tgt := 1549) dL_law_1217 (by decide) (fun c955 => ?_) (fun c955 => ?_)
                                                    · replace H := ot c955 H
                                                      refine e_iinc dL_law_1549 rfl (ii_ (by decide : Int32.ofInt (6) = (6 : Int32))) (Nat.le_of_ble_eq_true rfl) rfl rfl ?_
                                                      refine e_goto (tgt := 18) dL_law_1552 (by decide) ?_
                                                      exact e_wk (lk1 (lk1 (lk1 (lk1 lkn)))) (ih H kR kE)
                                                    · replace H := of_ c955 H
                                                      refine e_iconst (v := (0 : Int32)) dL_law_1220 (by decide) ?_
                                                      obtain rfl := Option.some.inj H
                                                      obtain ⟨eR, eH⟩ := kR _ rfl
                                                      exact z_iret rfl rfl dL_law_1221 eR eH
                                                  · replace H := of_ k744 H
                                                    by_cases k745 : ((scr x3.toNatClampNeg) &&& (31 : Int32)) = (23 : Int32)
                                                    · replace H := ot k745 H
                                                      refine e_tableIn (off := 1189) (tgt := 1222) dL_law_33 (by rw [k745]; decide) (by rw [k745]; decide) (by rw [k745]; rfl) (by decide) ?_
                                                      refine g_aload_n dL_law_1222 rfl rfl ?_
                                                      refine g_aload_n dL_law_1223 rfl rfl ?_
                                                      refine e_iload_n dL_law_1224 rfl ?_
                                                      refine e_iconst (v := (1 : Int32)) dL_law_1225 (by decide) ?_
                                                      refine e_iadd dL_law_1226 ?_
                                                      replace H := og H; obtain ⟨g908, H⟩ := H
                                                      refine e_sca (ixb_y hLL.symm g908) dL_law_1227 ?_
                                                      refine e_ci (y := scr (x3 + (1 : Int32)).toNatClampNeg) (by rw [hscr]) ?_
                                                      refine g_aload_n dL_law_1228 rfl rfl ?_
                                                      refine e_iload_n dL_law_1229 rfl ?_
                                                      refine e_iconst (v := (2 : Int32)) dL_law_1230 (by decide) ?_
                                                      refine e_iadd dL_law_1231 ?_
                                                      replace H := og H; obtain ⟨g909, H⟩ := H
                                                      refine e_sca (ixb_y hLL.symm g909) dL_law_1232 ?_
                                                      refine e_ci (y := scr (x3 + (2 : Int32)).toNatClampNeg) (by rw [hscr]) ?_
                                                      refine g_aload_n dL_law_1233 rfl rfl ?_
                                                      refine e_iload_n dL_law_1234 rfl ?_
                                                      refine e_iconst (v := (3 : Int32)) dL_law_1235 (by decide) ?_
                                                      refine e_iadd dL_law_1236 ?_
                                                      replace H := og H; obtain ⟨g910, H⟩ := H
                                                      refine e_sca (ixb_y hLL.symm g910) dL_law_1237 ?_
                                                      refine e_ci (y := scr (x3 + (3 : Int32)).toNatClampNeg) (by rw [hscr]) ?_
                                                      replace H := og H; obtain ⟨g911, H⟩ := H
                                                      subst g911
                                                      replace H := og H; obtain ⟨g912, H⟩ := H
                                                      have hY913 : LY TX h := g912
                                                      replace H := ob H; obtain ⟨q914, c915, H⟩ := H
                                                      refine v1 (hY913.t 0 rfl) (by decide) rfl rfl lmL_118 liX11_walk lvX11_X11_walk msX11_walk dL_law_1238 (t_X11_walk (d + 60) hY913 c915) rfl (Nat.le_of_ble_eq_true rfl) (Nat.le_refl _) ?_
                                                      have e916 := p_X11_walk c915
                                                      have hY917 := hY913.pr okX e916
                                                      refine g_aload_n dL_law_1241 rfl rfl ?_
                                                      refine g_aload_n dL_law_1242 rfl rfl ?_
                                                      refine e_iload_n dL_law_1243 rfl ?_
                                                      refine e_iconst (v := (1 : Int32)) dL_law_1244 (by decide) ?_
                                                      refine e_iadd dL_law_1245 ?_
                                                      replace H := og H; obtain ⟨g918, H⟩ := H
                                                      refine e_sca (ixb_y hLL.symm g918) dL_law_1246 ?_
                                                      refine e_ci (y := scr (x3 + (1 : Int32)).toNatClampNeg) (by rw [hscr]) ?_
                                                      refine g_aload_n dL_law_1247 rfl rfl ?_
                                                      refine e_iload_n dL_law_1248 rfl ?_
                                                      refine e_iconst (v := (2 : Int32)) dL_law_1249 (by decide) ?_
                                                      refine e_iadd dL_law_1250 ?_
                                                      replace H := og H; obtain ⟨g919, H⟩ := H
                                                      refine e_sca (ixb_y hLL.symm g919) dL_law_1251 ?_
                                                      refine e_ci (y := scr (x3 + (2 : Int32)).toNatClampNeg) (by rw [hscr]) ?_
                                                      refine g_aload_n dL_law_1252 rfl rfl ?_
                                                      refine e_iload_n dL_law_1253 rfl ?_
                                                      refine e_iconst (v := (3 : Int32)) dL_law_1254 (by decide) ?_
                                                      refine e_iadd dL_law_1255 ?_
                                                      replace H := og H; obtain ⟨g920, H⟩ := H
                                                      refine e_sca (ixb_y hLL.symm g920) dL_law_1256 ?_
                                                      refine e_ci (y := scr (x3 + (3 : Int32)).toNatClampNeg) (by rw [hscr]) ?_
                                                      replace H := og H; obtain ⟨g921, H⟩ := H
                                                      subst g921
                                                      replace H := og H; obtain ⟨g922, H⟩ := H
                                                      have hY923 : LY TM q914.2 := g922
                                                      replace H := ob H; obtain ⟨q924, c925, H⟩ := H
                                                      refine v1 (hY923.t 0 rfl) (by decide) rfl rfl lmL_121 liX12_walk lvX12_X12_walk msX12_walk dL_law_1257 (t_X12_walk (d + 60) hY923 c925) rfl (Nat.le_of_ble_eq_true rfl) (Nat.le_refl _) ?_
                                                      have e926 := p_X12_walk c925
                                                      have hY927 := hY917.pr okX e926
                                                      have hY928 := hY923.pr okM e926
                                                      refine e_icmp_eq (tgt := 1549) dL_law_1260 (by decide) (fun c929 => ?_) (fun c929 => ?_)
                                                      · replace H := ot c929 H
                                                        refine e_iinc dL_law_1549 rfl (ii_ (by decide : Int32.ofInt (6) = (6 : Int32))) (Nat.le_of_ble_eq_true rfl) rfl rfl ?_
                                                        refine e_goto (tgt := 18) dL_law_1552 (by decide) ?_
                                                        exact e_wk (lk1 (lk1 (lk1 (lk1 lkn)))) (ih H kR kE)
                                                      · replace H := of_ c929 H
                                                        refine e_iconst (v := (0 : Int32)) dL_law_1263 (by decide) ?_
                                                        obtain rfl := Option.some.inj H
                                                        obtain ⟨eR, eH⟩ := kR _ rfl
                                                        exact z_iret rfl rfl dL_law_1264 eR eH
                                                    · replace H := of_ k745 H
                                                      by_cases k746 : ((scr x3.toNatClampNeg) &&& (31 : Int32)) = (24 : Int32)
                                                      · replace H := ot k746 H
                                                        refine e_tableIn (off := 1232) (tgt := 1265) dL_law_33 (by rw [k746]; decide) (by rw [k746]; decide) (by rw [k746]; rfl) (by decide) ?_
                                                        refine g_aload_n dL_law_1265 rfl rfl ?_
                                                        replace H := og H; obtain ⟨g892, H⟩ := H
                                                        subst g892
                                                        replace H := og H; obtain ⟨g893, H⟩ := H
                                                        have hY894 : LY TX h := g893
                                                        replace H := ob H; obtain ⟨q895, c896, H⟩ := H
                                                        refine v1 (hY894.t 0 rfl) (by decide) rfl rfl lmL_122 liX11_image lvX11_X11_image msX11_image dL_law_1266 (t_X11_image (d + 63) hY894 c896) rfl (Nat.le_of_ble_eq_true rfl) (Nat.le_refl _) ?_
                                                        have e897 := p_X11_image c896
                                                        have hY898 := hY894.pr okX e897
                                                        refine g_aload_n dL_law_1269 rfl rfl ?_
                                                        replace H := og H; obtain ⟨g899, H⟩ := H
                                                        subst g899
                                                        replace H := og H; obtain ⟨g900, H⟩ := H
                                                        have hY901 : LY TM q895.2 := g900
                                                        replace H := ob H; obtain ⟨q902, c903, H⟩ := H
                                                        refine v1 (hY901.t 0 rfl) (by decide) rfl rfl lmL_125 liX12_image lvX12_X12_image msX12_image dL_law_1270 (t_X12_image (d + 66) hY901 c903) rfl (Nat.le_of_ble_eq_true rfl) (Nat.le_refl _) ?_
                                                        have e904 := p_X12_image c903
                                                        have hY905 := hY898.pr okX e904
                                                        have hY906 := hY901.pr okM e904
                                                        refine e_icmp_eq (tgt := 1549) dL_law_1273 (by decide) (fun c907 => ?_) (fun c907 => ?_)
                                                        · replace H := ot c907 H
                                                          refine e_iinc dL_law_1549 rfl (ii_ (by decide : Int32.ofInt (6) = (6 : Int32))) (Nat.le_of_ble_eq_true rfl) rfl rfl ?_
                                                          refine e_goto (tgt := 18) dL_law_1552 (by decide) ?_
                                                          exact e_wk (lk1 (lk1 (lk1 (lk1 lkn)))) (ih H kR kE)
                                                        · replace H := of_ c907 H
                                                          refine e_iconst (v := (0 : Int32)) dL_law_1276 (by decide) ?_
                                                          obtain rfl := Option.some.inj H
                                                          obtain ⟨eR, eH⟩ := kR _ rfl
                                                          exact z_iret rfl rfl dL_law_1277 eR eH
                                                      · replace H := of_ k746 H
                                                        by_cases k747 : ((scr x3.toNatClampNeg) &&& (31 : Int32)) = (25 : Int32)
                                                        · replace H := ot k747 H
                                                          refine e_tableIn (off := 1245) (tgt := 1278) dL_law_33 (by rw [k747]; decide) (by rw [k747]; decide) (by rw [k747]; rfl) (by decide) ?_
                                                          refine g_aload_n dL_law_1278 rfl rfl ?_
                                                          replace H := og H; obtain ⟨g876, H⟩ := H
                                                          subst g876
                                                          replace H := og H; obtain ⟨g877, H⟩ := H
                                                          have hY878 : LY TX h := g877
                                                          replace H := ob H; obtain ⟨q879, c880, H⟩ := H
                                                          refine v1 (hY878.t 0 rfl) (by decide) rfl rfl lmL_126 liX11_back lvX11_X11_back msX11_back dL_law_1279 (t_X11_back (d + 63) hY878 c880) rfl (Nat.le_of_ble_eq_true rfl) (Nat.le_refl _) ?_
                                                          have e881 := p_X11_back c880
                                                          have hY882 := hY878.pr okX e881
                                                          refine g_aload_n dL_law_1282 rfl rfl ?_
                                                          replace H := og H; obtain ⟨g883, H⟩ := H
                                                          subst g883
                                                          replace H := og H; obtain ⟨g884, H⟩ := H
                                                          have hY885 : LY TM q879.2 := g884
                                                          replace H := ob H; obtain ⟨q886, c887, H⟩ := H
                                                          refine v1 (hY885.t 0 rfl) (by decide) rfl rfl lmL_129 liX12_back lvX12_X12_back msX12_back dL_law_1283 (t_X12_back (d + 66) hY885 c887) rfl (Nat.le_of_ble_eq_true rfl) (Nat.le_refl _) ?_
                                                          have e888 := p_X12_back c887
                                                          have hY889 := hY882.pr okX e888
                                                          have hY890 := hY885.pr okM e888
                                                          refine e_icmp_eq (tgt := 1549) dL_law_1286 (by decide) (fun c891 => ?_) (fun c891 => ?_)
                                                          · replace H := ot c891 H
                                                            refine e_iinc dL_law_1549 rfl (ii_ (by decide : Int32.ofInt (6) = (6 : Int32))) (Nat.le_of_ble_eq_true rfl) rfl rfl ?_
                                                            refine e_goto (tgt := 18) dL_law_1552 (by decide) ?_
                                                            exact e_wk (lk1 (lk1 (lk1 (lk1 lkn)))) (ih H kR kE)
                                                          · replace H := of_ c891 H
                                                            refine e_iconst (v := (0 : Int32)) dL_law_1289 (by decide) ?_
                                                            obtain rfl := Option.some.inj H
                                                            obtain ⟨eR, eH⟩ := kR _ rfl
                                                            exact z_iret rfl rfl dL_law_1290 eR eH
                                                        · replace H := of_ k747 H
                                                          by_cases k748 : ((scr x3.toNatClampNeg) &&& (31 : Int32)) = (26 : Int32)
                                                          · replace H := ot k748 H
                                                            refine e_tableIn (off := 1258) (tgt := 1291) dL_law_33 (by rw [k748]; decide) (by rw [k748]; decide) (by rw [k748]; rfl) (by decide) ?_
                                                            refine g_aload_n dL_law_1291 rfl rfl ?_
                                                            refine g_aload_n dL_law_1292 rfl rfl ?_
                                                            refine e_iload_n dL_law_1293 rfl ?_
                                                            refine e_iconst (v := (1 : Int32)) dL_law_1294 (by decide) ?_
                                                            refine e_iadd dL_law_1295 ?_
                                                            replace H := og H; obtain ⟨g863, H⟩ := H
                                                            refine e_sca (ixb_y hLL.symm g863) dL_law_1296 ?_
                                                            refine e_ci (y := scr (x3 + (1 : Int32)).toNatClampNeg) (by rw [hscr]) ?_
                                                            replace H := og H; obtain ⟨g864, H⟩ := H
                                                            subst g864
                                                            replace H := og H; obtain ⟨g865, H⟩ := H
                                                            have hY866 : LY TX h := g865
                                                            replace H := ob H; obtain ⟨q867, c868, H⟩ := H
                                                            refine v1 (hY866.t 0 rfl) (by decide) rfl rfl lmL_130 liX11_count lvX11_X11_count msX11_count dL_law_1297 (t_X11_count (d + 63) hY866 c868) rfl (Nat.le_of_ble_eq_true rfl) (Nat.le_refl _) ?_
                                                            refine g_aload_n dL_law_1300 rfl rfl ?_
                                                            refine g_aload_n dL_law_1301 rfl rfl ?_
                                                            refine e_iload_n dL_law_1302 rfl ?_
                                                            refine e_iconst (v := (1 : Int32)) dL_law_1303 (by decide) ?_
                                                            refine e_iadd dL_law_1304 ?_
                                                            replace H := og H; obtain ⟨g869, H⟩ := H
                                                            refine e_sca (ixb_y hLL.symm g869) dL_law_1305 ?_
                                                            refine e_ci (y := scr (x3 + (1 : Int32)).toNatClampNeg) (by rw [hscr]) ?_
                                                            replace H := og H; obtain ⟨g870, H⟩ := H
                                                            subst g870
                                                            replace H := og H; obtain ⟨g871, H⟩ := H
                                                            have hY872 : LY TM h := g871
                                                            replace H := ob H; obtain ⟨q873, c874, H⟩ := H
                                                            refine v1 (hY872.t 0 rfl) (by decide) rfl rfl lmL_133 liX12_count lvX12_X12_count msX12_count dL_law_1306 (t_X12_count (d + 66) hY872 c874) rfl (Nat.le_of_ble_eq_true rfl) (Nat.le_refl _) ?_
                                                            refine e_icmp_eq (tgt := 1549) dL_law_1309 (by decide) (fun c875 => ?_) (fun c875 => ?_)
                                                            · replace H := ot c875 H
                                                              refine e_iinc dL_law_1549 rfl (ii_ (by decide : Int32.ofInt (6) = (6 : Int32))) (Nat.le_of_ble_eq_true rfl) rfl rfl ?_
                                                              refine e_goto (tgt := 18) dL_law_1552 (by decide) ?_
                                                              exact e_wk (lk1 (lk1 (lk1 (lk1 lkn)))) (ih H kR kE)
                                                            · replace H := of_ c875 H
                                                              refine e_iconst (v := (0 : Int32)) dL_law_1312 (by decide) ?_
                                                              obtain rfl := Option.some.inj H
                                                              obtain ⟨eR, eH⟩ := kR _ rfl
                                                              exact z_iret rfl rfl dL_law_1313 eR eH
                                                          · replace H := of_ k748 H
                                                            by_cases k749 : ((scr x3.toNatClampNeg) &&& (31 : Int32)) = (27 : Int32)
                                                            · replace H := ot k749 H
                                                              refine e_tableIn (off := 1281) (tgt := 1314) dL_law_33 (by rw [k749]; decide) (by rw [k749]; decide) (by rw [k749]; rfl) (by decide) ?_
                                                              refine g_aload_n dL_law_1314 rfl rfl ?_
                                                              refine g_aload_n dL_law_1315 rfl rfl ?_
                                                              refine e_iload_n dL_law_1316 rfl ?_
                                                              refine e_iconst (v := (1 : Int32)) dL_law_1317 (by decide) ?_
                                                              refine e_iadd dL_law_1318 ?_
                                                              replace H := og H; obtain ⟨g841, H⟩ := H
                                                              refine e_sca (ixb_y hLL.symm g841) dL_law_1319 ?_
                                                              refine e_ci (y := scr (x3 + (1 : Int32)).toNatClampNeg) (by rw [hscr]) ?_
                                                              refine g_aload_n dL_law_1320 rfl rfl ?_
                                                              refine e_iload_n dL_law_1321 rfl ?_
                                                              refine e_iconst (v := (2 : Int32)) dL_law_1322 (by decide) ?_
                                                              refine e_iadd dL_law_1323 ?_
                                                              replace H := og H; obtain ⟨g842, H⟩ := H
                                                              refine e_sca (ixb_y hLL.symm g842) dL_law_1324 ?_
                                                              refine e_ci (y := scr (x3 + (2 : Int32)).toNatClampNeg) (by rw [hscr]) ?_
                                                              refine g_aload_n dL_law_1325 rfl rfl ?_
                                                              refine e_iload_n dL_law_1326 rfl ?_
                                                              refine e_iconst (v := (3 : Int32)) dL_law_1327 (by decide) ?_
                                                              refine e_iadd dL_law_1328 ?_
                                                              replace H := og H; obtain ⟨g843, H⟩ := H
                                                              refine e_sca (ixb_y hLL.symm g843) dL_law_1329 ?_
                                                              refine e_ci (y := scr (x3 + (3 : Int32)).toNatClampNeg) (by rw [hscr]) ?_
                                                              replace H := og H; obtain ⟨g844, H⟩ := H
                                                              subst g844
                                                              replace H := og H; obtain ⟨g845, H⟩ := H
                                                              have hY846 : LY TX h := g845
                                                              replace H := ob H; obtain ⟨q847, c848, H⟩ := H
                                                              refine v1 (hY846.t 0 rfl) (by decide) rfl rfl lmL_134 liX11_sheet lvX11_X11_sheet msX11_sheet dL_law_1330 (t_X11_sheet (d + 64) hY846 c848) rfl (Nat.le_of_ble_eq_true rfl) (Nat.le_refl _) ?_
                                                              have e849 := p_X11_sheet c848
                                                              have hY850 := hY846.pr okX e849
                                                              refine g_aload_n dL_law_1333 rfl rfl ?_
                                                              refine g_aload_n dL_law_1334 rfl rfl ?_
                                                              refine e_iload_n dL_law_1335 rfl ?_
                                                              refine e_iconst (v := (1 : Int32)) dL_law_1336 (by decide) ?_
                                                              refine e_iadd dL_law_1337 ?_
                                                              replace H := og H; obtain ⟨g851, H⟩ := H
                                                              refine e_sca (ixb_y hLL.symm g851) dL_law_1338 ?_
                                                              refine e_ci (y := scr (x3 + (1 : Int32)).toNatClampNeg) (by rw [hscr]) ?_
                                                              refine g_aload_n dL_law_1339 rfl rfl ?_
                                                              refine e_iload_n dL_law_1340 rfl ?_
                                                              refine e_iconst (v := (2 : Int32)) dL_law_1341 (by decide) ?_
                                                              refine e_iadd dL_law_1342 ?_
                                                              replace H := og H; obtain ⟨g852, H⟩ := H
                                                              refine e_sca (ixb_y hLL.symm g852) dL_law_1343 ?_
                                                              refine e_ci (y := scr (x3 + (2 : Int32)).toNatClampNeg) (by rw [hscr]) ?_
                                                              refine g_aload_n dL_law_1344 rfl rfl ?_
                                                              refine e_iload_n dL_law_1345 rfl ?_
                                                              refine e_iconst (v := (3 : Int32)) dL_law_1346 (by decide) ?_
                                                              refine e_iadd dL_law_1347 ?_
                                                              replace H := og H; obtain ⟨g853, H⟩ := H
                                                              refine e_sca (ixb_y hLL.symm g853) dL_law_1348 ?_
                                                              refine e_ci (y := scr (x3 + (3 : Int32)).toNatClampNeg) (by rw [hscr]) ?_
                                                              replace H := og H; obtain ⟨g854, H⟩ := H
                                                              subst g854
                                                              replace H := og H; obtain ⟨g855, H⟩ := H
                                                              have hY856 : LY TM q847.2 := g855
                                                              replace H := ob H; obtain ⟨q857, c858, H⟩ := H
                                                              refine v1 (hY856.t 0 rfl) (by decide) rfl rfl lmL_137 liX12_sheet lvX12_X12_sheet msX12_sheet dL_law_1349 (t_X12_sheet (d + 64) hY856 c858) rfl (Nat.le_of_ble_eq_true rfl) (Nat.le_refl _) ?_
                                                              have e859 := p_X12_sheet c858
                                                              have hY860 := hY850.pr okX e859
                                                              have hY861 := hY856.pr okM e859
                                                              refine e_icmp_eq (tgt := 1549) dL_law_1352 (by decide) (fun c862 => ?_) (fun c862 => ?_)
                                                              · replace H := ot c862 H
                                                                refine e_iinc dL_law_1549 rfl (ii_ (by decide : Int32.ofInt (6) = (6 : Int32))) (Nat.le_of_ble_eq_true rfl) rfl rfl ?_
                                                                refine e_goto (tgt := 18) dL_law_1552 (by decide) ?_
                                                                exact e_wk (lk1 (lk1 (lk1 (lk1 lkn)))) (ih H kR kE)
                                                              · replace H := of_ c862 H
                                                                refine e_iconst (v := (0 : Int32)) dL_law_1355 (by decide) ?_
                                                                obtain rfl := Option.some.inj H
                                                                obtain ⟨eR, eH⟩ := kR _ rfl
                                                                exact z_iret rfl rfl dL_law_1356 eR eH
                                                            · replace H := of_ k749 H
                                                              by_cases k750 : ((scr x3.toNatClampNeg) &&& (31 : Int32)) = (28 : Int32)
                                                              · replace H := ot k750 H
                                                                refine e_tableIn (off := 1324) (tgt := 1357) dL_law_33 (by rw [k750]; decide) (by rw [k750]; decide) (by rw [k750]; rfl) (by decide) ?_
                                                                refine g_aload_n dL_law_1357 rfl rfl ?_
                                                                refine g_aload_n dL_law_1358 rfl rfl ?_
                                                                refine e_iload_n dL_law_1359 rfl ?_
                                                                refine e_iconst (v := (1 : Int32)) dL_law_1360 (by decide) ?_
                                                                refine e_iadd dL_law_1361 ?_
                                                                replace H := og H; obtain ⟨g819, H⟩ := H
                                                                refine e_sca (ixb_y hLL.symm g819) dL_law_1362 ?_
                                                                refine e_ci (y := scr (x3 + (1 : Int32)).toNatClampNeg) (by rw [hscr]) ?_
                                                                refine g_aload_n dL_law_1363 rfl rfl ?_
                                                                refine e_iload_n dL_law_1364 rfl ?_
                                                                refine e_iconst (v := (2 : Int32)) dL_law_1365 (by decide) ?_
                                                                refine e_iadd dL_law_1366 ?_
                                                                replace H := og H; obtain ⟨g820, H⟩ := H
                                                                refine e_sca (ixb_y hLL.symm g820) dL_law_1367 ?_
                                                                refine e_ci (y := scr (x3 + (2 : Int32)).toNatClampNeg) (by rw [hscr]) ?_
                                                                refine g_aload_n dL_law_1368 rfl rfl ?_
                                                                refine e_iload_n dL_law_1369 rfl ?_
                                                                refine e_iconst (v := (3 : Int32)) dL_law_1370 (by decide) ?_
                                                                refine e_iadd dL_law_1371 ?_
                                                                replace H := og H; obtain ⟨g821, H⟩ := H
                                                                refine e_sca (ixb_y hLL.symm g821) dL_law_1372 ?_
                                                                refine e_ci (y := scr (x3 + (3 : Int32)).toNatClampNeg) (by rw [hscr]) ?_
                                                                replace H := og H; obtain ⟨g822, H⟩ := H
                                                                subst g822
                                                                replace H := og H; obtain ⟨g823, H⟩ := H
                                                                have hY824 : LY TX h := g823
                                                                replace H := ob H; obtain ⟨q825, c826, H⟩ := H
                                                                refine v1 (hY824.t 0 rfl) (by decide) rfl rfl lmL_138 liX11_cell lvX11_X11_cell msX11_cell dL_law_1373 (t_X11_cell (d + 64) hY824 c826) rfl (Nat.le_of_ble_eq_true rfl) (Nat.le_refl _) ?_
                                                                have e827 := p_X11_cell c826
                                                                have hY828 := hY824.pr okX e827
                                                                refine g_aload_n dL_law_1376 rfl rfl ?_
                                                                refine g_aload_n dL_law_1377 rfl rfl ?_
                                                                refine e_iload_n dL_law_1378 rfl ?_
                                                                refine e_iconst (v := (1 : Int32)) dL_law_1379 (by decide) ?_
                                                                refine e_iadd dL_law_1380 ?_
                                                                replace H := og H; obtain ⟨g829, H⟩ := H
                                                                refine e_sca (ixb_y hLL.symm g829) dL_law_1381 ?_
                                                                refine e_ci (y := scr (x3 + (1 : Int32)).toNatClampNeg) (by rw [hscr]) ?_
                                                                refine g_aload_n dL_law_1382 rfl rfl ?_
                                                                refine e_iload_n dL_law_1383 rfl ?_
                                                                refine e_iconst (v := (2 : Int32)) dL_law_1384 (by decide) ?_
                                                                refine e_iadd dL_law_1385 ?_
                                                                replace H := og H; obtain ⟨g830, H⟩ := H
                                                                refine e_sca (ixb_y hLL.symm g830) dL_law_1386 ?_
                                                                refine e_ci (y := scr (x3 + (2 : Int32)).toNatClampNeg) (by rw [hscr]) ?_
                                                                refine g_aload_n dL_law_1387 rfl rfl ?_
                                                                refine e_iload_n dL_law_1388 rfl ?_
                                                                refine e_iconst (v := (3 : Int32)) dL_law_1389 (by decide) ?_
                                                                refine e_iadd dL_law_1390 ?_
                                                                replace H := og H; obtain ⟨g831, H⟩ := H
                                                                refine e_sca (ixb_y hLL.symm g831) dL_law_1391 ?_
                                                                refine e_ci (y := scr (x3 + (3 : Int32)).toNatClampNeg) (by rw [hscr]) ?_
                                                                replace H := og H; obtain ⟨g832, H⟩ := H
                                                                subst g832
                                                                replace H := og H; obtain ⟨g833, H⟩ := H
                                                                have hY834 : LY TM q825.2 := g833
                                                                replace H := ob H; obtain ⟨q835, c836, H⟩ := H
                                                                refine v1 (hY834.t 0 rfl) (by decide) rfl rfl lmL_141 liX12_cell lvX12_X12_cell msX12_cell dL_law_1392 (t_X12_cell (d + 64) hY834 c836) rfl (Nat.le_of_ble_eq_true rfl) (Nat.le_refl _) ?_
                                                                have e837 := p_X12_cell c836
                                                                have hY838 := hY828.pr okX e837
                                                                have hY839 := hY834.pr okM e837
                                                                refine e_icmp_eq (tgt := 1549) dL_law_1395 (by decide) (fun c840 => ?_) (fun c840 => ?_)
                                                                · replace H := ot c840 H
                                                                  refine e_iinc dL_law_1549 rfl (ii_ (by decide : Int32.ofInt (6) = (6 : Int32))) (Nat.le_of_ble_eq_true rfl) rfl rfl ?_
                                                                  refine e_goto (tgt := 18) dL_law_1552 (by decide) ?_
                                                                  exact e_wk (lk1 (lk1 (lk1 (lk1 lkn)))) (ih H kR kE)
                                                                · replace H := of_ c840 H
                                                                  refine e_iconst (v := (0 : Int32)) dL_law_1398 (by decide) ?_
                                                                  obtain rfl := Option.some.inj H
                                                                  obtain ⟨eR, eH⟩ := kR _ rfl
                                                                  exact z_iret rfl rfl dL_law_1399 eR eH
                                                              · replace H := of_ k750 H
                                                                by_cases k751 : ((scr x3.toNatClampNeg) &&& (31 : Int32)) = (29 : Int32)
                                                                · replace H := ot k751 H
                                                                  refine e_tableIn (off := 1367) (tgt := 1400) dL_law_33 (by rw [k751]; decide) (by rw [k751]; decide) (by rw [k751]; rfl) (by decide) ?_
                                                                  refine g_aload_n dL_law_1400 rfl rfl ?_
                                                                  refine g_aload_n dL_law_1401 rfl rfl ?_
                                                                  refine e_iload_n dL_law_1402 rfl ?_
                                                                  refine e_iconst (v := (1 : Int32)) dL_law_1403 (by decide) ?_
                                                                  refine e_iadd dL_law_1404 ?_
                                                                  replace H := og H; obtain ⟨g793, H⟩ := H
                                                                  refine e_sca (ixb_y hLL.symm g793) dL_law_1405 ?_
                                                                  refine e_ci (y := scr (x3 + (1 : Int32)).toNatClampNeg) (by rw [hscr]) ?_
                                                                  refine g_aload_n dL_law_1406 rfl rfl ?_
                                                                  refine e_iload_n dL_law_1407 rfl ?_
                                                                  refine e_iconst (v := (2 : Int32)) dL_law_1408 (by decide) ?_
                                                                  refine e_iadd dL_law_1409 ?_
                                                                  replace H := og H; obtain ⟨g794, H⟩ := H
                                                                  refine e_sca (ixb_y hLL.symm g794) dL_law_1410 ?_
                                                                  refine e_ci (y := scr (x3 + (2 : Int32)).toNatClampNeg) (by rw [hscr]) ?_
                                                                  refine g_aload_n dL_law_1411 rfl rfl ?_
                                                                  refine e_iload_n dL_law_1412 rfl ?_
                                                                  refine e_iconst (v := (3 : Int32)) dL_law_1413 (by decide) ?_
                                                                  refine e_iadd dL_law_1414 ?_
                                                                  replace H := og H; obtain ⟨g795, H⟩ := H
                                                                  refine e_sca (ixb_y hLL.symm g795) dL_law_1415 ?_
                                                                  refine e_ci (y := scr (x3 + (3 : Int32)).toNatClampNeg) (by rw [hscr]) ?_
                                                                  refine g_aload_n dL_law_1416 rfl rfl ?_
                                                                  refine e_iload_n dL_law_1417 rfl ?_
                                                                  refine e_iconst (v := (4 : Int32)) dL_law_1418 (by decide) ?_
                                                                  refine e_iadd dL_law_1419 ?_
                                                                  replace H := og H; obtain ⟨g796, H⟩ := H
                                                                  refine e_sca (ixb_y hLL.symm g796) dL_law_1420 ?_
                                                                  refine e_ci (y := scr (x3 + (4 : Int32)).toNatClampNeg) (by rw [hscr]) ?_
                                                                  refine g_aload_n dL_law_1421 rfl rfl ?_
                                                                  refine e_iload_n dL_law_1422 rfl ?_
                                                                  refine e_iconst (v := (5 : Int32)) dL_law_1423 (by decide) ?_
                                                                  refine e_iadd dL_law_1424 ?_
                                                                  replace H := og H; obtain ⟨g797, H⟩ := H
                                                                  refine e_sca (ixb_y hLL.symm g797) dL_law_1425 ?_
                                                                  refine e_ci (y := scr (x3 + (5 : Int32)).toNatClampNeg) (by rw [hscr]) ?_
                                                                  replace H := og H; obtain ⟨g798, H⟩ := H
                                                                  subst g798
                                                                  replace H := og H; obtain ⟨g799, H⟩ := H
                                                                  have hY800 : LY TX h := g799
                                                                  replace H := ob H; obtain ⟨q801, c802, H⟩ := H
                                                                  refine v1 (hY800.t 0 rfl) (by decide) rfl rfl lmL_142 liX11_copy lvX11_X11_copy msX11_copy dL_law_1426 (t_X11_copy (d + 64) hY800 c802) rfl (Nat.le_of_ble_eq_true rfl) (Nat.le_refl _) ?_
                                                                  have e803 := p_X11_copy c802
                                                                  have hY804 := hY800.pr okX e803
                                                                  refine g_aload_n dL_law_1429 rfl rfl ?_
                                                                  refine g_aload_n dL_law_1430 rfl rfl ?_
                                                                  refine e_iload_n dL_law_1431 rfl ?_
                                                                  refine e_iconst (v := (1 : Int32)) dL_law_1432 (by decide) ?_
                                                                  refine e_iadd dL_law_1433 ?_
                                                                  replace H := og H; obtain ⟨g805, H⟩ := H
                                                                  refine e_sca (ixb_y hLL.symm g805) dL_law_1434 ?_
                                                                  refine e_ci (y := scr (x3 + (1 : Int32)).toNatClampNeg) (by rw [hscr]) ?_
                                                                  refine g_aload_n dL_law_1435 rfl rfl ?_
                                                                  refine e_iload_n dL_law_1436 rfl ?_
                                                                  refine e_iconst (v := (2 : Int32)) dL_law_1437 (by decide) ?_
                                                                  refine e_iadd dL_law_1438 ?_
                                                                  replace H := og H; obtain ⟨g806, H⟩ := H
                                                                  refine e_sca (ixb_y hLL.symm g806) dL_law_1439 ?_
                                                                  refine e_ci (y := scr (x3 + (2 : Int32)).toNatClampNeg) (by rw [hscr]) ?_
                                                                  refine g_aload_n dL_law_1440 rfl rfl ?_
                                                                  refine e_iload_n dL_law_1441 rfl ?_
                                                                  refine e_iconst (v := (3 : Int32)) dL_law_1442 (by decide) ?_
                                                                  refine e_iadd dL_law_1443 ?_
                                                                  replace H := og H; obtain ⟨g807, H⟩ := H
                                                                  refine e_sca (ixb_y hLL.symm g807) dL_law_1444 ?_
                                                                  refine e_ci (y := scr (x3 + (3 : Int32)).toNatClampNeg) (by rw [hscr]) ?_
                                                                  refine g_aload_n dL_law_1445 rfl rfl ?_
                                                                  refine e_iload_n dL_law_1446 rfl ?_
                                                                  refine e_iconst (v := (4 : Int32)) dL_law_1447 (by decide) ?_
                                                                  refine e_iadd dL_law_1448 ?_
                                                                  replace H := og H; obtain ⟨g808, H⟩ := H
                                                                  refine e_sca (ixb_y hLL.symm g808) dL_law_1449 ?_
                                                                  refine e_ci (y := scr (x3 + (4 : Int32)).toNatClampNeg) (by rw [hscr]) ?_
                                                                  refine g_aload_n dL_law_1450 rfl rfl ?_
                                                                  refine e_iload_n dL_law_1451 rfl ?_
                                                                  refine e_iconst (v := (5 : Int32)) dL_law_1452 (by decide) ?_
                                                                  refine e_iadd dL_law_1453 ?_
                                                                  replace H := og H; obtain ⟨g809, H⟩ := H
                                                                  refine e_sca (ixb_y hLL.symm g809) dL_law_1454 ?_
                                                                  refine e_ci (y := scr (x3 + (5 : Int32)).toNatClampNeg) (by rw [hscr]) ?_
                                                                  replace H := og H; obtain ⟨g810, H⟩ := H
                                                                  subst g810
                                                                  replace H := og H; obtain ⟨g811, H⟩ := H
                                                                  have hY812 : LY TM q801.2 := g811
                                                                  replace H := ob H; obtain ⟨q813, c814, H⟩ := H
                                                                  refine v1 (hY812.t 0 rfl) (by decide) rfl rfl lmL_145 liX12_copy lvX12_X12_copy msX12_copy dL_law_1455 (t_X12_copy (d + 64) hY812 c814) rfl (Nat.le_of_ble_eq_true rfl) (Nat.le_refl _) ?_
                                                                  have e815 := p_X12_copy c814
                                                                  have hY816 := hY804.pr okX e815
                                                                  have hY817 := hY812.pr okM e815
                                                                  refine e_icmp_eq (tgt := 1549) dL_law_1458 (by decide) (fun c818 => ?_) (fun c818 => ?_)
                                                                  · replace H := ot c818 H
                                                                    refine e_iinc dL_law_1549 rfl (ii_ (by decide : Int32.ofInt (6) = (6 : Int32))) (Nat.le_of_ble_eq_true rfl) rfl rfl ?_
                                                                    refine e_goto (tgt := 18) dL_law_1552 (by decide) ?_
                                                                    exact e_wk (lk1 (lk1 (lk1 (lk1 lkn)))) (ih H kR kE)
                                                                  · replace H := of_ c818 H
                                                                    refine e_iconst (v := (0 : Int32)) dL_law_1461 (by decide) ?_
                                                                    obtain rfl := Option.some.inj H
                                                                    obtain ⟨eR, eH⟩ := kR _ rfl
                                                                    exact z_iret rfl rfl dL_law_1462 eR eH
                                                                · replace H := of_ k751 H
                                                                  by_cases k752 : ((scr x3.toNatClampNeg) &&& (31 : Int32)) = (30 : Int32)
                                                                  · replace H := ot k752 H
                                                                    refine e_tableIn (off := 1430) (tgt := 1463) dL_law_33 (by rw [k752]; decide) (by rw [k752]; decide) (by rw [k752]; rfl) (by decide) ?_
                                                                    refine g_aload_n dL_law_1463 rfl rfl ?_
                                                                    refine g_aload_n dL_law_1464 rfl rfl ?_
                                                                    refine e_iload_n dL_law_1465 rfl ?_
                                                                    refine e_iconst (v := (1 : Int32)) dL_law_1466 (by decide) ?_
                                                                    refine e_iadd dL_law_1467 ?_
                                                                    replace H := og H; obtain ⟨g769, H⟩ := H
                                                                    refine e_sca (ixb_y hLL.symm g769) dL_law_1468 ?_
                                                                    refine e_ci (y := scr (x3 + (1 : Int32)).toNatClampNeg) (by rw [hscr]) ?_
                                                                    refine g_aload_n dL_law_1469 rfl rfl ?_
                                                                    refine e_iload_n dL_law_1470 rfl ?_
                                                                    refine e_iconst (v := (2 : Int32)) dL_law_1471 (by decide) ?_
                                                                    refine e_iadd dL_law_1472 ?_
                                                                    replace H := og H; obtain ⟨g770, H⟩ := H
                                                                    refine e_sca (ixb_y hLL.symm g770) dL_law_1473 ?_
                                                                    refine e_ci (y := scr (x3 + (2 : Int32)).toNatClampNeg) (by rw [hscr]) ?_
                                                                    refine g_aload_n dL_law_1474 rfl rfl ?_
                                                                    refine e_iload_n dL_law_1475 rfl ?_
                                                                    refine e_iconst (v := (3 : Int32)) dL_law_1476 (by decide) ?_
                                                                    refine e_iadd dL_law_1477 ?_
                                                                    replace H := og H; obtain ⟨g771, H⟩ := H
                                                                    refine e_sca (ixb_y hLL.symm g771) dL_law_1478 ?_
                                                                    refine e_ci (y := scr (x3 + (3 : Int32)).toNatClampNeg) (by rw [hscr]) ?_
                                                                    refine g_aload_n dL_law_1479 rfl rfl ?_
                                                                    refine e_iload_n dL_law_1480 rfl ?_
                                                                    refine e_iconst (v := (4 : Int32)) dL_law_1481 (by decide) ?_
                                                                    refine e_iadd dL_law_1482 ?_
                                                                    replace H := og H; obtain ⟨g772, H⟩ := H
                                                                    refine e_sca (ixb_y hLL.symm g772) dL_law_1483 ?_
                                                                    refine e_ci (y := scr (x3 + (4 : Int32)).toNatClampNeg) (by rw [hscr]) ?_
                                                                    replace H := og H; obtain ⟨g773, H⟩ := H
                                                                    subst g773
                                                                    replace H := og H; obtain ⟨g774, H⟩ := H
                                                                    have hY775 : LY TX h := g774
                                                                    replace H := ob H; obtain ⟨q776, c777, H⟩ := H
                                                                    refine v1 (hY775.t 0 rfl) (by decide) rfl rfl lmL_146 liX11_tries lvX11_X11_tries msX11_tries dL_law_1484 (t_X11_tries (d + 60) hY775 c777) rfl (Nat.le_of_ble_eq_true rfl) (Nat.le_refl _) ?_
                                                                    have e778 := p_X11_tries c777
                                                                    have hY779 := hY775.pr okX e778
                                                                    refine g_aload_n dL_law_1487 rfl rfl ?_
                                                                    refine g_aload_n dL_law_1488 rfl rfl ?_
                                                                    refine e_iload_n dL_law_1489 rfl ?_
                                                                    refine e_iconst (v := (1 : Int32)) dL_law_1490 (by decide) ?_
                                                                    refine e_iadd dL_law_1491 ?_
                                                                    replace H := og H; obtain ⟨g780, H⟩ := H
                                                                    refine e_sca (ixb_y hLL.symm g780) dL_law_1492 ?_
                                                                    refine e_ci (y := scr (x3 + (1 : Int32)).toNatClampNeg) (by rw [hscr]) ?_
                                                                    refine g_aload_n dL_law_1493 rfl rfl ?_
                                                                    refine e_iload_n dL_law_1494 rfl ?_
                                                                    refine e_iconst (v := (2 : Int32)) dL_law_1495 (by decide) ?_
                                                                    refine e_iadd dL_law_1496 ?_
                                                                    replace H := og H; obtain ⟨g781, H⟩ := H
                                                                    refine e_sca (ixb_y hLL.symm g781) dL_law_1497 ?_
                                                                    refine e_ci (y := scr (x3 + (2 : Int32)).toNatClampNeg) (by rw [hscr]) ?_
                                                                    refine g_aload_n dL_law_1498 rfl rfl ?_
                                                                    refine e_iload_n dL_law_1499 rfl ?_
                                                                    refine e_iconst (v := (3 : Int32)) dL_law_1500 (by decide) ?_
                                                                    refine e_iadd dL_law_1501 ?_
                                                                    replace H := og H; obtain ⟨g782, H⟩ := H
                                                                    refine e_sca (ixb_y hLL.symm g782) dL_law_1502 ?_
                                                                    refine e_ci (y := scr (x3 + (3 : Int32)).toNatClampNeg) (by rw [hscr]) ?_
                                                                    refine g_aload_n dL_law_1503 rfl rfl ?_
                                                                    refine e_iload_n dL_law_1504 rfl ?_
                                                                    refine e_iconst (v := (4 : Int32)) dL_law_1505 (by decide) ?_
                                                                    refine e_iadd dL_law_1506 ?_
                                                                    replace H := og H; obtain ⟨g783, H⟩ := H
                                                                    refine e_sca (ixb_y hLL.symm g783) dL_law_1507 ?_
                                                                    refine e_ci (y := scr (x3 + (4 : Int32)).toNatClampNeg) (by rw [hscr]) ?_
                                                                    replace H := og H; obtain ⟨g784, H⟩ := H
                                                                    subst g784
                                                                    replace H := og H; obtain ⟨g785, H⟩ := H
                                                                    have hY786 : LY TM q776.2 := g785
                                                                    replace H := ob H; obtain ⟨q787, c788, H⟩ := H
                                                                    refine v1 (hY786.t 0 rfl) (by decide) rfl rfl lmL_149 liX12_tries lvX12_X12_tries msX12_tries dL_law_1508 (t_X12_tries (d + 63) hY786 c788) rfl (Nat.le_of_ble_eq_true rfl) (Nat.le_refl _) ?_
                                                                    have e789 := p_X12_tries c788
                                                                    have hY790 := hY779.pr okX e789
                                                                    have hY791 := hY786.pr okM e789
                                                                    refine e_icmp_eq (tgt := 1549) dL_law_1511 (by decide) (fun c792 => ?_) (fun c792 => ?_)
                                                                    · replace H := ot c792 H
                                                                      refine e_iinc dL_law_1549 rfl (ii_ (by decide : Int32.ofInt (6) = (6 : Int32))) (Nat.le_of_ble_eq_true rfl) rfl rfl ?_
                                                                      refine e_goto (tgt := 18) dL_law_1552 (by decide) ?_
                                                                      exact e_wk (lk1 (lk1 (lk1 (lk1 lkn)))) (ih H kR kE)
                                                                    · replace H := of_ c792 H
                                                                      refine e_iconst (v := (0 : Int32)) dL_law_1514 (by decide) ?_
                                                                      obtain rfl := Option.some.inj H
                                                                      obtain ⟨eR, eH⟩ := kR _ rfl
                                                                      exact z_iret rfl rfl dL_law_1515 eR eH
                                                                  · replace H := of_ k752 H
                                                                    by_cases k753 : ((scr x3.toNatClampNeg) &&& (31 : Int32)) = (31 : Int32)
                                                                    · replace H := ot k753 H
                                                                      refine e_tableIn (off := 1483) (tgt := 1516) dL_law_33 (by rw [k753]; decide) (by rw [k753]; decide) (by rw [k753]; rfl) (by decide) ?_
                                                                      refine g_aload_n dL_law_1516 rfl rfl ?_
                                                                      refine g_aload_n dL_law_1517 rfl rfl ?_
                                                                      refine e_iload_n dL_law_1518 rfl ?_
                                                                      refine e_iconst (v := (1 : Int32)) dL_law_1519 (by decide) ?_
                                                                      refine e_iadd dL_law_1520 ?_
                                                                      replace H := og H; obtain ⟨g754, H⟩ := H
                                                                      refine e_sca (ixb_y hLL.symm g754) dL_law_1521 ?_
                                                                      refine e_ci (y := scr (x3 + (1 : Int32)).toNatClampNeg) (by rw [hscr]) ?_
                                                                      refine g_aload_n dL_law_1522 rfl rfl ?_
                                                                      refine e_iload_n dL_law_1523 rfl ?_
                                                                      refine e_iconst (v := (2 : Int32)) dL_law_1524 (by decide) ?_
                                                                      refine e_iadd dL_law_1525 ?_
                                                                      replace H := og H; obtain ⟨g755, H⟩ := H
                                                                      refine e_sca (ixb_y hLL.symm g755) dL_law_1526 ?_
                                                                      refine e_ci (y := scr (x3 + (2 : Int32)).toNatClampNeg) (by rw [hscr]) ?_
                                                                      replace H := og H; obtain ⟨g756, H⟩ := H
                                                                      subst g756
                                                                      replace H := og H; obtain ⟨g757, H⟩ := H
                                                                      have hY758 : LY TX h := g757
                                                                      replace H := ob H; obtain ⟨q759, c760, H⟩ := H
                                                                      refine v1 (hY758.t 0 rfl) (by decide) rfl rfl lmL_150 liX11_taken lvX11_X11_taken msX11_taken dL_law_1527 (t_X11_taken (d + 62) hY758 c760) rfl (Nat.le_of_ble_eq_true rfl) (Nat.le_refl _) ?_
                                                                      refine g_aload_n dL_law_1530 rfl rfl ?_
                                                                      refine g_aload_n dL_law_1531 rfl rfl ?_
                                                                      refine e_iload_n dL_law_1532 rfl ?_
                                                                      refine e_iconst (v := (1 : Int32)) dL_law_1533 (by decide) ?_
                                                                      refine e_iadd dL_law_1534 ?_
                                                                      replace H := og H; obtain ⟨g761, H⟩ := H
                                                                      refine e_sca (ixb_y hLL.symm g761) dL_law_1535 ?_
                                                                      refine e_ci (y := scr (x3 + (1 : Int32)).toNatClampNeg) (by rw [hscr]) ?_
                                                                      refine g_aload_n dL_law_1536 rfl rfl ?_
                                                                      refine e_iload_n dL_law_1537 rfl ?_
                                                                      refine e_iconst (v := (2 : Int32)) dL_law_1538 (by decide) ?_
                                                                      refine e_iadd dL_law_1539 ?_
                                                                      replace H := og H; obtain ⟨g762, H⟩ := H
                                                                      refine e_sca (ixb_y hLL.symm g762) dL_law_1540 ?_
                                                                      refine e_ci (y := scr (x3 + (2 : Int32)).toNatClampNeg) (by rw [hscr]) ?_
                                                                      replace H := og H; obtain ⟨g763, H⟩ := H
                                                                      subst g763
                                                                      replace H := og H; obtain ⟨g764, H⟩ := H
                                                                      have hY765 : LY TM h := g764
                                                                      replace H := ob H; obtain ⟨q766, c767, H⟩ := H
                                                                      refine v1 (hY765.t 0 rfl) (by decide) rfl rfl lmL_153 liX12_taken lvX12_X12_taken msX12_taken dL_law_1541 (t_X12_taken (d + 64) hY765 c767) rfl (Nat.le_of_ble_eq_true rfl) (Nat.le_refl _) ?_
                                                                      refine e_icmp_eq (tgt := 1549) dL_law_1544 (by decide) (fun c768 => ?_) (fun c768 => ?_)
                                                                      · replace H := ot c768 H
                                                                        refine e_iinc dL_law_1549 rfl (ii_ (by decide : Int32.ofInt (6) = (6 : Int32))) (Nat.le_of_ble_eq_true rfl) rfl rfl ?_
                                                                        refine e_goto (tgt := 18) dL_law_1552 (by decide) ?_
                                                                        exact e_wk (lk1 (lk1 (lk1 (lk1 lkn)))) (ih H kR kE)
                                                                      · replace H := of_ c768 H
                                                                        refine e_iconst (v := (0 : Int32)) dL_law_1547 (by decide) ?_
                                                                        obtain rfl := Option.some.inj H
                                                                        obtain ⟨eR, eH⟩ := kR _ rfl
                                                                        exact z_iret rfl rfl dL_law_1548 eR eH
                                                                    · replace H := of_ k753 H
                                                                      refine e_tableOut (tgt := 1549) dL_law_33 (by have q0 : ((scr x3.toNatClampNeg) &&& (31 : Int32)).toInt ≠ 0 := i32_ne k722; have q1 : ((scr x3.toNatClampNeg) &&& (31 : Int32)).toInt ≠ 1 := i32_ne k723; have q2 : ((scr x3.toNatClampNeg) &&& (31 : Int32)).toInt ≠ 2 := i32_ne k724; have q3 : ((scr x3.toNatClampNeg) &&& (31 : Int32)).toInt ≠ 3 := i32_ne k725; have q4 : ((scr x3.toNatClampNeg) &&& (31 : Int32)).toInt ≠ 4 := i32_ne k726; have q5 : ((scr x3.toNatClampNeg) &&& (31 : Int32)).toInt ≠ 5 := i32_ne k727; have q6 : ((scr x3.toNatClampNeg) &&& (31 : Int32)).toInt ≠ 6 := i32_ne k728; have q7 : ((scr x3.toNatClampNeg) &&& (31 : Int32)).toInt ≠ 7 := i32_ne k729; have q8 : ((scr x3.toNatClampNeg) &&& (31 : Int32)).toInt ≠ 8 := i32_ne k730; have q9 : ((scr x3.toNatClampNeg) &&& (31 : Int32)).toInt ≠ 9 := i32_ne k731; have q10 : ((scr x3.toNatClampNeg) &&& (31 : Int32)).toInt ≠ 10 := i32_ne k732; have q11 : ((scr x3.toNatClampNeg) &&& (31 : Int32)).toInt ≠ 11 := i32_ne k733; have q12 : ((scr x3.toNatClampNeg) &&& (31 : Int32)).toInt ≠ 12 := i32_ne k734; have q13 : ((scr x3.toNatClampNeg) &&& (31 : Int32)).toInt ≠ 13 := i32_ne k735; have q14 : ((scr x3.toNatClampNeg) &&& (31 : Int32)).toInt ≠ 14 := i32_ne k736; have q15 : ((scr x3.toNatClampNeg) &&& (31 : Int32)).toInt ≠ 15 := i32_ne k737; have q16 : ((scr x3.toNatClampNeg) &&& (31 : Int32)).toInt ≠ 16 := i32_ne k738; have q17 : ((scr x3.toNatClampNeg) &&& (31 : Int32)).toInt ≠ 17 := i32_ne k739; have q18 : ((scr x3.toNatClampNeg) &&& (31 : Int32)).toInt ≠ 18 := i32_ne k740; have q19 : ((scr x3.toNatClampNeg) &&& (31 : Int32)).toInt ≠ 19 := i32_ne k741; have q20 : ((scr x3.toNatClampNeg) &&& (31 : Int32)).toInt ≠ 20 := i32_ne k742; have q21 : ((scr x3.toNatClampNeg) &&& (31 : Int32)).toInt ≠ 21 := i32_ne k743; have q22 : ((scr x3.toNatClampNeg) &&& (31 : Int32)).toInt ≠ 22 := i32_ne k744; have q23 : ((scr x3.toNatClampNeg) &&& (31 : Int32)).toInt ≠ 23 := i32_ne k745; have q24 : ((scr x3.toNatClampNeg) &&& (31 : Int32)).toInt ≠ 24 := i32_ne k746; have q25 : ((scr x3.toNatClampNeg) &&& (31 : Int32)).toInt ≠ 25 := i32_ne k747; have q26 : ((scr x3.toNatClampNeg) &&& (31 : Int32)).toInt ≠ 26 := i32_ne k748; have q27 : ((scr x3.toNatClampNeg) &&& (31 : Int32)).toInt ≠ 27 := i32_ne k749; have q28 : ((scr x3.toNatClampNeg) &&& (31 : Int32)).toInt ≠ 28 := i32_ne k750; have q29 : ((scr x3.toNatClampNeg) &&& (31 : Int32)).toInt ≠ 29 := i32_ne k751; have q30 : ((scr x3.toNatClampNeg) &&& (31 : Int32)).toInt ≠ 30 := i32_ne k752; have q31 : ((scr x3.toNatClampNeg) &&& (31 : Int32)).toInt ≠ 31 := i32_ne k753; omega) (by decide) ?_
                                                                      refine e_iinc dL_law_1549 rfl (ii_ (by decide : Int32.ofInt (6) = (6 : Int32))) (Nat.le_of_ble_eq_true rfl) rfl rfl ?_
                                                                      refine e_goto (tgt := 18) dL_law_1552 (by decide) ?_
                                                                      exact e_wk (lk1 (lk1 (lk1 (lk1 lkn)))) (ih H kR kE)
def f_L_law (scr : Nat → Int32) (L : Nat)  (h : HS) : Option (Bool × HS) := (if hT h (hN h) = 0 then (bh (hNew h 13 0 20) (fun h3 => (Option.bind (f_X11_init (hN h) h3) (fun q6 => (if hT q6 (hN q6) = 0 then (bh (hNew q6 14 0 57) (fun h13 => (Option.bind (f_X12_init (hN q6) h13) (fun q17 => (Option.bind (l_L_law_18 scr L (hN h) (hN q6) 1000 (0 : Int32) q17) (fun q1418 => (Sum.elim (fun v => some v) (fun e1420 => (some (true, e1420))) q1418))))))) else none))))) else none)
set_option maxHeartbeats 4000000 in
set_option maxRecDepth 20000 in
theorem t_L_law {G : GE} (d : Nat) {scr : Nat → Int32} {L : Nat} (hscr : scr = fun j => nI (G.2.1 (101 + j))) (hLL : L = G.2.1 100) {h : HS} {q : (Bool × HS)} (H : f_L_law scr L h = some q) : En G (d + 67) miL_law 0 [.ref 28, dum, dum, dum] [] h (some (.int (b2i q.1))) q.2 := by
  unfold f_L_law at H
  replace H := og H; obtain ⟨g1, H⟩ := H
  refine e_new (ci := 12) rfl (by decide) lcL_7 lxX11 lnX11 dL_law_0 ?_
  have e2 := Pr.nw (h := h) (kd := 13) (ln := 0) (ns := 20) Pr.rf g1
  replace H := obh H; obtain ⟨h3, e4, H⟩ := H
  refine e_hq e4 ?_
  have f5 := kT e4 hT_new
  refine e_dup dL_law_3 rfl ?_
  replace H := ob H; obtain ⟨q6, c7, H⟩ := H
  refine i0 rfl lmL_9 liX11_init msX11_init rfl dL_law_4 (t_X11_init (d + 1) c7) rfl (Nat.le_of_ble_eq_true rfl) (Nat.le_refl _) ?_
  have e8 := p_X11_init c7
  have f9 := e8.k f5 (by decide)
  refine g_astore_n dL_law_7 (Nat.le_of_ble_eq_true rfl) rfl rfl rfl ?_
  replace H := og H; obtain ⟨g10, H⟩ := H
  refine e_new (ci := 13) rfl (by decide) lcL_10 lxX12 lnX12 dL_law_8 ?_
  have e11 := Pr.nw (h := q6) (kd := 14) (ln := 0) (ns := 57) Pr.rf g10
  have f12 := e11.k f9 (by decide)
  replace H := obh H; obtain ⟨h13, e14, H⟩ := H
  refine e_hq e14 ?_
  have f15 := kT e14 f12
  have f16 := kT e14 hT_new
  refine e_dup dL_law_11 rfl ?_
  replace H := ob H; obtain ⟨q17, c18, H⟩ := H
  refine i0 rfl lmL_12 liX12_init msX12_init rfl dL_law_12 (t_X12_init (d + 65) c18) rfl (Nat.le_of_ble_eq_true rfl) (Nat.le_refl _) ?_
  have e19 := p_X12_init c18
  have f20 := e19.k f15 (by decide)
  have f21 := e19.k f16 (by decide)
  refine g_astore_n dL_law_15 (Nat.le_of_ble_eq_true rfl) rfl rfl rfl ?_
  refine e_iconst (v := (0 : Int32)) dL_law_16 (by decide) ?_
  refine e_istore_n dL_law_17 (Nat.le_of_ble_eq_true rfl) rfl rfl ?_
  replace H := ob H; obtain ⟨q1418, c1419, H⟩ := H
  refine e_wk (lk1 (lk1 (lk1 (lk1 lkn)))) (w_L_law_18 d hscr hLL 1000 c1419 (fun v1424 E0 => ?_) (fun e1420 E0 => ?_))
  · subst E0; replace H := oSl H; obtain rfl := Option.some.inj H
    exact ⟨rfl, rfl⟩
  · subst E0; replace H := oSr H
    have e1421 : Pr q17 e1420 := p_L_law_18 1000 c1419
    have f1422 := e1421.k f20 (by decide)
    have f1423 := e1421.k f21 (by decide)
    refine e_iconst (v := (1 : Int32)) dL_law_1555 (by decide) ?_
    obtain rfl := Option.some.inj H
    exact z_iret rfl rfl dL_law_1556 rfl rfl
