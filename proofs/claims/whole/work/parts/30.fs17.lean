-- X12_tries
def l_X12_tries_75 (y1 : Int32) (y3 : Int32) (y4 : Int32)  : Nat → Int32 → Int32 → HS → Option ((Int32 × HS) ⊕ (Int32 × HS))
  | 0, _, _, _ => none
  | n + 1, x5, x6, h => (if y4 ≤ x6 then (some (Sum.inr (x5, h))) else (if y3 < 0 then (some (Sum.inl ((-12 : Int32), h))) else (if ixb y1 4 = true then (if y3 ≤ (((hI h 87 y1.toNatClampNeg) - ((4 : Int32) * x6)) - (4 : Int32)) then (if ixb ((((40 : Int32) * y1) + y3) + ((4 : Int32) * x6)) 160 = true then (if ixb (((((40 : Int32) * y1) + y3) + ((4 : Int32) * x6)) + (1 : Int32)) 160 = true then (if ixb (((((40 : Int32) * y1) + y3) + ((4 : Int32) * x6)) + (2 : Int32)) 160 = true then (if ixb (((((40 : Int32) * y1) + y3) + ((4 : Int32) * x6)) + (3 : Int32)) 160 = true then (Option.bind (f_X12_shown (hI h 88 ((((40 : Int32) * y1) + y3) + ((4 : Int32) * x6)).toNatClampNeg) (hI h 88 (((((40 : Int32) * y1) + y3) + ((4 : Int32) * x6)) + (1 : Int32)).toNatClampNeg) (hI h 88 (((((40 : Int32) * y1) + y3) + ((4 : Int32) * x6)) + (2 : Int32)).toNatClampNeg) (hI h 88 (((((40 : Int32) * y1) + y3) + ((4 : Int32) * x6)) + (3 : Int32)).toNatClampNeg) h) (fun q35 => (if q35.1 < 0 then (l_X12_tries_75 y1 y3 y4 n (x5 + (0 : Int32)) (x6 + (1 : Int32)) q35.2) else (l_X12_tries_75 y1 y3 y4 n (x5 + (1 : Int32)) (x6 + (1 : Int32)) q35.2)))) else none) else none) else none) else none) else (some (Sum.inl ((-12 : Int32), h)))) else none)))
set_option maxHeartbeats 4000000 in
set_option maxRecDepth 20000 in
theorem p_X12_tries_75 {y1 : Int32} {y3 : Int32} {y4 : Int32} : ∀ (n : Nat) {x5 : Int32} {x6 : Int32} {h : HS} {q : ((Int32 × HS) ⊕ (Int32 × HS))}, l_X12_tries_75 y1 y3 y4 n x5 x6 h = some q → Pr h (Sum.elim (fun v => v.2) (fun e => e.2) q) := by
  intro n
  induction n with
  | zero => intro x5 x6 h q H; exact nz H
  | succ n ih =>
    intro x5 x6 h q H
    unfold l_X12_tries_75 at H
    replace H := oi H; obtain ⟨c27, H⟩ | ⟨c27, H⟩ := H
    · obtain rfl := Option.some.inj H
      exact Pr.rf
    · replace H := oi H; obtain ⟨c28, H⟩ | ⟨c28, H⟩ := H
      · obtain rfl := Option.some.inj H
        exact Pr.rf
      · replace H := og H; obtain ⟨g29, H⟩ := H
        replace H := oi H; obtain ⟨c30, H⟩ | ⟨c30, H⟩ := H
        · replace H := og H; obtain ⟨g31, H⟩ := H
          replace H := og H; obtain ⟨g32, H⟩ := H
          replace H := og H; obtain ⟨g33, H⟩ := H
          replace H := og H; obtain ⟨g34, H⟩ := H
          replace H := ob H; obtain ⟨q35, c36, H⟩ := H
          have e37 := p_X12_shown c36
          replace H := oi H; obtain ⟨c39, H⟩ | ⟨c39, H⟩ := H
          · exact e37.tr (ih H)
          · exact e37.tr (ih H)
        · obtain rfl := Option.some.inj H
          exact Pr.rf
set_option maxHeartbeats 4000000 in
set_option maxRecDepth 20000 in
theorem w_X12_tries_75 {G : GE} (d : Nat) {y1 : Int32} {y3 : Int32} {y4 : Int32} {r : Option Value} {h' : HS}  : ∀ (n : Nat) {x5 : Int32} {x6 : Int32} {h : HS} {q : ((Int32 × HS) ⊕ (Int32 × HS))}, LY TM h → l_X12_tries_75 y1 y3 y4 n x5 x6 h = some q → (∀ v, q = Sum.inl v → r = some (.int v.1) ∧ h' = v.2) → (∀ e, q = Sum.inr e → En G (d + 3) miX12_tries 176 [dum, dum, dum, dum, dum, .int e.1, dum, dum] [] e.2 r h') → En G (d + 3) miX12_tries 75 [.ref 60, .int y1, dum, .int y3, .int y4, .int x5, .int x6, dum] [] h r h' := by
  intro n
  induction n with
  | zero => intro x5 x6 h q hYTM H kR kE; exact nz H
  | succ n ih =>
    intro x5 x6 h q hYTM H kR kE
    unfold l_X12_tries_75 at H
    refine e_iload dX12_tries_75 rfl ?_
    refine e_iload dX12_tries_77 rfl ?_
    refine e_icmp_ge (tgt := 176) dX12_tries_79 (by decide) (fun c27 => ?_) (fun c27 => ?_)
    · replace H := ot c27 H
      obtain rfl := Option.some.inj H
      exact e_wk (lk0 (lk0 (lk1 (lk0 (lk0 (lk1 (lk0 (lk1 lkn)))))))) (kE _ rfl)
    · replace H := of_ c27 H
      refine e_iload_n dX12_tries_82 rfl ?_
      refine e_if_lt (tgt := 103) dX12_tries_83 (by decide) (fun c28 => ?_) (fun c28 => ?_)
      · replace H := ot c28 H
        refine e_bipush (v := (-12 : Int32)) dX12_tries_103 (by decide) ?_
        obtain rfl := Option.some.inj H
        obtain ⟨eR, eH⟩ := kR _ rfl
        exact z_iret rfl rfl dX12_tries_105 eR eH
      · replace H := of_ c28 H
        refine e_iload_n dX12_tries_86 rfl ?_
        refine g_aload_n dX12_tries_87 rfl rfl ?_
        refine e_getR (hYTM.t 0 rfl) flX12_93_13 dX12_tries_88 rfl (hYTM.r 26 rfl) ?_
        refine e_iload_n dX12_tries_91 rfl ?_
        replace H := og H; obtain ⟨g29, H⟩ := H
        refine e_iald (hYTM.t 27 rfl) (ixb_y (hYTM.n 27 rfl) g29) dX12_tries_92 ?_
        refine e_iconst (v := (4 : Int32)) dX12_tries_93 (by decide) ?_
        refine e_iload dX12_tries_94 rfl ?_
        refine e_imul dX12_tries_96 ?_
        refine e_isub dX12_tries_97 ?_
        refine e_iconst (v := (4 : Int32)) dX12_tries_98 (by decide) ?_
        refine e_isub dX12_tries_99 ?_
        refine e_icmp_le (tgt := 106) dX12_tries_100 (by decide) (fun c30 => ?_) (fun c30 => ?_)
        · replace H := ot c30 H
          refine e_bipush (v := (40 : Int32)) dX12_tries_106 (by decide) ?_
          refine e_iload_n dX12_tries_108 rfl ?_
          refine e_imul dX12_tries_109 ?_
          refine e_iload_n dX12_tries_110 rfl ?_
          refine e_iadd dX12_tries_111 ?_
          refine e_iconst (v := (4 : Int32)) dX12_tries_112 (by decide) ?_
          refine e_iload dX12_tries_113 rfl ?_
          refine e_imul dX12_tries_115 ?_
          refine e_iadd dX12_tries_116 ?_
          refine e_istore dX12_tries_117 (Nat.le_of_ble_eq_true rfl) rfl rfl ?_
          refine e_iload dX12_tries_119 rfl ?_
          refine g_aload_n dX12_tries_121 rfl rfl ?_
          refine g_aload_n dX12_tries_122 rfl rfl ?_
          refine e_getR (hYTM.t 0 rfl) flX12_96_13 dX12_tries_123 rfl (hYTM.r 27 rfl) ?_
          refine e_iload dX12_tries_126 rfl ?_
          replace H := og H; obtain ⟨g31, H⟩ := H
          refine e_iald (hYTM.t 28 rfl) (ixb_y (hYTM.n 28 rfl) g31) dX12_tries_128 ?_
          refine g_aload_n dX12_tries_129 rfl rfl ?_
          refine e_getR (hYTM.t 0 rfl) flX12_96_13 dX12_tries_130 rfl (hYTM.r 27 rfl) ?_
          refine e_iload dX12_tries_133 rfl ?_
          refine e_iconst (v := (1 : Int32)) dX12_tries_135 (by decide) ?_
          refine e_iadd dX12_tries_136 ?_
          replace H := og H; obtain ⟨g32, H⟩ := H
          refine e_iald (hYTM.t 28 rfl) (ixb_y (hYTM.n 28 rfl) g32) dX12_tries_137 ?_
          refine g_aload_n dX12_tries_138 rfl rfl ?_
          refine e_getR (hYTM.t 0 rfl) flX12_96_13 dX12_tries_139 rfl (hYTM.r 27 rfl) ?_
          refine e_iload dX12_tries_142 rfl ?_
          refine e_iconst (v := (2 : Int32)) dX12_tries_144 (by decide) ?_
          refine e_iadd dX12_tries_145 ?_
          replace H := og H; obtain ⟨g33, H⟩ := H
          refine e_iald (hYTM.t 28 rfl) (ixb_y (hYTM.n 28 rfl) g33) dX12_tries_146 ?_
          refine g_aload_n dX12_tries_147 rfl rfl ?_
          refine e_getR (hYTM.t 0 rfl) flX12_96_13 dX12_tries_148 rfl (hYTM.r 27 rfl) ?_
          refine e_iload dX12_tries_151 rfl ?_
          refine e_iconst (v := (3 : Int32)) dX12_tries_153 (by decide) ?_
          refine e_iadd dX12_tries_154 ?_
          replace H := og H; obtain ⟨g34, H⟩ := H
          refine e_iald (hYTM.t 28 rfl) (ixb_y (hYTM.n 28 rfl) g34) dX12_tries_155 ?_
          replace H := ob H; obtain ⟨q35, c36, H⟩ := H
          refine v1 (hYTM.t 0 rfl) (by decide) rfl rfl lmX12_447 liX12_shown lvX12_X12_shown msX12_shown dX12_tries_156 (t_X12_shown (d + 0) hYTM c36) rfl (Nat.le_of_ble_eq_true rfl) (Nat.le_refl _) ?_
          have e37 := p_X12_shown c36
          have hY38 := hYTM.pr okM e37
          refine e_if_lt (tgt := 166) dX12_tries_159 (by decide) (fun c39 => ?_) (fun c39 => ?_)
          · replace H := ot c39 H
            refine e_iconst (v := (0 : Int32)) dX12_tries_166 (by decide) ?_
            refine e_iadd dX12_tries_167 ?_
            refine e_istore dX12_tries_168 (Nat.le_of_ble_eq_true rfl) rfl rfl ?_
            refine e_iinc dX12_tries_170 rfl (ii_ (by decide : Int32.ofInt (1) = (1 : Int32))) (Nat.le_of_ble_eq_true rfl) rfl rfl ?_
            refine e_goto (tgt := 75) dX12_tries_173 (by decide) ?_
            exact e_wk (lk1 (lk1 (lk1 (lk1 (lk1 (lk1 (lk1 (lk0 lkn)))))))) (ih hY38 H kR kE)
          · replace H := of_ c39 H
            refine e_iconst (v := (1 : Int32)) dX12_tries_162 (by decide) ?_
            refine e_goto (tgt := 167) dX12_tries_163 (by decide) ?_
            refine e_iadd dX12_tries_167 ?_
            refine e_istore dX12_tries_168 (Nat.le_of_ble_eq_true rfl) rfl rfl ?_
            refine e_iinc dX12_tries_170 rfl (ii_ (by decide : Int32.ofInt (1) = (1 : Int32))) (Nat.le_of_ble_eq_true rfl) rfl rfl ?_
            refine e_goto (tgt := 75) dX12_tries_173 (by decide) ?_
            exact e_wk (lk1 (lk1 (lk1 (lk1 (lk1 (lk1 (lk1 (lk0 lkn)))))))) (ih hY38 H kR kE)
        · replace H := of_ c30 H
          refine e_bipush (v := (-12 : Int32)) dX12_tries_103 (by decide) ?_
          obtain rfl := Option.some.inj H
          obtain ⟨eR, eH⟩ := kR _ rfl
          exact z_iret rfl rfl dX12_tries_105 eR eH
def f_X12_tries (p1 : Int32) (p2 : Int32) (p3 : Int32) (p4 : Int32) (h : HS) : Option (Int32 × HS) := (Option.bind (f_X12_isSheet p1) (fun q1 => (if q1 = true then (Option.bind (f_X12_in p2.toInt64 (0 : Int64) (2 : Int64)) (fun q4 => (if q4 = true then (Option.bind (f_X12_in p4.toInt64 (0 : Int64) (10 : Int64)) (fun q7 => (if q7 = true then (if ixb p1 4 = true then (if (hI h 85 p1.toNatClampNeg) = 0 then (if ixb p1 4 = true then (if (hI h 85 p1.toNatClampNeg) = 0 then (some ((-11 : Int32), h)) else (Option.bind (l_X12_tries_75 p1 p3 p4 1000 (0 : Int32) (0 : Int32) h) (fun q40 => (Sum.elim (fun v => some v) (fun e42 => (some (e42.1, e42.2))) q40)))) else none) else (if ixb p1 4 = true then (if (hI h 86 p1.toNatClampNeg) = p2 then (if ixb p1 4 = true then (if (hI h 85 p1.toNatClampNeg) = 0 then (some ((-11 : Int32), h)) else (Option.bind (l_X12_tries_75 p1 p3 p4 1000 (0 : Int32) (0 : Int32) h) (fun q50 => (Sum.elim (fun v => some v) (fun e52 => (some (e52.1, e52.2))) q50)))) else none) else (some ((-13 : Int32), h))) else none)) else none) else (some ((-2 : Int32), h))))) else (some ((-2 : Int32), h))))) else (some ((-2 : Int32), h)))))
set_option maxHeartbeats 4000000 in
set_option maxRecDepth 20000 in
theorem p_X12_tries {p1 : Int32} {p2 : Int32} {p3 : Int32} {p4 : Int32} {h : HS} {q : (Int32 × HS)} (H : f_X12_tries p1 p2 p3 p4 h = some q) : Pr h q.2 := by
  unfold f_X12_tries at H
  replace H := ob H; obtain ⟨q1, c2, H⟩ := H
  replace H := oi H; obtain ⟨c3, H⟩ | ⟨c3, H⟩ := H
  · replace H := ob H; obtain ⟨q4, c5, H⟩ := H
    replace H := oi H; obtain ⟨c6, H⟩ | ⟨c6, H⟩ := H
    · replace H := ob H; obtain ⟨q7, c8, H⟩ := H
      replace H := oi H; obtain ⟨c9, H⟩ | ⟨c9, H⟩ := H
      · replace H := og H; obtain ⟨g10, H⟩ := H
        replace H := oi H; obtain ⟨c11, H⟩ | ⟨c11, H⟩ := H
        · replace H := og H; obtain ⟨g12, H⟩ := H
          replace H := oi H; obtain ⟨c13, H⟩ | ⟨c13, H⟩ := H
          · obtain rfl := Option.some.inj H
            exact Pr.rf
          · replace H := ob H; obtain ⟨q40, c41, H⟩ := H
            rcases q40 with v45 | e42
            · replace H := oSl H; obtain rfl := Option.some.inj H
              exact p_X12_tries_75 1000 c41
            · replace H := oSr H
              have e43 : Pr h e42.2 := p_X12_tries_75 1000 c41
              obtain rfl := Option.some.inj H
              exact e43
        · replace H := og H; obtain ⟨g46, H⟩ := H
          replace H := oi H; obtain ⟨c47, H⟩ | ⟨c47, H⟩ := H
          · replace H := og H; obtain ⟨g48, H⟩ := H
            replace H := oi H; obtain ⟨c49, H⟩ | ⟨c49, H⟩ := H
            · obtain rfl := Option.some.inj H
              exact Pr.rf
            · replace H := ob H; obtain ⟨q50, c51, H⟩ := H
              rcases q50 with v55 | e52
              · replace H := oSl H; obtain rfl := Option.some.inj H
                exact p_X12_tries_75 1000 c51
              · replace H := oSr H
                have e53 : Pr h e52.2 := p_X12_tries_75 1000 c51
                obtain rfl := Option.some.inj H
                exact e53
          · obtain rfl := Option.some.inj H
            exact Pr.rf
      · obtain rfl := Option.some.inj H
        exact Pr.rf
    · obtain rfl := Option.some.inj H
      exact Pr.rf
  · obtain rfl := Option.some.inj H
    exact Pr.rf
set_option maxHeartbeats 4000000 in
set_option maxRecDepth 20000 in
theorem t_X12_tries {G : GE} (d : Nat) {p1 : Int32} {p2 : Int32} {p3 : Int32} {p4 : Int32} {h : HS} {q : (Int32 × HS)} (hY : LY TM h) (H : f_X12_tries p1 p2 p3 p4 h = some q) : CE G (d + 3) yX12_tries miX12_tries [.ref 60, .int p1, .int p2, .int p3, .int p4] h (some (.int q.1)) (q.2) := by
  unfold f_X12_tries at H
  refine ce_of rfl (by decide) (fun q => by first | rfl | cases q) (Nat.le_of_ble_eq_true rfl) rfl ?_
  refine e_iload_n dX12_tries_0 rfl ?_
  replace H := ob H; obtain ⟨q1, c2, H⟩ := H
  refine s1 lmX12_444 lsX12_isSheet msX12_isSheet dX12_tries_1 (t_X12_isSheet (d + 1) c2) rfl (Nat.le_of_ble_eq_true rfl) (Nat.le_refl _) ?_
  refine e_ifB_eq (tgt := 32) dX12_tries_4 (by decide) (fun c3 => ?_) (fun c3 => ?_)
  · replace H := of_ (nb c3) H
    refine e_bipush (v := (-2 : Int32)) dX12_tries_32 (by decide) ?_
    obtain rfl := Option.some.inj H
    exact z_iret rfl rfl dX12_tries_34 rfl rfl
  · replace H := ot c3 H
    refine e_iload_n dX12_tries_7 rfl ?_
    refine e_i2l dX12_tries_8 ?_
    refine e_lconst (v := (0 : Int64)) dX12_tries_9 (by decide) ?_
    refine e_ldc2 (v := (2 : Int64)) lkX12_213 dX12_tries_10 ?_
    replace H := ob H; obtain ⟨q4, c5, H⟩ := H
    refine s1 lmX12_125 lsX12_in msX12_in dX12_tries_13 (t_X12_in (d + 2) c5) rfl (Nat.le_of_ble_eq_true rfl) (Nat.le_refl _) ?_
    refine e_ifB_eq (tgt := 32) dX12_tries_16 (by decide) (fun c6 => ?_) (fun c6 => ?_)
    · replace H := of_ (nb c6) H
      refine e_bipush (v := (-2 : Int32)) dX12_tries_32 (by decide) ?_
      obtain rfl := Option.some.inj H
      exact z_iret rfl rfl dX12_tries_34 rfl rfl
    · replace H := ot c6 H
      refine e_iload dX12_tries_19 rfl ?_
      refine e_i2l dX12_tries_21 ?_
      refine e_lconst (v := (0 : Int64)) dX12_tries_22 (by decide) ?_
      refine e_ldc2 (v := (10 : Int64)) lkX12_281 dX12_tries_23 ?_
      replace H := ob H; obtain ⟨q7, c8, H⟩ := H
      refine s1 lmX12_125 lsX12_in msX12_in dX12_tries_26 (t_X12_in (d + 2) c8) rfl (Nat.le_of_ble_eq_true rfl) (Nat.le_refl _) ?_
      refine e_ifB_ne (tgt := 35) dX12_tries_29 (by decide) (fun c9 => ?_) (fun c9 => ?_)
      · replace H := ot c9 H
        refine g_aload_n dX12_tries_35 rfl rfl ?_
        refine e_getR (hY.t 0 rfl) flX12_86_13 dX12_tries_36 rfl (hY.r 24 rfl) ?_
        refine e_iload_n dX12_tries_39 rfl ?_
        replace H := og H; obtain ⟨g10, H⟩ := H
        refine e_zald (hY.t 25 rfl) (ixb_y (hY.n 25 rfl) g10) dX12_tries_40 ?_
        refine e_if_eq (tgt := 57) dX12_tries_41 (by decide) (fun c11 => ?_) (fun c11 => ?_)
        · replace H := ot c11 H
          refine g_aload_n dX12_tries_57 rfl rfl ?_
          refine e_getR (hY.t 0 rfl) flX12_86_13 dX12_tries_58 rfl (hY.r 24 rfl) ?_
          refine e_iload_n dX12_tries_61 rfl ?_
          replace H := og H; obtain ⟨g12, H⟩ := H
          refine e_zald (hY.t 25 rfl) (ixb_y (hY.n 25 rfl) g12) dX12_tries_62 ?_
          refine e_if_ne (tgt := 69) dX12_tries_63 (by decide) (fun c13 => ?_) (fun c13 => ?_)
          · replace H := of_ c13 H
            refine e_iconst (v := (0 : Int32)) dX12_tries_69 (by decide) ?_
            refine e_istore dX12_tries_70 (Nat.le_of_ble_eq_true rfl) rfl rfl ?_
            refine e_iconst (v := (0 : Int32)) dX12_tries_72 (by decide) ?_
            refine e_istore dX12_tries_73 (Nat.le_of_ble_eq_true rfl) rfl rfl ?_
            replace H := ob H; obtain ⟨q40, c41, H⟩ := H
            refine e_wk (lk1 (lk1 (lk0 (lk1 (lk1 (lk1 (lk1 (lk1 lkn)))))))) (w_X12_tries_75 d 1000 hY c41 (fun v45 E0 => ?_) (fun e42 E0 => ?_))
            · subst E0; replace H := oSl H; obtain rfl := Option.some.inj H
              exact ⟨rfl, rfl⟩
            · subst E0; replace H := oSr H
              have e43 : Pr h e42.2 := p_X12_tries_75 1000 c41
              have hY44 := hY.pr okM e43
              refine e_iload dX12_tries_176 rfl ?_
              obtain rfl := Option.some.inj H
              exact z_iret rfl rfl dX12_tries_178 rfl rfl
          · replace H := ot c13 H
            refine e_bipush (v := (-11 : Int32)) dX12_tries_66 (by decide) ?_
            obtain rfl := Option.some.inj H
            exact z_iret rfl rfl dX12_tries_68 rfl rfl
        · replace H := of_ c11 H
          refine g_aload_n dX12_tries_44 rfl rfl ?_
          refine e_getR (hY.t 0 rfl) flX12_90_13 dX12_tries_45 rfl (hY.r 25 rfl) ?_
          refine e_iload_n dX12_tries_48 rfl ?_
          replace H := og H; obtain ⟨g46, H⟩ := H
          refine e_iald (hY.t 26 rfl) (ixb_y (hY.n 26 rfl) g46) dX12_tries_49 ?_
          refine e_iload_n dX12_tries_50 rfl ?_
          refine e_icmp_eq (tgt := 57) dX12_tries_51 (by decide) (fun c47 => ?_) (fun c47 => ?_)
          · replace H := ot c47 H
            refine g_aload_n dX12_tries_57 rfl rfl ?_
            refine e_getR (hY.t 0 rfl) flX12_86_13 dX12_tries_58 rfl (hY.r 24 rfl) ?_
            refine e_iload_n dX12_tries_61 rfl ?_
            replace H := og H; obtain ⟨g48, H⟩ := H
            refine e_zald (hY.t 25 rfl) (ixb_y (hY.n 25 rfl) g48) dX12_tries_62 ?_
            refine e_if_ne (tgt := 69) dX12_tries_63 (by decide) (fun c49 => ?_) (fun c49 => ?_)
            · replace H := of_ c49 H
              refine e_iconst (v := (0 : Int32)) dX12_tries_69 (by decide) ?_
              refine e_istore dX12_tries_70 (Nat.le_of_ble_eq_true rfl) rfl rfl ?_
              refine e_iconst (v := (0 : Int32)) dX12_tries_72 (by decide) ?_
              refine e_istore dX12_tries_73 (Nat.le_of_ble_eq_true rfl) rfl rfl ?_
              replace H := ob H; obtain ⟨q50, c51, H⟩ := H
              refine e_wk (lk1 (lk1 (lk0 (lk1 (lk1 (lk1 (lk1 (lk1 lkn)))))))) (w_X12_tries_75 d 1000 hY c51 (fun v55 E0 => ?_) (fun e52 E0 => ?_))
              · subst E0; replace H := oSl H; obtain rfl := Option.some.inj H
                exact ⟨rfl, rfl⟩
              · subst E0; replace H := oSr H
                have e53 : Pr h e52.2 := p_X12_tries_75 1000 c51
                have hY54 := hY.pr okM e53
                refine e_iload dX12_tries_176 rfl ?_
                obtain rfl := Option.some.inj H
                exact z_iret rfl rfl dX12_tries_178 rfl rfl
            · replace H := ot c49 H
              refine e_bipush (v := (-11 : Int32)) dX12_tries_66 (by decide) ?_
              obtain rfl := Option.some.inj H
              exact z_iret rfl rfl dX12_tries_68 rfl rfl
          · replace H := of_ c47 H
            refine e_bipush (v := (-13 : Int32)) dX12_tries_54 (by decide) ?_
            obtain rfl := Option.some.inj H
            exact z_iret rfl rfl dX12_tries_56 rfl rfl
      · replace H := of_ (nb c9) H
        refine e_bipush (v := (-2 : Int32)) dX12_tries_32 (by decide) ?_
        obtain rfl := Option.some.inj H
        exact z_iret rfl rfl dX12_tries_34 rfl rfl
-- X12_over
def f_X12_over (p0 : Int32) : Option Int32 := (if p0 = 0 then (some (-1 : Int32)) else (if p0 = (3 : Int32) then (some (2 : Int32)) else (if p0 = (5 : Int32) then (some (1 : Int32)) else (some (0 : Int32)))))
set_option maxHeartbeats 4000000 in
set_option maxRecDepth 20000 in
theorem t_X12_over {G : GE} (d : Nat) {p0 : Int32} {h : HS} {q : Int32} (H : f_X12_over p0 = some q) : CE G (d + 0) yX12_over miX12_over [.int p0] h (some (.int q)) (h) := by
  unfold f_X12_over at H
  refine ce_of rfl (by decide) (fun q => by first | rfl | cases q) (Nat.le_of_ble_eq_true rfl) rfl ?_
  refine e_iload_n dX12_over_0 rfl ?_
  refine e_if_ne (tgt := 8) dX12_over_1 (by decide) (fun c1 => ?_) (fun c1 => ?_)
  · replace H := of_ c1 H
    refine e_iload_n dX12_over_8 rfl ?_
    refine e_iconst (v := (3 : Int32)) dX12_over_9 (by decide) ?_
    refine e_icmp_ne (tgt := 17) dX12_over_10 (by decide) (fun c2 => ?_) (fun c2 => ?_)
    · replace H := of_ c2 H
      refine e_iload_n dX12_over_17 rfl ?_
      refine e_iconst (v := (5 : Int32)) dX12_over_18 (by decide) ?_
      refine e_icmp_ne (tgt := 26) dX12_over_19 (by decide) (fun c3 => ?_) (fun c3 => ?_)
      · replace H := of_ c3 H
        refine e_iconst (v := (0 : Int32)) dX12_over_26 (by decide) ?_
        obtain rfl := Option.some.inj H
        exact z_iret rfl rfl dX12_over_27 rfl rfl
      · replace H := ot c3 H
        refine e_iconst (v := (1 : Int32)) dX12_over_22 (by decide) ?_
        refine e_goto (tgt := 27) dX12_over_23 (by decide) ?_
        obtain rfl := Option.some.inj H
        exact z_iret rfl rfl dX12_over_27 rfl rfl
    · replace H := ot c2 H
      refine e_iconst (v := (2 : Int32)) dX12_over_13 (by decide) ?_
      refine e_goto (tgt := 27) dX12_over_14 (by decide) ?_
      obtain rfl := Option.some.inj H
      exact z_iret rfl rfl dX12_over_27 rfl rfl
  · replace H := ot c1 H
    refine e_iconst (v := (-1 : Int32)) dX12_over_4 (by decide) ?_
    refine e_goto (tgt := 27) dX12_over_5 (by decide) ?_
    obtain rfl := Option.some.inj H
    exact z_iret rfl rfl dX12_over_27 rfl rfl
-- X12_taken
def l_X12_taken_33 (y1 : Int32) (y2 : Int32) (h : HS)  : Nat → Int32 → Option Int32
  | 0, _ => none
  | n + 1, x3 => (if x3 = (-1 : Int32) then (some x3) else (if x3 = y2 then (some x3) else (Option.bind (f_X12_over x3) (fun q14 => (l_X12_taken_33 y1 y2 h n q14)))))
set_option maxHeartbeats 4000000 in
set_option maxRecDepth 20000 in
theorem w_X12_taken_33 {G : GE} (d : Nat) {y1 : Int32} {y2 : Int32} {h : HS} {r : Option Value} {h' : HS} (hYTM : LY TM h) : ∀ (n : Nat) {x3 : Int32} {q : Int32}, l_X12_taken_33 y1 y2 h n x3 = some q → En G (d + 2) miX12_taken 51 [.ref 60, .int y1, .int y2, .int q] [] h r h' → En G (d + 2) miX12_taken 33 [.ref 60, .int y1, .int y2, .int x3] [] h r h' := by
  intro n
  induction n with
  | zero => intro x3 q H kE; exact nz H
  | succ n ih =>
    intro x3 q H kE
    unfold l_X12_taken_33 at H
    refine e_iload_n dX12_taken_33 rfl ?_
    refine e_iconst (v := (-1 : Int32)) dX12_taken_34 (by decide) ?_
    refine e_icmp_eq (tgt := 51) dX12_taken_35 (by decide) (fun c12 => ?_) (fun c12 => ?_)
    · replace H := ot c12 H
      obtain rfl := Option.some.inj H
      exact e_wk (lk1 (lk1 (lk1 (lk1 lkn)))) kE
    · replace H := of_ c12 H
      refine e_iload_n dX12_taken_38 rfl ?_
      refine e_iload_n dX12_taken_39 rfl ?_
      refine e_icmp_eq (tgt := 51) dX12_taken_40 (by decide) (fun c13 => ?_) (fun c13 => ?_)
      · replace H := ot c13 H
        obtain rfl := Option.some.inj H
        exact e_wk (lk1 (lk1 (lk1 (lk1 lkn)))) kE
      · replace H := of_ c13 H
        refine e_iload_n dX12_taken_43 rfl ?_
        replace H := ob H; obtain ⟨q14, c15, H⟩ := H
        refine s1 lmX12_450 lsX12_over msX12_over dX12_taken_44 (t_X12_over (d + 1) c15) rfl (Nat.le_of_ble_eq_true rfl) (Nat.le_refl _) ?_
        refine e_istore_n dX12_taken_47 (Nat.le_of_ble_eq_true rfl) rfl rfl ?_
        refine e_goto (tgt := 33) dX12_taken_48 (by decide) ?_
        exact e_wk (lk1 (lk1 (lk1 (lk1 lkn)))) (ih H kE)
def f_X12_taken (p1 : Int32) (p2 : Int32) (h : HS) : Option Int32 := (Option.bind (f_X12_in p2.toInt64 (0 : Int64) (5 : Int64)) (fun q1 => (if q1 = true then (Option.bind (f_X12_isStall p1 h) (fun q4 => (if q4 = true then (if ixb p1 8 = true then (Option.bind (l_X12_taken_33 p1 p2 h 1000 (hI h 64 p1.toNatClampNeg)) (fun q16 => (if q16 = p2 then (if ixb p1 8 = true then (some (hI h 67 p1.toNatClampNeg)) else none) else (some (-13 : Int32))))) else none) else (some (-11 : Int32))))) else (some (-2 : Int32)))))
set_option maxHeartbeats 4000000 in
set_option maxRecDepth 20000 in
theorem t_X12_taken {G : GE} (d : Nat) {p1 : Int32} {p2 : Int32} {h : HS} {q : Int32} (hY : LY TM h) (H : f_X12_taken p1 p2 h = some q) : CE G (d + 2) yX12_taken miX12_taken [.ref 60, .int p1, .int p2] h (some (.int q)) (h) := by
  unfold f_X12_taken at H
  refine ce_of rfl (by decide) (fun q => by first | rfl | cases q) (Nat.le_of_ble_eq_true rfl) rfl ?_
  refine e_iload_n dX12_taken_0 rfl ?_
  refine e_i2l dX12_taken_1 ?_
  refine e_lconst (v := (0 : Int64)) dX12_taken_2 (by decide) ?_
  refine e_ldc2 (v := (5 : Int64)) lkX12_132 dX12_taken_3 ?_
  replace H := ob H; obtain ⟨q1, c2, H⟩ := H
  refine s1 lmX12_125 lsX12_in msX12_in dX12_taken_6 (t_X12_in (d + 1) c2) rfl (Nat.le_of_ble_eq_true rfl) (Nat.le_refl _) ?_
  refine e_ifB_ne (tgt := 15) dX12_taken_9 (by decide) (fun c3 => ?_) (fun c3 => ?_)
  · replace H := ot c3 H
    refine g_aload_n dX12_taken_15 rfl rfl ?_
    refine e_iload_n dX12_taken_16 rfl ?_
    replace H := ob H; obtain ⟨q4, c5, H⟩ := H
    refine v1 (hY.t 0 rfl) (by decide) rfl rfl lmX12_142 liX12_isStall lvX12_X12_isStall msX12_isStall dX12_taken_17 (t_X12_isStall (d + 0) hY c5) rfl (Nat.le_of_ble_eq_true rfl) (Nat.le_refl _) ?_
    refine e_ifB_ne (tgt := 26) dX12_taken_20 (by decide) (fun c6 => ?_) (fun c6 => ?_)
    · replace H := ot c6 H
      refine g_aload_n dX12_taken_26 rfl rfl ?_
      refine e_getR (hY.t 0 rfl) flX12_23_13 dX12_taken_27 rfl (hY.r 3 rfl) ?_
      refine e_iload_n dX12_taken_30 rfl ?_
      replace H := og H; obtain ⟨g7, H⟩ := H
      refine e_iald (hY.t 4 rfl) (ixb_y (hY.n 4 rfl) g7) dX12_taken_31 ?_
      refine e_istore_n dX12_taken_32 (Nat.le_of_ble_eq_true rfl) rfl rfl ?_
      replace H := ob H; obtain ⟨q16, c17, H⟩ := H
      refine e_wk (lk1 (lk1 (lk1 (lk1 lkn)))) (w_X12_taken_33 d hY 1000 c17 ?_)
      refine e_iload_n dX12_taken_51 rfl ?_
      refine e_iload_n dX12_taken_52 rfl ?_
      refine e_icmp_ne (tgt := 65) dX12_taken_53 (by decide) (fun c18 => ?_) (fun c18 => ?_)
      · replace H := of_ c18 H
        refine e_bipush (v := (-13 : Int32)) dX12_taken_65 (by decide) ?_
        obtain rfl := Option.some.inj H
        exact z_iret rfl rfl dX12_taken_67 rfl rfl
      · replace H := ot c18 H
        refine g_aload_n dX12_taken_56 rfl rfl ?_
        refine e_getR (hY.t 0 rfl) flX12_32_13 dX12_taken_57 rfl (hY.r 6 rfl) ?_
        refine e_iload_n dX12_taken_60 rfl ?_
        replace H := og H; obtain ⟨g19, H⟩ := H
        refine e_iald (hY.t 7 rfl) (ixb_y (hY.n 7 rfl) g19) dX12_taken_61 ?_
        refine e_goto (tgt := 67) dX12_taken_62 (by decide) ?_
        obtain rfl := Option.some.inj H
        exact z_iret rfl rfl dX12_taken_67 rfl rfl
    · replace H := of_ (nb c6) H
      refine e_bipush (v := (-11 : Int32)) dX12_taken_23 (by decide) ?_
      obtain rfl := Option.some.inj H
      exact z_iret rfl rfl dX12_taken_25 rfl rfl
  · replace H := of_ (nb c3) H
    refine e_bipush (v := (-2 : Int32)) dX12_taken_12 (by decide) ?_
    obtain rfl := Option.some.inj H
    exact z_iret rfl rfl dX12_taken_14 rfl rfl
-- J9_abs_067f4
def f_J9_abs_067f4 (p0 : Int64) : Option Int64 := (if (0 : Int64) ≤ p0 then (some p0) else (some (-p0)))
set_option maxHeartbeats 4000000 in
set_option maxRecDepth 20000 in
theorem t_J9_abs_067f4 {G : GE} (d : Nat) {p0 : Int64} {h : HS} {q : Int64} (H : f_J9_abs_067f4 p0 = some q) : CE G (d + 0) yJ9_abs_067f4 miJ9_abs_067f4 [.long p0] h (some (.long q)) (h) := by
  unfold f_J9_abs_067f4 at H
  refine ce_of rfl (by decide) (fun q => by first | rfl | cases q) (Nat.le_of_ble_eq_true rfl) rfl ?_
  refine e_lload_n dJ9_abs_067f4_0 rfl ?_
  refine e_lconst (v := (0 : Int64)) dJ9_abs_067f4_1 (by decide) ?_
  refine e_lc_ge (tgt := 11) dJ9_abs_067f4_2 dJ9_abs_067f4_3 (by decide) (fun c1 => ?_) (fun c1 => ?_)
  · replace H := ot c1 H
    refine e_lload_n dJ9_abs_067f4_11 rfl ?_
    obtain rfl := Option.some.inj H
    exact z_lret rfl dJ9_abs_067f4_12 rfl rfl
  · replace H := of_ c1 H
    refine e_lload_n dJ9_abs_067f4_6 rfl ?_
    refine e_lneg dJ9_abs_067f4_7 ?_
    refine e_goto (tgt := 12) dJ9_abs_067f4_8 (by decide) ?_
    obtain rfl := Option.some.inj H
    exact z_lret rfl dJ9_abs_067f4_12 rfl rfl
-- J9_max_7cf53
def f_J9_max_7cf53 (p0 : Int32) (p1 : Int32) : Option Int32 := (if p0 < p1 then (some p1) else (some p0))
set_option maxHeartbeats 4000000 in
set_option maxRecDepth 20000 in
theorem t_J9_max_7cf53 {G : GE} (d : Nat) {p0 : Int32} {p1 : Int32} {h : HS} {q : Int32} (H : f_J9_max_7cf53 p0 p1 = some q) : CE G (d + 0) yJ9_max_7cf53 miJ9_max_7cf53 [.int p0, .int p1] h (some (.int q)) (h) := by
  unfold f_J9_max_7cf53 at H
  refine ce_of rfl (by decide) (fun q => by first | rfl | cases q) (Nat.le_of_ble_eq_true rfl) rfl ?_
  refine e_iload_n dJ9_max_7cf53_0 rfl ?_
  refine e_iload_n dJ9_max_7cf53_1 rfl ?_
  refine e_icmp_lt (tgt := 9) dJ9_max_7cf53_2 (by decide) (fun c1 => ?_) (fun c1 => ?_)
  · replace H := ot c1 H
    refine e_iload_n dJ9_max_7cf53_9 rfl ?_
    obtain rfl := Option.some.inj H
    exact z_iret rfl rfl dJ9_max_7cf53_10 rfl rfl
  · replace H := of_ c1 H
    refine e_iload_n dJ9_max_7cf53_5 rfl ?_
    refine e_goto (tgt := 10) dJ9_max_7cf53_6 (by decide) ?_
    obtain rfl := Option.some.inj H
    exact z_iret rfl rfl dJ9_max_7cf53_10 rfl rfl
-- J9_min_7cf53
def f_J9_min_7cf53 (p0 : Int32) (p1 : Int32) : Option Int32 := (if p1 < p0 then (some p1) else (some p0))
set_option maxHeartbeats 4000000 in
set_option maxRecDepth 20000 in
theorem t_J9_min_7cf53 {G : GE} (d : Nat) {p0 : Int32} {p1 : Int32} {h : HS} {q : Int32} (H : f_J9_min_7cf53 p0 p1 = some q) : CE G (d + 0) yJ9_min_7cf53 miJ9_min_7cf53 [.int p0, .int p1] h (some (.int q)) (h) := by
  unfold f_J9_min_7cf53 at H
  refine ce_of rfl (by decide) (fun q => by first | rfl | cases q) (Nat.le_of_ble_eq_true rfl) rfl ?_
  refine e_iload_n dJ9_min_7cf53_0 rfl ?_
  refine e_iload_n dJ9_min_7cf53_1 rfl ?_
  refine e_icmp_gt (tgt := 9) dJ9_min_7cf53_2 (by decide) (fun c1 => ?_) (fun c1 => ?_)
  · replace H := ot c1 H
    refine e_iload_n dJ9_min_7cf53_9 rfl ?_
    obtain rfl := Option.some.inj H
    exact z_iret rfl rfl dJ9_min_7cf53_10 rfl rfl
  · replace H := of_ c1 H
    refine e_iload_n dJ9_min_7cf53_5 rfl ?_
    refine e_goto (tgt := 10) dJ9_min_7cf53_6 (by decide) ?_
    obtain rfl := Option.some.inj H
    exact z_iret rfl rfl dJ9_min_7cf53_10 rfl rfl
