-- X11_firstOfWalk
def l_X11_firstOfWalk_3 (y1 : Nat) (y2 : Int32) (y3 : Int32)  : Nat → Int32 → HS → Option ((Int32 × HS) ⊕ HS)
  | 0, _, _ => none
  | n + 1, x4, h => (if hT h 33 = 1 then (Option.bind (f_Jx4a65c_size_8abf5 33 h) (fun q18 => (if q18 ≤ x4 then (some (Sum.inr h)) else (Option.bind (f_Jx4a65c_get_915e3 33 x4 h) (fun q22 => (om q22 none (fun b25 => (if isSt (hT h b25) = true then (if (y2 - (hI h b25 4)) < 0 then (l_X11_firstOfWalk_3 y1 y2 y3 n (x4 + (1 : Int32)) h) else (Option.bind (f_X11_failAfter y1 ((1000000 : Int32)) x4 h) (fun q28 => (Option.bind (f_X11_leastFail y1 q28 (y2 - (hI h b25 4)) h) (fun q30 => (if q30.1 = y3 then (some (Sum.inl (x4, q30.2))) else (l_X11_firstOfWalk_3 y1 y2 y3 n (x4 + (1 : Int32)) q30.2))))))) else none)))))))) else none)
set_option maxHeartbeats 4000000 in
set_option maxRecDepth 20000 in
theorem p_X11_firstOfWalk_3 {y1 : Nat} {y2 : Int32} {y3 : Int32} : ∀ (n : Nat) {x4 : Int32} {h : HS} {q : ((Int32 × HS) ⊕ HS)}, l_X11_firstOfWalk_3 y1 y2 y3 n x4 h = some q → Pr h (Sum.elim (fun v => v.2) (fun e => e) q) := by
  intro n
  induction n with
  | zero => intro x4 h q H; exact nz H
  | succ n ih =>
    intro x4 h q H
    unfold l_X11_firstOfWalk_3 at H
    replace H := og H; obtain ⟨g20, H⟩ := H
    replace H := ob H; obtain ⟨q18, c19, H⟩ := H
    replace H := oi H; obtain ⟨c21, H⟩ | ⟨c21, H⟩ := H
    · obtain rfl := Option.some.inj H
      exact Pr.rf
    · replace H := ob H; obtain ⟨q22, c23, H⟩ := H
      replace H := oom H; obtain ⟨e24, H⟩ | ⟨b25, e24, H⟩ := H
      · exact nz H
      · replace H := og H; obtain ⟨g26, H⟩ := H
        replace H := oi H; obtain ⟨c27, H⟩ | ⟨c27, H⟩ := H
        · exact id (ih H)
        · replace H := ob H; obtain ⟨q28, c29, H⟩ := H
          replace H := ob H; obtain ⟨q30, c31, H⟩ := H
          have e32 := p_X11_leastFail c31
          replace H := oi H; obtain ⟨c34, H⟩ | ⟨c34, H⟩ := H
          · obtain rfl := Option.some.inj H
            exact e32
          · exact e32.tr (ih H)
set_option maxHeartbeats 4000000 in
set_option maxRecDepth 20000 in
theorem w_X11_firstOfWalk_3 {G : GE} (d : Nat) {y1 : Nat} {y2 : Int32} {y3 : Int32} {r : Option Value} {h' : HS}  : ∀ (n : Nat) {x4 : Int32} {h : HS} {q : ((Int32 × HS) ⊕ HS)}, LY TX h → l_X11_firstOfWalk_3 y1 y2 y3 n x4 h = some q → (∀ v, q = Sum.inl v → r = some (.int v.1) ∧ h' = v.2) → (∀ e, q = Sum.inr e → En G (d + 4) miX11_firstOfWalk 69 [dum, dum, dum, dum, dum, dum] [] e r h') → En G (d + 4) miX11_firstOfWalk 3 [.ref 32, .ref y1, .int y2, .int y3, .int x4, dum] [] h r h' := by
  intro n
  induction n with
  | zero => intro x4 h q hYTX H kR kE; exact nz H
  | succ n ih =>
    intro x4 h q hYTX H kR kE
    unfold l_X11_firstOfWalk_3 at H
    refine e_iload dX11_firstOfWalk_3 rfl ?_
    refine g_aload_n dX11_firstOfWalk_5 rfl rfl ?_
    refine e_getR (hYTX.t 0 rfl) flX11_12_12 dX11_firstOfWalk_6 rfl (hYTX.r 0 rfl) ?_
    replace H := og H; obtain ⟨g20, H⟩ := H
    replace H := ob H; obtain ⟨q18, c19, H⟩ := H
    refine v1 (hYTX.t 1 rfl) (by decide) rfl rfl lmX11_114 liJx4a65c_size_8abf5 lvJx4a65c_Jx4a65c_size_8abf5 msJx4a65c_size_8abf5 dX11_firstOfWalk_9 (t_Jx4a65c_size_8abf5 (d + 3) c19) rfl (Nat.le_of_ble_eq_true rfl) (Nat.le_refl _) ?_
    refine e_icmp_ge (tgt := 69) dX11_firstOfWalk_12 (by decide) (fun c21 => ?_) (fun c21 => ?_)
    · replace H := ot c21 H
      obtain rfl := Option.some.inj H
      exact e_wk (lk0 (lk0 (lk0 (lk0 (lk0 (lk1 lkn)))))) (kE _ rfl)
    · replace H := of_ c21 H
      refine e_iload_n dX11_firstOfWalk_15 rfl ?_
      refine g_aload_n dX11_firstOfWalk_16 rfl rfl ?_
      refine e_getR (hYTX.t 0 rfl) flX11_12_12 dX11_firstOfWalk_17 rfl (hYTX.r 0 rfl) ?_
      refine e_iload dX11_firstOfWalk_20 rfl ?_
      replace H := ob H; obtain ⟨q22, c23, H⟩ := H
      replace H := oom H; obtain ⟨e24, H⟩ | ⟨b25, e24, H⟩ := H
      · refine v1 (hYTX.t 1 rfl) (by decide) rfl rfl lmX11_276 liJx4a65c_get_915e3 lvJx4a65c_Jx4a65c_get_915e3 msJx4a65c_get_915e3 dX11_firstOfWalk_22 (ceN e24 (t_Jx4a65c_get_915e3 (d + 1) c23)) rfl (Nat.le_of_ble_eq_true rfl) (Nat.le_refl _) ?_
        exact nz H
      · refine v1 (hYTX.t 1 rfl) (by decide) rfl rfl lmX11_276 liJx4a65c_get_915e3 lvJx4a65c_Jx4a65c_get_915e3 msJx4a65c_get_915e3 dX11_firstOfWalk_22 (ceS e24 (t_Jx4a65c_get_915e3 (d + 1) c23)) rfl (Nat.le_of_ble_eq_true rfl) (Nat.le_refl _) ?_
        replace H := og H; obtain ⟨g26, H⟩ := H
        refine e_castSt g26 lcX11_131 dX11_firstOfWalk_25 ?_
        refine gmX11_151_isSt g26 dX11_firstOfWalk_28 ?_
        refine e_isub dX11_firstOfWalk_31 ?_
        refine e_istore dX11_firstOfWalk_32 (Nat.le_of_ble_eq_true rfl) rfl rfl ?_
        refine e_iload dX11_firstOfWalk_34 rfl ?_
        refine e_if_lt (tgt := 63) dX11_firstOfWalk_36 (by decide) (fun c27 => ?_) (fun c27 => ?_)
        · replace H := ot c27 H
          refine e_iinc dX11_firstOfWalk_63 rfl (ii_ (by decide : Int32.ofInt (1) = (1 : Int32))) (Nat.le_of_ble_eq_true rfl) rfl rfl ?_
          refine e_goto (tgt := 3) dX11_firstOfWalk_66 (by decide) ?_
          exact e_wk (lk1 (lk1 (lk1 (lk1 (lk1 (lk0 lkn)))))) (ih hYTX H kR kE)
        · replace H := of_ c27 H
          refine g_aload_n dX11_firstOfWalk_39 rfl rfl ?_
          refine g_aload_n dX11_firstOfWalk_40 rfl rfl ?_
          refine g_aload_n dX11_firstOfWalk_41 rfl rfl ?_
          refine g_aload_n dX11_firstOfWalk_42 rfl rfl ?_
          refine e_ldcw (v := ((1000000 : Int32))) lkX11_367 dX11_firstOfWalk_43 ?_
          refine e_iload dX11_firstOfWalk_46 rfl ?_
          replace H := ob H; obtain ⟨q28, c29, H⟩ := H
          refine v1 (hYTX.t 0 rfl) (by decide) rfl rfl lmX11_407 liX11_failAfter lvX11_X11_failAfter msX11_failAfter dX11_firstOfWalk_48 (t_X11_failAfter (d + 2) hYTX c29) rfl (Nat.le_of_ble_eq_true rfl) (Nat.le_refl _) ?_
          refine e_iload dX11_firstOfWalk_51 rfl ?_
          replace H := ob H; obtain ⟨q30, c31, H⟩ := H
          refine v1 (hYTX.t 0 rfl) (by decide) rfl rfl lmX11_368 liX11_leastFail lvX11_X11_leastFail msX11_leastFail dX11_firstOfWalk_53 (t_X11_leastFail (d + 0) hYTX c31) rfl (Nat.le_of_ble_eq_true rfl) (Nat.le_refl _) ?_
          have e32 := p_X11_leastFail c31
          have hY33 := hYTX.pr okX e32
          refine e_iload_n dX11_firstOfWalk_56 rfl ?_
          refine e_icmp_ne (tgt := 63) dX11_firstOfWalk_57 (by decide) (fun c34 => ?_) (fun c34 => ?_)
          · replace H := of_ c34 H
            refine e_iinc dX11_firstOfWalk_63 rfl (ii_ (by decide : Int32.ofInt (1) = (1 : Int32))) (Nat.le_of_ble_eq_true rfl) rfl rfl ?_
            refine e_goto (tgt := 3) dX11_firstOfWalk_66 (by decide) ?_
            exact e_wk (lk1 (lk1 (lk1 (lk1 (lk1 (lk0 lkn)))))) (ih hY33 H kR kE)
          · replace H := ot c34 H
            refine e_iload dX11_firstOfWalk_60 rfl ?_
            obtain rfl := Option.some.inj H
            obtain ⟨eR, eH⟩ := kR _ rfl
            exact z_iret rfl rfl dX11_firstOfWalk_62 eR eH
def f_X11_firstOfWalk (p1 : Nat) (p2 : Int32) (p3 : Int32) (h : HS) : Option (Int32 × HS) := (Option.bind (l_X11_firstOfWalk_3 p1 p2 p3 1000 (0 : Int32) h) (fun q35 => (Sum.elim (fun v => some v) (fun e37 => (some ((-1 : Int32), e37))) q35)))
set_option maxHeartbeats 4000000 in
set_option maxRecDepth 20000 in
theorem p_X11_firstOfWalk {p1 : Nat} {p2 : Int32} {p3 : Int32} {h : HS} {q : (Int32 × HS)} (H : f_X11_firstOfWalk p1 p2 p3 h = some q) : Pr h q.2 := by
  unfold f_X11_firstOfWalk at H
  replace H := ob H; obtain ⟨q35, c36, H⟩ := H
  rcases q35 with v40 | e37
  · replace H := oSl H; obtain rfl := Option.some.inj H
    exact p_X11_firstOfWalk_3 1000 c36
  · replace H := oSr H
    have e38 : Pr h e37 := p_X11_firstOfWalk_3 1000 c36
    obtain rfl := Option.some.inj H
    exact e38
set_option maxHeartbeats 4000000 in
set_option maxRecDepth 20000 in
theorem t_X11_firstOfWalk {G : GE} (d : Nat) {p1 : Nat} {p2 : Int32} {p3 : Int32} {h : HS} {q : (Int32 × HS)} (hY : LY TX h) (H : f_X11_firstOfWalk p1 p2 p3 h = some q) : CE G (d + 4) yX11_firstOfWalk miX11_firstOfWalk [.ref 32, .ref p1, .int p2, .int p3] h (some (.int q.1)) (q.2) := by
  unfold f_X11_firstOfWalk at H
  refine ce_of rfl (by decide) (fun q => by first | rfl | cases q) (Nat.le_of_ble_eq_true rfl) rfl ?_
  refine e_iconst (v := (0 : Int32)) dX11_firstOfWalk_0 (by decide) ?_
  refine e_istore dX11_firstOfWalk_1 (Nat.le_of_ble_eq_true rfl) rfl rfl ?_
  replace H := ob H; obtain ⟨q35, c36, H⟩ := H
  refine e_wk (lk1 (lk1 (lk1 (lk1 (lk1 (lk1 lkn)))))) (w_X11_firstOfWalk_3 d 1000 hY c36 (fun v40 E0 => ?_) (fun e37 E0 => ?_))
  · subst E0; replace H := oSl H; obtain rfl := Option.some.inj H
    exact ⟨rfl, rfl⟩
  · subst E0; replace H := oSr H
    have e38 : Pr h e37 := p_X11_firstOfWalk_3 1000 c36
    have hY39 := hY.pr okX e38
    refine e_iconst (v := (-1 : Int32)) dX11_firstOfWalk_69 (by decide) ?_
    obtain rfl := Option.some.inj H
    exact z_iret rfl rfl dX11_firstOfWalk_70 rfl rfl
-- X11_walk
def l_X11_walk_36 (y2 : Int32) (y3 : Int32) (y4 : Nat)  : Nat → Int32 → HS → Option HS
  | 0, _, _ => none
  | n + 1, x5, h => (if hT h 33 = 1 then (Option.bind (f_Jx4a65c_size_8abf5 33 h) (fun q29 => (if q29 ≤ x5 then (some h) else (if (8 : Int32) ≤ x5 then (some h) else (if hT h y4 = 5 then (Option.bind (f_Jx4a65c_get_915e3 33 x5 h) (fun q35 => (om q35 none (fun b38 => (if isSt (hT h b38) = true then (Option.bind (f_X11_mostWinning b38 y4 h) (fun q40 => (if ixb x5 8 = true then (l_X11_walk_36 y2 y3 y4 n (x5 + (1 : Int32)) (sI q40.2 54 x5.toNatClampNeg ((hI h y4 4) - q40.1))) else none))) else none))))) else none))))) else none)
set_option maxHeartbeats 4000000 in
set_option maxRecDepth 20000 in
theorem p_X11_walk_36 {y2 : Int32} {y3 : Int32} {y4 : Nat} : ∀ (n : Nat) {x5 : Int32} {h : HS} {q : HS}, l_X11_walk_36 y2 y3 y4 n x5 h = some q → Pr h q := by
  intro n
  induction n with
  | zero => intro x5 h q H; exact nz H
  | succ n ih =>
    intro x5 h q H
    unfold l_X11_walk_36 at H
    replace H := og H; obtain ⟨g31, H⟩ := H
    replace H := ob H; obtain ⟨q29, c30, H⟩ := H
    replace H := oi H; obtain ⟨c32, H⟩ | ⟨c32, H⟩ := H
    · obtain rfl := Option.some.inj H
      exact Pr.rf
    · replace H := oi H; obtain ⟨c33, H⟩ | ⟨c33, H⟩ := H
      · obtain rfl := Option.some.inj H
        exact Pr.rf
      · replace H := og H; obtain ⟨g34, H⟩ := H
        replace H := ob H; obtain ⟨q35, c36, H⟩ := H
        replace H := oom H; obtain ⟨e37, H⟩ | ⟨b38, e37, H⟩ := H
        · exact nz H
        · replace H := og H; obtain ⟨g39, H⟩ := H
          replace H := ob H; obtain ⟨q40, c41, H⟩ := H
          have e42 := p_X11_mostWinning c41
          replace H := og H; obtain ⟨g44, H⟩ := H
          exact e42.tr (ih H)
set_option maxHeartbeats 4000000 in
set_option maxRecDepth 20000 in
theorem w_X11_walk_36 {G : GE} (d : Nat) {y2 : Int32} {y3 : Int32} {y4 : Nat} {r : Option Value} {h' : HS}  : ∀ (n : Nat) {x5 : Int32} {h : HS} {q : HS}, LY TX h → l_X11_walk_36 y2 y3 y4 n x5 h = some q → En G (d + 6) miX11_walk 95 [.ref 32, dum, .int y2, .int y3, .ref y4, dum] [] q r h' → En G (d + 6) miX11_walk 36 [.ref 32, dum, .int y2, .int y3, .ref y4, .int x5] [] h r h' := by
  intro n
  induction n with
  | zero => intro x5 h q hYTX H kE; exact nz H
  | succ n ih =>
    intro x5 h q hYTX H kE
    unfold l_X11_walk_36 at H
    refine e_iload dX11_walk_36 rfl ?_
    refine g_aload_n dX11_walk_38 rfl rfl ?_
    refine e_getR (hYTX.t 0 rfl) flX11_12_12 dX11_walk_39 rfl (hYTX.r 0 rfl) ?_
    replace H := og H; obtain ⟨g31, H⟩ := H
    replace H := ob H; obtain ⟨q29, c30, H⟩ := H
    refine v1 (hYTX.t 1 rfl) (by decide) rfl rfl lmX11_114 liJx4a65c_size_8abf5 lvJx4a65c_Jx4a65c_size_8abf5 msJx4a65c_size_8abf5 dX11_walk_42 (t_Jx4a65c_size_8abf5 (d + 5) c30) rfl (Nat.le_of_ble_eq_true rfl) (Nat.le_refl _) ?_
    refine e_icmp_ge (tgt := 95) dX11_walk_45 (by decide) (fun c32 => ?_) (fun c32 => ?_)
    · replace H := ot c32 H
      obtain rfl := Option.some.inj H
      exact e_wk (lk1 (lk1 (lk1 (lk1 (lk1 (lk0 lkn)))))) kE
    · replace H := of_ c32 H
      refine e_iload dX11_walk_48 rfl ?_
      refine g_aload_n dX11_walk_50 rfl rfl ?_
      refine e_getR (hYTX.t 0 rfl) flX11_86_12 dX11_walk_51 rfl (hYTX.r 15 rfl) ?_
      refine e_alen (hYTX.t 22 rfl) (by decide) dX11_walk_54 ?_
      refine e_ci (y := (8 : Int32)) (by rw [(hYTX.n 22 rfl)]; rfl) ?_
      refine e_icmp_ge (tgt := 95) dX11_walk_55 (by decide) (fun c33 => ?_) (fun c33 => ?_)
      · replace H := ot c33 H
        obtain rfl := Option.some.inj H
        exact e_wk (lk1 (lk1 (lk1 (lk1 (lk1 (lk0 lkn)))))) kE
      · replace H := of_ c33 H
        refine g_aload_n dX11_walk_58 rfl rfl ?_
        refine e_getR (hYTX.t 0 rfl) flX11_86_12 dX11_walk_59 rfl (hYTX.r 15 rfl) ?_
        refine e_iload dX11_walk_62 rfl ?_
        refine g_aload dX11_walk_64 rfl rfl ?_
        replace H := og H; obtain ⟨g34, H⟩ := H
        refine e_getI g34 flX11_199_4 dX11_walk_66 rfl ?_
        refine g_aload_n dX11_walk_69 rfl rfl ?_
        refine g_aload_n dX11_walk_70 rfl rfl ?_
        refine e_getR (hYTX.t 0 rfl) flX11_12_12 dX11_walk_71 rfl (hYTX.r 0 rfl) ?_
        refine e_iload dX11_walk_74 rfl ?_
        replace H := ob H; obtain ⟨q35, c36, H⟩ := H
        replace H := oom H; obtain ⟨e37, H⟩ | ⟨b38, e37, H⟩ := H
        · refine v1 (hYTX.t 1 rfl) (by decide) rfl rfl lmX11_276 liJx4a65c_get_915e3 lvJx4a65c_Jx4a65c_get_915e3 msJx4a65c_get_915e3 dX11_walk_76 (ceN e37 (t_Jx4a65c_get_915e3 (d + 3) c36)) rfl (Nat.le_of_ble_eq_true rfl) (Nat.le_refl _) ?_
          exact nz H
        · refine v1 (hYTX.t 1 rfl) (by decide) rfl rfl lmX11_276 liJx4a65c_get_915e3 lvJx4a65c_Jx4a65c_get_915e3 msJx4a65c_get_915e3 dX11_walk_76 (ceS e37 (t_Jx4a65c_get_915e3 (d + 3) c36)) rfl (Nat.le_of_ble_eq_true rfl) (Nat.le_refl _) ?_
          replace H := og H; obtain ⟨g39, H⟩ := H
          refine e_castSt g39 lcX11_131 dX11_walk_79 ?_
          refine g_aload dX11_walk_82 rfl rfl ?_
          replace H := ob H; obtain ⟨q40, c41, H⟩ := H
          refine v1 (hYTX.t 0 rfl) (by decide) rfl rfl lmX11_280 liX11_mostWinning lvX11_X11_mostWinning msX11_mostWinning dX11_walk_84 (t_X11_mostWinning (d + 0) hYTX c41) rfl (Nat.le_of_ble_eq_true rfl) (Nat.le_refl _) ?_
          have e42 := p_X11_mostWinning c41
          have hY43 := hYTX.pr okX e42
          refine e_isub dX11_walk_87 ?_
          replace H := og H; obtain ⟨g44, H⟩ := H
          refine e_iast (hY43.t 22 rfl) (ixb_y (hY43.n 22 rfl) g44) dX11_walk_88 ?_
          refine e_iinc dX11_walk_89 rfl (ii_ (by decide : Int32.ofInt (1) = (1 : Int32))) (Nat.le_of_ble_eq_true rfl) rfl rfl ?_
          refine e_goto (tgt := 36) dX11_walk_92 (by decide) ?_
          exact e_wk (lk1 (lk1 (lk1 (lk1 (lk1 (lk1 lkn)))))) (ih hY43 H kE)
def f_X11_walk (p1 : Int32) (p2 : Int32) (p3 : Int32) (h : HS) : Option (Int32 × HS) := (Option.bind (f_X11_handAt p1 h) (fun q1 => (om q1 (some ((-2 : Int32), h)) (fun b4 => (Option.bind (f_X11_isIn p2 (0 : Int32) (200 : Int32)) (fun q7 => (if q7 = true then (Option.bind (f_X11_isBit p3) (fun q10 => (if q10 = true then (Option.bind (l_X11_walk_36 p2 p3 b4 1000 (0 : Int32) h) (fun q45 => (Option.bind (f_X11_leastFail b4 ((1000000 : Int32)) p2 q45) (fun q49 => (if p3 = 0 then (some (q49.1, q49.2)) else (if q49.1 = ((1000000 : Int32)) then (some ((-1 : Int32), q49.2)) else (Option.bind (f_X11_firstOfWalk b4 p2 q49.1 q49.2) (fun q55 => (some (q55.1, q55.2)))))))))) else (some ((-2 : Int32), h))))) else (some ((-2 : Int32), h)))))))))
set_option maxHeartbeats 4000000 in
set_option maxRecDepth 20000 in
theorem p_X11_walk {p1 : Int32} {p2 : Int32} {p3 : Int32} {h : HS} {q : (Int32 × HS)} (H : f_X11_walk p1 p2 p3 h = some q) : Pr h q.2 := by
  unfold f_X11_walk at H
  replace H := ob H; obtain ⟨q1, c2, H⟩ := H
  replace H := oom H; obtain ⟨e3, H⟩ | ⟨b4, e3, H⟩ := H
  · obtain rfl := Option.some.inj H
    exact Pr.rf
  · replace H := ob H; obtain ⟨q7, c8, H⟩ := H
    replace H := oi H; obtain ⟨c9, H⟩ | ⟨c9, H⟩ := H
    · replace H := ob H; obtain ⟨q10, c11, H⟩ := H
      replace H := oi H; obtain ⟨c12, H⟩ | ⟨c12, H⟩ := H
      · replace H := ob H; obtain ⟨q45, c46, H⟩ := H
        have e47 := p_X11_walk_36 1000 c46
        replace H := ob H; obtain ⟨q49, c50, H⟩ := H
        have e51 := p_X11_leastFail c50
        replace H := oi H; obtain ⟨c53, H⟩ | ⟨c53, H⟩ := H
        · obtain rfl := Option.some.inj H
          exact (e47.tr e51)
        · replace H := oi H; obtain ⟨c54, H⟩ | ⟨c54, H⟩ := H
          · obtain rfl := Option.some.inj H
            exact (e47.tr e51)
          · replace H := ob H; obtain ⟨q55, c56, H⟩ := H
            have e57 := p_X11_firstOfWalk c56
            obtain rfl := Option.some.inj H
            exact ((e47.tr e51).tr e57)
      · obtain rfl := Option.some.inj H
        exact Pr.rf
    · obtain rfl := Option.some.inj H
      exact Pr.rf
set_option maxHeartbeats 4000000 in
set_option maxRecDepth 20000 in
theorem t_X11_walk {G : GE} (d : Nat) {p1 : Int32} {p2 : Int32} {p3 : Int32} {h : HS} {q : (Int32 × HS)} (hY : LY TX h) (H : f_X11_walk p1 p2 p3 h = some q) : CE G (d + 6) yX11_walk miX11_walk [.ref 32, .int p1, .int p2, .int p3] h (some (.int q.1)) (q.2) := by
  unfold f_X11_walk at H
  refine ce_of rfl (by decide) (fun q => by first | rfl | cases q) (Nat.le_of_ble_eq_true rfl) rfl ?_
  refine g_aload_n dX11_walk_0 rfl rfl ?_
  refine e_iload_n dX11_walk_1 rfl ?_
  replace H := ob H; obtain ⟨q1, c2, H⟩ := H
  replace H := oom H; obtain ⟨e3, H⟩ | ⟨b4, e3, H⟩ := H
  · refine v1 (hY.t 0 rfl) (by decide) rfl rfl lmX11_182 liX11_handAt lvX11_X11_handAt msX11_handAt dX11_walk_2 (ceN e3 (t_X11_handAt (d + 2) hY c2)) rfl (Nat.le_of_ble_eq_true rfl) (Nat.le_refl _) ?_
    refine g_astore dX11_walk_5 (Nat.le_of_ble_eq_true rfl) rfl rfl rfl ?_
    refine g_aload dX11_walk_7 rfl rfl ?_
    refine e_ifnullN (tgt := 30) dX11_walk_9 (by decide) ?_
    refine e_bipush (v := (-2 : Int32)) dX11_walk_30 (by decide) ?_
    obtain rfl := Option.some.inj H
    exact z_iret rfl rfl dX11_walk_32 rfl rfl
  · refine v1 (hY.t 0 rfl) (by decide) rfl rfl lmX11_182 liX11_handAt lvX11_X11_handAt msX11_handAt dX11_walk_2 (ceS e3 (t_X11_handAt (d + 2) hY c2)) rfl (Nat.le_of_ble_eq_true rfl) (Nat.le_refl _) ?_
    refine g_astore dX11_walk_5 (Nat.le_of_ble_eq_true rfl) rfl rfl rfl ?_
    refine g_aload dX11_walk_7 rfl rfl ?_
    refine e_ifnull dX11_walk_9 ?_
    refine e_iload_n dX11_walk_12 rfl ?_
    refine e_iconst (v := (0 : Int32)) dX11_walk_13 (by decide) ?_
    refine e_sipush (v := (200 : Int32)) dX11_walk_14 (by decide) ?_
    replace H := ob H; obtain ⟨q7, c8, H⟩ := H
    refine s1 lmX11_106 lsX11_isIn msX11_isIn dX11_walk_17 (t_X11_isIn (d + 5) c8) rfl (Nat.le_of_ble_eq_true rfl) (Nat.le_refl _) ?_
    refine e_ifB_eq (tgt := 30) dX11_walk_20 (by decide) (fun c9 => ?_) (fun c9 => ?_)
    · replace H := of_ (nb c9) H
      refine e_bipush (v := (-2 : Int32)) dX11_walk_30 (by decide) ?_
      obtain rfl := Option.some.inj H
      exact z_iret rfl rfl dX11_walk_32 rfl rfl
    · replace H := ot c9 H
      refine e_iload_n dX11_walk_23 rfl ?_
      replace H := ob H; obtain ⟨q10, c11, H⟩ := H
      refine s1 lmX11_186 lsX11_isBit msX11_isBit dX11_walk_24 (t_X11_isBit (d + 5) c11) rfl (Nat.le_of_ble_eq_true rfl) (Nat.le_refl _) ?_
      refine e_ifB_ne (tgt := 33) dX11_walk_27 (by decide) (fun c12 => ?_) (fun c12 => ?_)
      · replace H := ot c12 H
        refine e_iconst (v := (0 : Int32)) dX11_walk_33 (by decide) ?_
        refine e_istore dX11_walk_34 (Nat.le_of_ble_eq_true rfl) rfl rfl ?_
        replace H := ob H; obtain ⟨q45, c46, H⟩ := H
        have e47 := p_X11_walk_36 1000 c46
        have hY48 := hY.pr okX e47
        refine e_wk (lk1 (lk0 (lk1 (lk1 (lk1 (lk1 lkn)))))) (w_X11_walk_36 d 1000 hY c46 ?_)
        refine g_aload_n dX11_walk_95 rfl rfl ?_
        refine g_aload dX11_walk_96 rfl rfl ?_
        refine e_ldcw (v := ((1000000 : Int32))) lkX11_367 dX11_walk_98 ?_
        refine e_iload_n dX11_walk_101 rfl ?_
        replace H := ob H; obtain ⟨q49, c50, H⟩ := H
        refine v1 (hY48.t 0 rfl) (by decide) rfl rfl lmX11_368 liX11_leastFail lvX11_X11_leastFail msX11_leastFail dX11_walk_102 (t_X11_leastFail (d + 2) hY48 c50) rfl (Nat.le_of_ble_eq_true rfl) (Nat.le_refl _) ?_
        have e51 := p_X11_leastFail c50
        have hY52 := hY48.pr okX e51
        refine e_istore dX11_walk_105 (Nat.le_of_ble_eq_true rfl) rfl rfl ?_
        refine e_iload_n dX11_walk_107 rfl ?_
        refine e_if_ne (tgt := 114) dX11_walk_108 (by decide) (fun c53 => ?_) (fun c53 => ?_)
        · replace H := of_ c53 H
          refine e_iload dX11_walk_114 rfl ?_
          refine e_ldcw (v := ((1000000 : Int32))) lkX11_367 dX11_walk_116 ?_
          refine e_icmp_ne (tgt := 126) dX11_walk_119 (by decide) (fun c54 => ?_) (fun c54 => ?_)
          · replace H := of_ c54 H
            refine g_aload_n dX11_walk_126 rfl rfl ?_
            refine g_aload dX11_walk_127 rfl rfl ?_
            refine e_iload_n dX11_walk_129 rfl ?_
            refine e_iload dX11_walk_130 rfl ?_
            replace H := ob H; obtain ⟨q55, c56, H⟩ := H
            refine v1 (hY52.t 0 rfl) (by decide) rfl rfl lmX11_372 liX11_firstOfWalk lvX11_X11_firstOfWalk msX11_firstOfWalk dX11_walk_132 (t_X11_firstOfWalk (d + 1) hY52 c56) rfl (Nat.le_of_ble_eq_true rfl) (Nat.le_refl _) ?_
            have e57 := p_X11_firstOfWalk c56
            have hY58 := hY52.pr okX e57
            obtain rfl := Option.some.inj H
            exact z_iret rfl rfl dX11_walk_135 rfl rfl
          · replace H := ot c54 H
            refine e_iconst (v := (-1 : Int32)) dX11_walk_122 (by decide) ?_
            refine e_goto (tgt := 135) dX11_walk_123 (by decide) ?_
            obtain rfl := Option.some.inj H
            exact z_iret rfl rfl dX11_walk_135 rfl rfl
        · replace H := ot c53 H
          refine e_iload dX11_walk_111 rfl ?_
          obtain rfl := Option.some.inj H
          exact z_iret rfl rfl dX11_walk_113 rfl rfl
      · replace H := of_ (nb c12) H
        refine e_bipush (v := (-2 : Int32)) dX11_walk_30 (by decide) ?_
        obtain rfl := Option.some.inj H
        exact z_iret rfl rfl dX11_walk_32 rfl rfl
-- X11_image
def l_X11_image_46  : Nat → Int32 → HS → Option HS
  | 0, _, _ => none
  | n + 1, x1, h => (if hT h 33 = 1 then (Option.bind (f_Jx4a65c_size_8abf5 33 h) (fun q20 => (if q20 ≤ x1 then (some h) else (Option.bind (f_Jx4a65c_get_915e3 33 x1 h) (fun q24 => (om q24 none (fun b27 => (if isSt (hT h b27) = true then (Option.bind (f_X5_keep x1 b27 h) (fun q29 => (l_X11_image_46  n (x1 + (1 : Int32)) q29))) else none)))))))) else none)
set_option maxHeartbeats 4000000 in
set_option maxRecDepth 20000 in
theorem p_X11_image_46  : ∀ (n : Nat) {x1 : Int32} {h : HS} {q : HS}, l_X11_image_46  n x1 h = some q → Pr h q := by
  intro n
  induction n with
  | zero => intro x1 h q H; exact nz H
  | succ n ih =>
    intro x1 h q H
    unfold l_X11_image_46 at H
    replace H := og H; obtain ⟨g22, H⟩ := H
    replace H := ob H; obtain ⟨q20, c21, H⟩ := H
    replace H := oi H; obtain ⟨c23, H⟩ | ⟨c23, H⟩ := H
    · obtain rfl := Option.some.inj H
      exact Pr.rf
    · replace H := ob H; obtain ⟨q24, c25, H⟩ := H
      replace H := oom H; obtain ⟨e26, H⟩ | ⟨b27, e26, H⟩ := H
      · exact nz H
      · replace H := og H; obtain ⟨g28, H⟩ := H
        replace H := ob H; obtain ⟨q29, c30, H⟩ := H
        have e31 := p_X5_keep c30
        exact e31.tr (ih H)
set_option maxHeartbeats 4000000 in
set_option maxRecDepth 20000 in
theorem w_X11_image_46 {G : GE} (d : Nat)  {r : Option Value} {h' : HS}  : ∀ (n : Nat) {x1 : Int32} {h : HS} {q : HS}, LY TX h → l_X11_image_46  n x1 h = some q → En G (d + 3) miX11_image 82 [.ref 32, dum] [] q r h' → En G (d + 3) miX11_image 46 [.ref 32, .int x1] [] h r h' := by
  intro n
  induction n with
  | zero => intro x1 h q hYTX H kE; exact nz H
  | succ n ih =>
    intro x1 h q hYTX H kE
    unfold l_X11_image_46 at H
    refine e_iload_n dX11_image_46 rfl ?_
    refine g_aload_n dX11_image_47 rfl rfl ?_
    refine e_getR (hYTX.t 0 rfl) flX11_12_12 dX11_image_48 rfl (hYTX.r 0 rfl) ?_
    replace H := og H; obtain ⟨g22, H⟩ := H
    replace H := ob H; obtain ⟨q20, c21, H⟩ := H
    refine v1 (hYTX.t 1 rfl) (by decide) rfl rfl lmX11_114 liJx4a65c_size_8abf5 lvJx4a65c_Jx4a65c_size_8abf5 msJx4a65c_size_8abf5 dX11_image_51 (t_Jx4a65c_size_8abf5 (d + 2) c21) rfl (Nat.le_of_ble_eq_true rfl) (Nat.le_refl _) ?_
    refine e_icmp_ge (tgt := 82) dX11_image_54 (by decide) (fun c23 => ?_) (fun c23 => ?_)
    · replace H := ot c23 H
      obtain rfl := Option.some.inj H
      exact e_wk (lk1 (lk0 lkn)) kE
    · replace H := of_ c23 H
      refine g_aload_n dX11_image_57 rfl rfl ?_
      refine e_getR (hYTX.t 0 rfl) flX11_52_12 dX11_image_58 rfl (hYTX.r 7 rfl) ?_
      refine e_iload_n dX11_image_61 rfl ?_
      refine g_aload_n dX11_image_62 rfl rfl ?_
      refine e_getR (hYTX.t 0 rfl) flX11_12_12 dX11_image_63 rfl (hYTX.r 0 rfl) ?_
      refine e_iload_n dX11_image_66 rfl ?_
      replace H := ob H; obtain ⟨q24, c25, H⟩ := H
      replace H := oom H; obtain ⟨e26, H⟩ | ⟨b27, e26, H⟩ := H
      · refine v1 (hYTX.t 1 rfl) (by decide) rfl rfl lmX11_276 liJx4a65c_get_915e3 lvJx4a65c_Jx4a65c_get_915e3 msJx4a65c_get_915e3 dX11_image_67 (ceN e26 (t_Jx4a65c_get_915e3 (d + 0) c25)) rfl (Nat.le_of_ble_eq_true rfl) (Nat.le_refl _) ?_
        exact nz H
      · refine v1 (hYTX.t 1 rfl) (by decide) rfl rfl lmX11_276 liJx4a65c_get_915e3 lvJx4a65c_Jx4a65c_get_915e3 msJx4a65c_get_915e3 dX11_image_67 (ceS e26 (t_Jx4a65c_get_915e3 (d + 0) c25)) rfl (Nat.le_of_ble_eq_true rfl) (Nat.le_refl _) ?_
        replace H := og H; obtain ⟨g28, H⟩ := H
        refine e_castSt g28 lcX11_131 dX11_image_70 ?_
        replace H := ob H; obtain ⟨q29, c30, H⟩ := H
        refine v0 (hYTX.t 12 rfl) (by decide) rfl rfl lmX11_384 liX5_keep lvX5_X5_keep msX5_keep dX11_image_73 (t_X5_keep (d + 1) hYTX c30) rfl (Nat.le_of_ble_eq_true rfl) (Nat.le_refl _) ?_
        have e31 := p_X5_keep c30
        have hY32 := hYTX.pr okX e31
        refine e_iinc dX11_image_76 rfl (ii_ (by decide : Int32.ofInt (1) = (1 : Int32))) (Nat.le_of_ble_eq_true rfl) rfl rfl ?_
        refine e_goto (tgt := 46) dX11_image_79 (by decide) ?_
        exact e_wk (lk1 (lk1 lkn)) (ih hY32 H kE)
def f_X11_image  (h : HS) : Option (Int32 × HS) := (if hT (sI h 44 0 (1 : Int32)) 33 = 1 then (Option.bind (f_Jx4a65c_size_8abf5 33 (sI h 44 0 (1 : Int32))) (fun q1 => (bh (sI (sI (sI (sI h 44 0 (1 : Int32)) 44 1 q1) 44 2 (hI (sI (sI h 44 0 (1 : Int32)) 44 1 q1) 32 3)) 44 3 (hI (sI (sI (sI h 44 0 (1 : Int32)) 44 1 q1) 44 2 (hI (sI (sI h 44 0 (1 : Int32)) 44 1 q1) 32 3)) 32 5)) (fun h4 => (Option.bind (l_X11_image_46  1000 (0 : Int32) h4) (fun q33 => (some ((hI q33 32 5), q33)))))))) else none)
set_option maxHeartbeats 4000000 in
set_option maxRecDepth 20000 in
theorem p_X11_image  {h : HS} {q : (Int32 × HS)} (H : f_X11_image h = some q) : Pr h q.2 := by
  unfold f_X11_image at H
  replace H := og H; obtain ⟨g3, H⟩ := H
  replace H := ob H; obtain ⟨q1, c2, H⟩ := H
  replace H := obh H; obtain ⟨h4, e5, H⟩ := H
  replace H := ob H; obtain ⟨q33, c34, H⟩ := H
  have e35 := p_X11_image_46 1000 c34
  obtain rfl := Option.some.inj H
  exact ((kP e5 Pr.rf).tr e35)
set_option maxHeartbeats 4000000 in
set_option maxRecDepth 20000 in
theorem t_X11_image {G : GE} (d : Nat)  {h : HS} {q : (Int32 × HS)} (hY : LY TX h) (H : f_X11_image h = some q) : CE G (d + 3) yX11_image miX11_image [.ref 32] h (some (.int q.1)) (q.2) := by
  unfold f_X11_image at H
  refine ce_of rfl (by decide) (fun q => by first | rfl | cases q) (Nat.le_of_ble_eq_true rfl) rfl ?_
  refine g_aload_n dX11_image_0 rfl rfl ?_
  refine e_getR (hY.t 0 rfl) flX11_52_12 dX11_image_1 rfl (hY.r 7 rfl) ?_
  refine e_iconst (v := (1 : Int32)) dX11_image_4 (by decide) ?_
  refine e_putZ (hY.t 12 rfl) fpX11_375_6 rfl (Or.inr rfl) dX11_image_5 ?_
  refine g_aload_n dX11_image_8 rfl rfl ?_
  refine e_getR (hY.t 0 rfl) flX11_52_12 dX11_image_9 rfl (hY.r 7 rfl) ?_
  refine g_aload_n dX11_image_12 rfl rfl ?_
  refine e_getR (hY.t 0 rfl) flX11_12_12 dX11_image_13 rfl (hY.r 0 rfl) ?_
  replace H := og H; obtain ⟨g3, H⟩ := H
  replace H := ob H; obtain ⟨q1, c2, H⟩ := H
  refine v1 (hY.t 1 rfl) (by decide) rfl rfl lmX11_114 liJx4a65c_size_8abf5 lvJx4a65c_Jx4a65c_size_8abf5 msJx4a65c_size_8abf5 dX11_image_16 (t_Jx4a65c_size_8abf5 (d + 2) c2) rfl (Nat.le_of_ble_eq_true rfl) (Nat.le_refl _) ?_
  refine e_putI (hY.t 12 rfl) fpX11_379_6 rfl dX11_image_19 ?_
  refine g_aload_n dX11_image_22 rfl rfl ?_
  refine e_getR (hY.t 0 rfl) flX11_52_12 dX11_image_23 rfl (hY.r 7 rfl) ?_
  refine g_aload_n dX11_image_26 rfl rfl ?_
  refine e_getI (hY.t 0 rfl) flX11_22_12 dX11_image_27 rfl ?_
  refine e_putI (hY.t 12 rfl) fpX11_382_6 rfl dX11_image_30 ?_
  refine g_aload_n dX11_image_33 rfl rfl ?_
  refine e_getR (hY.t 0 rfl) flX11_52_12 dX11_image_34 rfl (hY.r 7 rfl) ?_
  refine g_aload_n dX11_image_37 rfl rfl ?_
  refine e_getI (hY.t 0 rfl) flX11_30_12 dX11_image_38 rfl ?_
  refine e_putI (hY.t 12 rfl) fpX11_383_6 rfl dX11_image_41 ?_
  replace H := obh H; obtain ⟨h4, e5, H⟩ := H
  refine e_hq e5 ?_
  have hY6 := kY e5 hY
  refine e_iconst (v := (0 : Int32)) dX11_image_44 (by decide) ?_
  refine e_istore_n dX11_image_45 (Nat.le_of_ble_eq_true rfl) rfl rfl ?_
  replace H := ob H; obtain ⟨q33, c34, H⟩ := H
  have e35 := p_X11_image_46 1000 c34
  have hY36 := hY6.pr okX e35
  refine e_wk (lk1 (lk1 lkn)) (w_X11_image_46 d 1000 hY6 c34 ?_)
  refine g_aload_n dX11_image_82 rfl rfl ?_
  refine e_getI (hY36.t 0 rfl) flX11_30_12 dX11_image_83 rfl ?_
  obtain rfl := Option.some.inj H
  exact z_iret rfl rfl dX11_image_86 rfl rfl
-- X11_back
def l_X11_back_37  : Nat → Int32 → HS → Option HS
  | 0, _, _ => none
  | n + 1, x1, h => (if (hI h 44 1) ≤ x1 then (some h) else (if hT h 33 = 1 then (Option.bind (f_Jx4a65c_size_8abf5 33 h) (fun q17 => (if q17 ≤ x1 then (some h) else (Option.bind (f_Jx4a65c_get_915e3 33 x1 h) (fun q21 => (om q21 none (fun b24 => (if isSt (hT h b24) = true then (Option.bind (f_X5_layBack x1 b24 h) (fun q26 => (l_X11_back_37  n (x1 + (1 : Int32)) q26))) else none)))))))) else none))
set_option maxHeartbeats 4000000 in
set_option maxRecDepth 20000 in
theorem p_X11_back_37  : ∀ (n : Nat) {x1 : Int32} {h : HS} {q : HS}, l_X11_back_37  n x1 h = some q → Pr h q := by
  intro n
  induction n with
  | zero => intro x1 h q H; exact nz H
  | succ n ih =>
    intro x1 h q H
    unfold l_X11_back_37 at H
    replace H := oi H; obtain ⟨c16, H⟩ | ⟨c16, H⟩ := H
    · obtain rfl := Option.some.inj H
      exact Pr.rf
    · replace H := og H; obtain ⟨g19, H⟩ := H
      replace H := ob H; obtain ⟨q17, c18, H⟩ := H
      replace H := oi H; obtain ⟨c20, H⟩ | ⟨c20, H⟩ := H
      · obtain rfl := Option.some.inj H
        exact Pr.rf
      · replace H := ob H; obtain ⟨q21, c22, H⟩ := H
        replace H := oom H; obtain ⟨e23, H⟩ | ⟨b24, e23, H⟩ := H
        · exact nz H
        · replace H := og H; obtain ⟨g25, H⟩ := H
          replace H := ob H; obtain ⟨q26, c27, H⟩ := H
          have e28 := p_X5_layBack c27
          exact e28.tr (ih H)
set_option maxHeartbeats 4000000 in
set_option maxRecDepth 20000 in
theorem w_X11_back_37 {G : GE} (d : Nat)  {r : Option Value} {h' : HS}  : ∀ (n : Nat) {x1 : Int32} {h : HS} {q : HS}, LY TX h → l_X11_back_37  n x1 h = some q → En G (d + 3) miX11_back 84 [.ref 32, dum] [] q r h' → En G (d + 3) miX11_back 37 [.ref 32, .int x1] [] h r h' := by
  intro n
  induction n with
  | zero => intro x1 h q hYTX H kE; exact nz H
  | succ n ih =>
    intro x1 h q hYTX H kE
    unfold l_X11_back_37 at H
    refine e_iload_n dX11_back_37 rfl ?_
    refine g_aload_n dX11_back_38 rfl rfl ?_
    refine e_getR (hYTX.t 0 rfl) flX11_52_12 dX11_back_39 rfl (hYTX.r 7 rfl) ?_
    refine e_getI (hYTX.t 12 rfl) flX11_379_6 dX11_back_42 rfl ?_
    refine e_icmp_ge (tgt := 84) dX11_back_45 (by decide) (fun c16 => ?_) (fun c16 => ?_)
    · replace H := ot c16 H
      obtain rfl := Option.some.inj H
      exact e_wk (lk1 (lk0 lkn)) kE
    · replace H := of_ c16 H
      refine e_iload_n dX11_back_48 rfl ?_
      refine g_aload_n dX11_back_49 rfl rfl ?_
      refine e_getR (hYTX.t 0 rfl) flX11_12_12 dX11_back_50 rfl (hYTX.r 0 rfl) ?_
      replace H := og H; obtain ⟨g19, H⟩ := H
      replace H := ob H; obtain ⟨q17, c18, H⟩ := H
      refine v1 (hYTX.t 1 rfl) (by decide) rfl rfl lmX11_114 liJx4a65c_size_8abf5 lvJx4a65c_Jx4a65c_size_8abf5 msJx4a65c_size_8abf5 dX11_back_53 (t_Jx4a65c_size_8abf5 (d + 2) c18) rfl (Nat.le_of_ble_eq_true rfl) (Nat.le_refl _) ?_
      refine e_icmp_ge (tgt := 84) dX11_back_56 (by decide) (fun c20 => ?_) (fun c20 => ?_)
      · replace H := ot c20 H
        obtain rfl := Option.some.inj H
        exact e_wk (lk1 (lk0 lkn)) kE
      · replace H := of_ c20 H
        refine g_aload_n dX11_back_59 rfl rfl ?_
        refine e_getR (hYTX.t 0 rfl) flX11_52_12 dX11_back_60 rfl (hYTX.r 7 rfl) ?_
        refine e_iload_n dX11_back_63 rfl ?_
        refine g_aload_n dX11_back_64 rfl rfl ?_
        refine e_getR (hYTX.t 0 rfl) flX11_12_12 dX11_back_65 rfl (hYTX.r 0 rfl) ?_
        refine e_iload_n dX11_back_68 rfl ?_
        replace H := ob H; obtain ⟨q21, c22, H⟩ := H
        replace H := oom H; obtain ⟨e23, H⟩ | ⟨b24, e23, H⟩ := H
        · refine v1 (hYTX.t 1 rfl) (by decide) rfl rfl lmX11_276 liJx4a65c_get_915e3 lvJx4a65c_Jx4a65c_get_915e3 msJx4a65c_get_915e3 dX11_back_69 (ceN e23 (t_Jx4a65c_get_915e3 (d + 0) c22)) rfl (Nat.le_of_ble_eq_true rfl) (Nat.le_refl _) ?_
          exact nz H
        · refine v1 (hYTX.t 1 rfl) (by decide) rfl rfl lmX11_276 liJx4a65c_get_915e3 lvJx4a65c_Jx4a65c_get_915e3 msJx4a65c_get_915e3 dX11_back_69 (ceS e23 (t_Jx4a65c_get_915e3 (d + 0) c22)) rfl (Nat.le_of_ble_eq_true rfl) (Nat.le_refl _) ?_
          replace H := og H; obtain ⟨g25, H⟩ := H
          refine e_castSt g25 lcX11_131 dX11_back_72 ?_
          replace H := ob H; obtain ⟨q26, c27, H⟩ := H
          refine v0 (hYTX.t 12 rfl) (by decide) rfl rfl lmX11_388 liX5_layBack lvX5_X5_layBack msX5_layBack dX11_back_75 (t_X5_layBack (d + 1) hYTX c27) rfl (Nat.le_of_ble_eq_true rfl) (Nat.le_refl _) ?_
          have e28 := p_X5_layBack c27
          have hY29 := hYTX.pr okX e28
          refine e_iinc dX11_back_78 rfl (ii_ (by decide : Int32.ofInt (1) = (1 : Int32))) (Nat.le_of_ble_eq_true rfl) rfl rfl ?_
          refine e_goto (tgt := 37) dX11_back_81 (by decide) ?_
          exact e_wk (lk1 (lk1 lkn)) (ih hY29 H kE)
def f_X11_back  (h : HS) : Option (Int32 × HS) := (if (hI h 44 0) = 0 then (some ((-3 : Int32), h)) else (Option.bind (l_X11_back_37  1000 (0 : Int32) (sI (sI h 32 3 (hI h 44 2)) 32 5 (hI (sI h 32 3 (hI h 44 2)) 44 3))) (fun q30 => (some ((hI q30 32 5), q30)))))
set_option maxHeartbeats 4000000 in
set_option maxRecDepth 20000 in
theorem p_X11_back  {h : HS} {q : (Int32 × HS)} (H : f_X11_back h = some q) : Pr h q.2 := by
  unfold f_X11_back at H
  replace H := oi H; obtain ⟨c1, H⟩ | ⟨c1, H⟩ := H
  · obtain rfl := Option.some.inj H
    exact Pr.rf
  · replace H := ob H; obtain ⟨q30, c31, H⟩ := H
    have e32 := p_X11_back_37 1000 c31
    obtain rfl := Option.some.inj H
    exact e32
set_option maxHeartbeats 4000000 in
set_option maxRecDepth 20000 in
theorem t_X11_back {G : GE} (d : Nat)  {h : HS} {q : (Int32 × HS)} (hY : LY TX h) (H : f_X11_back h = some q) : CE G (d + 3) yX11_back miX11_back [.ref 32] h (some (.int q.1)) (q.2) := by
  unfold f_X11_back at H
  refine ce_of rfl (by decide) (fun q => by first | rfl | cases q) (Nat.le_of_ble_eq_true rfl) rfl ?_
  refine g_aload_n dX11_back_0 rfl rfl ?_
  refine e_getR (hY.t 0 rfl) flX11_52_12 dX11_back_1 rfl (hY.r 7 rfl) ?_
  refine e_getI (hY.t 12 rfl) flX11_375_6 dX11_back_4 rfl ?_
  refine e_if_ne (tgt := 13) dX11_back_7 (by decide) (fun c1 => ?_) (fun c1 => ?_)
  · replace H := of_ c1 H
    refine g_aload_n dX11_back_13 rfl rfl ?_
    refine g_aload_n dX11_back_14 rfl rfl ?_
    refine e_getR (hY.t 0 rfl) flX11_52_12 dX11_back_15 rfl (hY.r 7 rfl) ?_
    refine e_getI (hY.t 12 rfl) flX11_382_6 dX11_back_18 rfl ?_
    refine e_putI (hY.t 0 rfl) fpX11_22_12 rfl dX11_back_21 ?_
    refine g_aload_n dX11_back_24 rfl rfl ?_
    refine g_aload_n dX11_back_25 rfl rfl ?_
    refine e_getR (hY.t 0 rfl) flX11_52_12 dX11_back_26 rfl (hY.r 7 rfl) ?_
    refine e_getI (hY.t 12 rfl) flX11_383_6 dX11_back_29 rfl ?_
    refine e_putI (hY.t 0 rfl) fpX11_30_12 rfl dX11_back_32 ?_
    refine e_iconst (v := (0 : Int32)) dX11_back_35 (by decide) ?_
    refine e_istore_n dX11_back_36 (Nat.le_of_ble_eq_true rfl) rfl rfl ?_
    replace H := ob H; obtain ⟨q30, c31, H⟩ := H
    have e32 := p_X11_back_37 1000 c31
    have hY33 := hY.pr okX e32
    refine e_wk (lk1 (lk1 lkn)) (w_X11_back_37 d 1000 hY c31 ?_)
    refine g_aload_n dX11_back_84 rfl rfl ?_
    refine e_getI (hY33.t 0 rfl) flX11_30_12 dX11_back_85 rfl ?_
    obtain rfl := Option.some.inj H
    exact z_iret rfl rfl dX11_back_88 rfl rfl
  · replace H := ot c1 H
    refine e_bipush (v := (-3 : Int32)) dX11_back_10 (by decide) ?_
    obtain rfl := Option.some.inj H
    exact z_iret rfl rfl dX11_back_12 rfl rfl
-- X11_triesWon
def l_X11_triesWon_4 (h : HS)  : Nat → Int32 → Int32 → Option Int32
  | 0, _, _ => none
  | n + 1, x1, x2 => (if (hI h 32 5) ≤ x2 then (some x1) else (Option.bind (f_X11_tryField x2 (3 : Int32) h) (fun q6 => (if q6 = (1 : Int32) then (l_X11_triesWon_4 h n (x1 + (1 : Int32)) (x2 + (1 : Int32))) else (l_X11_triesWon_4 h n (x1 + (0 : Int32)) (x2 + (1 : Int32)))))))
set_option maxHeartbeats 4000000 in
set_option maxRecDepth 20000 in
theorem w_X11_triesWon_4 {G : GE} (d : Nat)  {h : HS} {r : Option Value} {h' : HS} (hYTX : LY TX h) : ∀ (n : Nat) {x1 : Int32} {x2 : Int32} {q : Int32}, l_X11_triesWon_4 h n x1 x2 = some q → En G (d + 2) miX11_triesWon 36 [dum, .int q, dum] [] h r h' → En G (d + 2) miX11_triesWon 4 [.ref 32, .int x1, .int x2] [] h r h' := by
  intro n
  induction n with
  | zero => intro x1 x2 q H kE; exact nz H
  | succ n ih =>
    intro x1 x2 q H kE
    unfold l_X11_triesWon_4 at H
    refine e_iload_n dX11_triesWon_4 rfl ?_
    refine g_aload_n dX11_triesWon_5 rfl rfl ?_
    refine e_getI (hYTX.t 0 rfl) flX11_30_12 dX11_triesWon_6 rfl ?_
    refine e_icmp_ge (tgt := 36) dX11_triesWon_9 (by decide) (fun c5 => ?_) (fun c5 => ?_)
    · replace H := ot c5 H
      obtain rfl := Option.some.inj H
      exact e_wk (lk0 (lk1 (lk0 lkn))) kE
    · replace H := of_ c5 H
      refine e_iload_n dX11_triesWon_12 rfl ?_
      refine g_aload_n dX11_triesWon_13 rfl rfl ?_
      refine e_iload_n dX11_triesWon_14 rfl ?_
      refine e_iconst (v := (3 : Int32)) dX11_triesWon_15 (by decide) ?_
      replace H := ob H; obtain ⟨q6, c7, H⟩ := H
      refine v1 (hYTX.t 0 rfl) (by decide) rfl rfl lmX11_246 liX11_tryField lvX11_X11_tryField msX11_tryField dX11_triesWon_16 (t_X11_tryField (d + 0) hYTX c7) rfl (Nat.le_of_ble_eq_true rfl) (Nat.le_refl _) ?_
      refine e_iconst (v := (1 : Int32)) dX11_triesWon_19 (by decide) ?_
      refine e_icmp_ne (tgt := 27) dX11_triesWon_20 (by decide) (fun c8 => ?_) (fun c8 => ?_)
      · replace H := of_ c8 H
        refine e_iconst (v := (0 : Int32)) dX11_triesWon_27 (by decide) ?_
        refine e_iadd dX11_triesWon_28 ?_
        refine e_istore_n dX11_triesWon_29 (Nat.le_of_ble_eq_true rfl) rfl rfl ?_
        refine e_iinc dX11_triesWon_30 rfl (ii_ (by decide : Int32.ofInt (1) = (1 : Int32))) (Nat.le_of_ble_eq_true rfl) rfl rfl ?_
        refine e_goto (tgt := 4) dX11_triesWon_33 (by decide) ?_
        exact e_wk (lk1 (lk1 (lk1 lkn))) (ih H kE)
      · replace H := ot c8 H
        refine e_iconst (v := (1 : Int32)) dX11_triesWon_23 (by decide) ?_
        refine e_goto (tgt := 28) dX11_triesWon_24 (by decide) ?_
        refine e_iadd dX11_triesWon_28 ?_
        refine e_istore_n dX11_triesWon_29 (Nat.le_of_ble_eq_true rfl) rfl rfl ?_
        refine e_iinc dX11_triesWon_30 rfl (ii_ (by decide : Int32.ofInt (1) = (1 : Int32))) (Nat.le_of_ble_eq_true rfl) rfl rfl ?_
        refine e_goto (tgt := 4) dX11_triesWon_33 (by decide) ?_
        exact e_wk (lk1 (lk1 (lk1 lkn))) (ih H kE)
def f_X11_triesWon  (h : HS) : Option Int32 := (Option.bind (l_X11_triesWon_4 h 1000 (0 : Int32) (0 : Int32)) (fun q9 => (some q9)))
set_option maxHeartbeats 4000000 in
set_option maxRecDepth 20000 in
theorem t_X11_triesWon {G : GE} (d : Nat)  {h : HS} {q : Int32} (hY : LY TX h) (H : f_X11_triesWon h = some q) : CE G (d + 2) yX11_triesWon miX11_triesWon [.ref 32] h (some (.int q)) (h) := by
  unfold f_X11_triesWon at H
  refine ce_of rfl (by decide) (fun q => by first | rfl | cases q) (Nat.le_of_ble_eq_true rfl) rfl ?_
  refine e_iconst (v := (0 : Int32)) dX11_triesWon_0 (by decide) ?_
  refine e_istore_n dX11_triesWon_1 (Nat.le_of_ble_eq_true rfl) rfl rfl ?_
  refine e_iconst (v := (0 : Int32)) dX11_triesWon_2 (by decide) ?_
  refine e_istore_n dX11_triesWon_3 (Nat.le_of_ble_eq_true rfl) rfl rfl ?_
  replace H := ob H; obtain ⟨q9, c10, H⟩ := H
  refine e_wk (lk1 (lk1 (lk1 lkn))) (w_X11_triesWon_4 d hY 1000 c10 ?_)
  refine e_iload_n dX11_triesWon_36 rfl ?_
  obtain rfl := Option.some.inj H
  exact z_iret rfl rfl dX11_triesWon_37 rfl rfl
-- X11_count
def f_X11_count (p1 : Int32) (h : HS) : Option Int32 := (if p1 = (0 : Int32) then (if hT h 33 = 1 then (Option.bind (f_Jx4a65c_size_8abf5 33 h) (fun q17 => (some q17))) else none) else (if p1 = (1 : Int32) then (if hT h 34 = 1 then (Option.bind (f_Jx4a65c_size_8abf5 34 h) (fun q14 => (some q14))) else none) else (if p1 = (2 : Int32) then (some (hI h 32 5)) else (if p1 = (3 : Int32) then (some (hI h 32 8)) else (if p1 = (4 : Int32) then (if hT h 35 = 1 then (Option.bind (f_Jx4a65c_size_8abf5 35 h) (fun q11 => (some q11))) else none) else (if p1 = (5 : Int32) then (some (hI h 39 1)) else (if p1 = (6 : Int32) then (some (hI h 32 3)) else (if p1 = (7 : Int32) then (Option.bind (f_X11_triesWon h) (fun q9 => (some q9))) else (some (-2 : Int32))))))))))
set_option maxHeartbeats 4000000 in
set_option maxRecDepth 20000 in
theorem t_X11_count {G : GE} (d : Nat) {p1 : Int32} {h : HS} {q : Int32} (hY : LY TX h) (H : f_X11_count p1 h = some q) : CE G (d + 3) yX11_count miX11_count [.ref 32, .int p1] h (some (.int q)) (h) := by
  unfold f_X11_count at H
  refine ce_of rfl (by decide) (fun q => by first | rfl | cases q) (Nat.le_of_ble_eq_true rfl) rfl ?_
  refine e_iload_n dX11_count_0 rfl ?_
  by_cases k1 : p1 = (0 : Int32)
  · replace H := ot k1 H
    refine e_tableIn (off := 47) (tgt := 48) dX11_count_1 (by rw [k1]; decide) (by rw [k1]; decide) (by rw [k1]; rfl) (by decide) ?_
    refine g_aload_n dX11_count_48 rfl rfl ?_
    refine e_getR (hY.t 0 rfl) flX11_12_12 dX11_count_49 rfl (hY.r 0 rfl) ?_
    replace H := og H; obtain ⟨g19, H⟩ := H
    replace H := ob H; obtain ⟨q17, c18, H⟩ := H
    refine v1 (hY.t 1 rfl) (by decide) rfl rfl lmX11_114 liJx4a65c_size_8abf5 lvJx4a65c_Jx4a65c_size_8abf5 msJx4a65c_size_8abf5 dX11_count_52 (t_Jx4a65c_size_8abf5 (d + 2) c18) rfl (Nat.le_of_ble_eq_true rfl) (Nat.le_refl _) ?_
    obtain rfl := Option.some.inj H
    exact z_iret rfl rfl dX11_count_55 rfl rfl
  · replace H := of_ k1 H
    by_cases k2 : p1 = (1 : Int32)
    · replace H := ot k2 H
      refine e_tableIn (off := 55) (tgt := 56) dX11_count_1 (by rw [k2]; decide) (by rw [k2]; decide) (by rw [k2]; rfl) (by decide) ?_
      refine g_aload_n dX11_count_56 rfl rfl ?_
      refine e_getR (hY.t 0 rfl) flX11_16_12 dX11_count_57 rfl (hY.r 1 rfl) ?_
      replace H := og H; obtain ⟨g16, H⟩ := H
      replace H := ob H; obtain ⟨q14, c15, H⟩ := H
      refine v1 (hY.t 2 rfl) (by decide) rfl rfl lmX11_114 liJx4a65c_size_8abf5 lvJx4a65c_Jx4a65c_size_8abf5 msJx4a65c_size_8abf5 dX11_count_60 (t_Jx4a65c_size_8abf5 (d + 2) c15) rfl (Nat.le_of_ble_eq_true rfl) (Nat.le_refl _) ?_
      obtain rfl := Option.some.inj H
      exact z_iret rfl rfl dX11_count_63 rfl rfl
    · replace H := of_ k2 H
      by_cases k3 : p1 = (2 : Int32)
      · replace H := ot k3 H
        refine e_tableIn (off := 63) (tgt := 64) dX11_count_1 (by rw [k3]; decide) (by rw [k3]; decide) (by rw [k3]; rfl) (by decide) ?_
        refine g_aload_n dX11_count_64 rfl rfl ?_
        refine e_getI (hY.t 0 rfl) flX11_30_12 dX11_count_65 rfl ?_
        obtain rfl := Option.some.inj H
        exact z_iret rfl rfl dX11_count_68 rfl rfl
      · replace H := of_ k3 H
        by_cases k4 : p1 = (3 : Int32)
        · replace H := ot k4 H
          refine e_tableIn (off := 68) (tgt := 69) dX11_count_1 (by rw [k4]; decide) (by rw [k4]; decide) (by rw [k4]; rfl) (by decide) ?_
          refine g_aload_n dX11_count_69 rfl rfl ?_
          refine e_getI (hY.t 0 rfl) flX11_39_12 dX11_count_70 rfl ?_
          obtain rfl := Option.some.inj H
          exact z_iret rfl rfl dX11_count_73 rfl rfl
        · replace H := of_ k4 H
          by_cases k5 : p1 = (4 : Int32)
          · replace H := ot k5 H
            refine e_tableIn (off := 73) (tgt := 74) dX11_count_1 (by rw [k5]; decide) (by rw [k5]; decide) (by rw [k5]; rfl) (by decide) ?_
            refine g_aload_n dX11_count_74 rfl rfl ?_
            refine e_getR (hY.t 0 rfl) flX11_19_12 dX11_count_75 rfl (hY.r 2 rfl) ?_
            replace H := og H; obtain ⟨g13, H⟩ := H
            replace H := ob H; obtain ⟨q11, c12, H⟩ := H
            refine v1 (hY.t 3 rfl) (by decide) rfl rfl lmX11_114 liJx4a65c_size_8abf5 lvJx4a65c_Jx4a65c_size_8abf5 msJx4a65c_size_8abf5 dX11_count_78 (t_Jx4a65c_size_8abf5 (d + 2) c12) rfl (Nat.le_of_ble_eq_true rfl) (Nat.le_refl _) ?_
            obtain rfl := Option.some.inj H
            exact z_iret rfl rfl dX11_count_81 rfl rfl
          · replace H := of_ k5 H
            by_cases k6 : p1 = (5 : Int32)
            · replace H := ot k6 H
              refine e_tableIn (off := 81) (tgt := 82) dX11_count_1 (by rw [k6]; decide) (by rw [k6]; decide) (by rw [k6]; rfl) (by decide) ?_
              refine g_aload_n dX11_count_82 rfl rfl ?_
              refine e_getR (hY.t 0 rfl) flX11_45_12 dX11_count_83 rfl (hY.r 6 rfl) ?_
              refine e_getI (hY.t 7 rfl) flX11_284_7 dX11_count_86 rfl ?_
              obtain rfl := Option.some.inj H
              exact z_iret rfl rfl dX11_count_89 rfl rfl
            · replace H := of_ k6 H
              by_cases k7 : p1 = (6 : Int32)
              · replace H := ot k7 H
                refine e_tableIn (off := 89) (tgt := 90) dX11_count_1 (by rw [k7]; decide) (by rw [k7]; decide) (by rw [k7]; rfl) (by decide) ?_
                refine g_aload_n dX11_count_90 rfl rfl ?_
                refine e_getI (hY.t 0 rfl) flX11_22_12 dX11_count_91 rfl ?_
                obtain rfl := Option.some.inj H
                exact z_iret rfl rfl dX11_count_94 rfl rfl
              · replace H := of_ k7 H
                by_cases k8 : p1 = (7 : Int32)
                · replace H := ot k8 H
                  refine e_tableIn (off := 94) (tgt := 95) dX11_count_1 (by rw [k8]; decide) (by rw [k8]; decide) (by rw [k8]; rfl) (by decide) ?_
                  refine g_aload_n dX11_count_95 rfl rfl ?_
                  replace H := ob H; obtain ⟨q9, c10, H⟩ := H
                  refine v1 (hY.t 0 rfl) (by decide) rfl rfl lmX11_391 liX11_triesWon lvX11_X11_triesWon msX11_triesWon dX11_count_96 (t_X11_triesWon (d + 0) hY c10) rfl (Nat.le_of_ble_eq_true rfl) (Nat.le_refl _) ?_
                  obtain rfl := Option.some.inj H
                  exact z_iret rfl rfl dX11_count_99 rfl rfl
                · replace H := of_ k8 H
                  refine e_tableOut (tgt := 100) dX11_count_1 (by have q0 : p1.toInt ≠ 0 := i32_ne k1; have q1 : p1.toInt ≠ 1 := i32_ne k2; have q2 : p1.toInt ≠ 2 := i32_ne k3; have q3 : p1.toInt ≠ 3 := i32_ne k4; have q4 : p1.toInt ≠ 4 := i32_ne k5; have q5 : p1.toInt ≠ 5 := i32_ne k6; have q6 : p1.toInt ≠ 6 := i32_ne k7; have q7 : p1.toInt ≠ 7 := i32_ne k8; omega) (by decide) ?_
                  refine e_bipush (v := (-2 : Int32)) dX11_count_100 (by decide) ?_
                  obtain rfl := Option.some.inj H
                  exact z_iret rfl rfl dX11_count_102 rfl rfl
-- X11_isSheet
def f_X11_isSheet (p0 : Int32) : Option Bool := (Option.bind (f_X11_isIn p0 (0 : Int32) (3 : Int32)) (fun q1 => (some q1)))
set_option maxHeartbeats 4000000 in
set_option maxRecDepth 20000 in
theorem t_X11_isSheet {G : GE} (d : Nat) {p0 : Int32} {h : HS} {q : Bool} (H : f_X11_isSheet p0 = some q) : CE G (d + 1) yX11_isSheet miX11_isSheet [.int p0] h (some (.int (b2i q))) (h) := by
  unfold f_X11_isSheet at H
  refine ce_of rfl (by decide) (fun q => by first | rfl | cases q) (Nat.le_of_ble_eq_true rfl) rfl ?_
  refine e_iload_n dX11_isSheet_0 rfl ?_
  refine e_iconst (v := (0 : Int32)) dX11_isSheet_1 (by decide) ?_
  refine e_iconst (v := (3 : Int32)) dX11_isSheet_2 (by decide) ?_
  replace H := ob H; obtain ⟨q1, c2, H⟩ := H
  refine s1 lmX11_106 lsX11_isIn msX11_isIn dX11_isSheet_3 (t_X11_isIn (d + 0) c2) rfl (Nat.le_of_ble_eq_true rfl) (Nat.le_refl _) ?_
  obtain rfl := Option.some.inj H
  exact z_bret rfl dX11_isSheet_6 rfl rfl
-- X11_sheet
def f_X11_sheet (p1 : Int32) (p2 : Int32) (p3 : Int32) (h : HS) : Option (Int32 × HS) := (Option.bind (f_X11_isSheet p1) (fun q1 => (if q1 = true then (Option.bind (f_X11_isIn p2 (-1 : Int32) (2 : Int32)) (fun q4 => (if q4 = true then (if p2 < 0 then (if p2 < 0 then (if p2 < 0 then (if ixb p1 4 = true then (if ixb p1 4 = true then (some ((1 : Int32), (sI (sR h 46 p1.toNatClampNeg none) 47 p1.toNatClampNeg p2))) else none) else none) else (if nab p3 = true then (if hT h (hN h) = 0 then (bh (hNew h 15 p3.toNatClampNeg p3.toNatClampNeg) (fun h18 => (if ixb p1 4 = true then (if ixb p1 4 = true then (some ((1 : Int32), (sI (sR h18 46 p1.toNatClampNeg (some (hN h))) 47 p1.toNatClampNeg p2))) else none) else none))) else none) else none)) else (if 0 ≤ p3 then (if p2 < 0 then (if ixb p1 4 = true then (if ixb p1 4 = true then (some ((1 : Int32), (sI (sR h 46 p1.toNatClampNeg none) 47 p1.toNatClampNeg p2))) else none) else none) else (if nab p3 = true then (if hT h (hN h) = 0 then (bh (hNew h 15 p3.toNatClampNeg p3.toNatClampNeg) (fun h35 => (if ixb p1 4 = true then (if ixb p1 4 = true then (some ((1 : Int32), (sI (sR h35 46 p1.toNatClampNeg (some (hN h))) 47 p1.toNatClampNeg p2))) else none) else none))) else none) else none)) else (some ((-14 : Int32), h)))) else (if p3 ≤ (40 : Int32) then (if p2 < 0 then (if p2 < 0 then (if ixb p1 4 = true then (if ixb p1 4 = true then (some ((1 : Int32), (sI (sR h 46 p1.toNatClampNeg none) 47 p1.toNatClampNeg p2))) else none) else none) else (if nab p3 = true then (if hT h (hN h) = 0 then (bh (hNew h 15 p3.toNatClampNeg p3.toNatClampNeg) (fun h53 => (if ixb p1 4 = true then (if ixb p1 4 = true then (some ((1 : Int32), (sI (sR h53 46 p1.toNatClampNeg (some (hN h))) 47 p1.toNatClampNeg p2))) else none) else none))) else none) else none)) else (if 0 ≤ p3 then (if p2 < 0 then (if ixb p1 4 = true then (if ixb p1 4 = true then (some ((1 : Int32), (sI (sR h 46 p1.toNatClampNeg none) 47 p1.toNatClampNeg p2))) else none) else none) else (if nab p3 = true then (if hT h (hN h) = 0 then (bh (hNew h 15 p3.toNatClampNeg p3.toNatClampNeg) (fun h70 => (if ixb p1 4 = true then (if ixb p1 4 = true then (some ((1 : Int32), (sI (sR h70 46 p1.toNatClampNeg (some (hN h))) 47 p1.toNatClampNeg p2))) else none) else none))) else none) else none)) else (some ((-14 : Int32), h)))) else (some ((-2 : Int32), h)))) else (some ((-2 : Int32), h))))) else (some ((-2 : Int32), h)))))
set_option maxHeartbeats 4000000 in
set_option maxRecDepth 20000 in
theorem p_X11_sheet {p1 : Int32} {p2 : Int32} {p3 : Int32} {h : HS} {q : (Int32 × HS)} (H : f_X11_sheet p1 p2 p3 h = some q) : Pr h q.2 := by
  unfold f_X11_sheet at H
  replace H := ob H; obtain ⟨q1, c2, H⟩ := H
  replace H := oi H; obtain ⟨c3, H⟩ | ⟨c3, H⟩ := H
  · replace H := ob H; obtain ⟨q4, c5, H⟩ := H
    replace H := oi H; obtain ⟨c6, H⟩ | ⟨c6, H⟩ := H
    · replace H := oi H; obtain ⟨c7, H⟩ | ⟨c7, H⟩ := H
      · replace H := oi H; obtain ⟨c8, H⟩ | ⟨c8, H⟩ := H
        · replace H := oi H; obtain ⟨c9, H⟩ | ⟨c9, H⟩ := H
          · replace H := og H; obtain ⟨g10, H⟩ := H
            have e11 := Pr.sR (h := h) (a := 46) (k := p1.toNatClampNeg) (v := none) Pr.rf (fixR_no (by decide))
            replace H := og H; obtain ⟨g13, H⟩ := H
            obtain rfl := Option.some.inj H
            exact e11
          · replace H := og H; obtain ⟨g14, H⟩ := H
            replace H := og H; obtain ⟨g15, H⟩ := H
            have e16 := Pr.nw (h := h) (kd := 15) (ln := p3.toNatClampNeg) (ns := p3.toNatClampNeg) Pr.rf g15
            replace H := obh H; obtain ⟨h18, e19, H⟩ := H
            replace H := og H; obtain ⟨g21, H⟩ := H
            have e22 := Pr.sR (h := h18) (a := 46) (k := p1.toNatClampNeg) (v := (some (hN h))) Pr.rf (fixR_no (by decide))
            replace H := og H; obtain ⟨g24, H⟩ := H
            obtain rfl := Option.some.inj H
            exact ((kP e19 e16).tr e22)
        · replace H := oi H; obtain ⟨c25, H⟩ | ⟨c25, H⟩ := H
          · replace H := oi H; obtain ⟨c26, H⟩ | ⟨c26, H⟩ := H
            · replace H := og H; obtain ⟨g27, H⟩ := H
              have e28 := Pr.sR (h := h) (a := 46) (k := p1.toNatClampNeg) (v := none) Pr.rf (fixR_no (by decide))
              replace H := og H; obtain ⟨g30, H⟩ := H
              obtain rfl := Option.some.inj H
              exact e28
            · replace H := og H; obtain ⟨g31, H⟩ := H
              replace H := og H; obtain ⟨g32, H⟩ := H
              have e33 := Pr.nw (h := h) (kd := 15) (ln := p3.toNatClampNeg) (ns := p3.toNatClampNeg) Pr.rf g32
              replace H := obh H; obtain ⟨h35, e36, H⟩ := H
              replace H := og H; obtain ⟨g38, H⟩ := H
              have e39 := Pr.sR (h := h35) (a := 46) (k := p1.toNatClampNeg) (v := (some (hN h))) Pr.rf (fixR_no (by decide))
              replace H := og H; obtain ⟨g41, H⟩ := H
              obtain rfl := Option.some.inj H
              exact ((kP e36 e33).tr e39)
          · obtain rfl := Option.some.inj H
            exact Pr.rf
      · replace H := oi H; obtain ⟨c42, H⟩ | ⟨c42, H⟩ := H
        · replace H := oi H; obtain ⟨c43, H⟩ | ⟨c43, H⟩ := H
          · replace H := oi H; obtain ⟨c44, H⟩ | ⟨c44, H⟩ := H
            · replace H := og H; obtain ⟨g45, H⟩ := H
              have e46 := Pr.sR (h := h) (a := 46) (k := p1.toNatClampNeg) (v := none) Pr.rf (fixR_no (by decide))
              replace H := og H; obtain ⟨g48, H⟩ := H
              obtain rfl := Option.some.inj H
              exact e46
            · replace H := og H; obtain ⟨g49, H⟩ := H
              replace H := og H; obtain ⟨g50, H⟩ := H
              have e51 := Pr.nw (h := h) (kd := 15) (ln := p3.toNatClampNeg) (ns := p3.toNatClampNeg) Pr.rf g50
              replace H := obh H; obtain ⟨h53, e54, H⟩ := H
              replace H := og H; obtain ⟨g56, H⟩ := H
              have e57 := Pr.sR (h := h53) (a := 46) (k := p1.toNatClampNeg) (v := (some (hN h))) Pr.rf (fixR_no (by decide))
              replace H := og H; obtain ⟨g59, H⟩ := H
              obtain rfl := Option.some.inj H
              exact ((kP e54 e51).tr e57)
          · replace H := oi H; obtain ⟨c60, H⟩ | ⟨c60, H⟩ := H
            · replace H := oi H; obtain ⟨c61, H⟩ | ⟨c61, H⟩ := H
              · replace H := og H; obtain ⟨g62, H⟩ := H
                have e63 := Pr.sR (h := h) (a := 46) (k := p1.toNatClampNeg) (v := none) Pr.rf (fixR_no (by decide))
                replace H := og H; obtain ⟨g65, H⟩ := H
                obtain rfl := Option.some.inj H
                exact e63
              · replace H := og H; obtain ⟨g66, H⟩ := H
                replace H := og H; obtain ⟨g67, H⟩ := H
                have e68 := Pr.nw (h := h) (kd := 15) (ln := p3.toNatClampNeg) (ns := p3.toNatClampNeg) Pr.rf g67
                replace H := obh H; obtain ⟨h70, e71, H⟩ := H
                replace H := og H; obtain ⟨g73, H⟩ := H
                have e74 := Pr.sR (h := h70) (a := 46) (k := p1.toNatClampNeg) (v := (some (hN h))) Pr.rf (fixR_no (by decide))
                replace H := og H; obtain ⟨g76, H⟩ := H
                obtain rfl := Option.some.inj H
                exact ((kP e71 e68).tr e74)
            · obtain rfl := Option.some.inj H
              exact Pr.rf
        · obtain rfl := Option.some.inj H
          exact Pr.rf
    · obtain rfl := Option.some.inj H
      exact Pr.rf
  · obtain rfl := Option.some.inj H
    exact Pr.rf
set_option maxHeartbeats 4000000 in
set_option maxRecDepth 20000 in
theorem t_X11_sheet {G : GE} (d : Nat) {p1 : Int32} {p2 : Int32} {p3 : Int32} {h : HS} {q : (Int32 × HS)} (hY : LY TX h) (H : f_X11_sheet p1 p2 p3 h = some q) : CE G (d + 2) yX11_sheet miX11_sheet [.ref 32, .int p1, .int p2, .int p3] h (some (.int q.1)) (q.2) := by
  unfold f_X11_sheet at H
  refine ce_of rfl (by decide) (fun q => by first | rfl | cases q) (Nat.le_of_ble_eq_true rfl) rfl ?_
  refine e_iload_n dX11_sheet_0 rfl ?_
  replace H := ob H; obtain ⟨q1, c2, H⟩ := H
  refine s1 lmX11_410 lsX11_isSheet msX11_isSheet dX11_sheet_1 (t_X11_isSheet (d + 0) c2) rfl (Nat.le_of_ble_eq_true rfl) (Nat.le_refl _) ?_
  refine e_ifB_eq (tgt := 26) dX11_sheet_4 (by decide) (fun c3 => ?_) (fun c3 => ?_)
  · replace H := of_ (nb c3) H
    refine e_bipush (v := (-2 : Int32)) dX11_sheet_26 (by decide) ?_
    obtain rfl := Option.some.inj H
    exact z_iret rfl rfl dX11_sheet_28 rfl rfl
  · replace H := ot c3 H
    refine e_iload_n dX11_sheet_7 rfl ?_
    refine e_iconst (v := (-1 : Int32)) dX11_sheet_8 (by decide) ?_
    refine e_iconst (v := (2 : Int32)) dX11_sheet_9 (by decide) ?_
    replace H := ob H; obtain ⟨q4, c5, H⟩ := H
    refine s1 lmX11_106 lsX11_isIn msX11_isIn dX11_sheet_10 (t_X11_isIn (d + 1) c5) rfl (Nat.le_of_ble_eq_true rfl) (Nat.le_refl _) ?_
    refine e_ifB_eq (tgt := 26) dX11_sheet_13 (by decide) (fun c6 => ?_) (fun c6 => ?_)
    · replace H := of_ (nb c6) H
      refine e_bipush (v := (-2 : Int32)) dX11_sheet_26 (by decide) ?_
      obtain rfl := Option.some.inj H
      exact z_iret rfl rfl dX11_sheet_28 rfl rfl
    · replace H := ot c6 H
      refine e_iload_n dX11_sheet_16 rfl ?_
      refine e_if_lt (tgt := 29) dX11_sheet_17 (by decide) (fun c7 => ?_) (fun c7 => ?_)
      · replace H := ot c7 H
        refine e_iload_n dX11_sheet_29 rfl ?_
        refine e_if_lt (tgt := 40) dX11_sheet_30 (by decide) (fun c8 => ?_) (fun c8 => ?_)
        · replace H := ot c8 H
          refine g_aload_n dX11_sheet_40 rfl rfl ?_
          refine e_getR (hY.t 0 rfl) flX11_57_12 dX11_sheet_41 rfl (hY.r 8 rfl) ?_
          refine e_iload_n dX11_sheet_44 rfl ?_
          refine e_iload_n dX11_sheet_45 rfl ?_
          refine e_if_lt (tgt := 55) dX11_sheet_46 (by decide) (fun c9 => ?_) (fun c9 => ?_)
          · replace H := ot c9 H
            refine e_null dX11_sheet_55 ?_
            replace H := og H; obtain ⟨g10, H⟩ := H
            refine e_aastN (hY.t 14 rfl) rfl (ixb_y (hY.n 14 rfl) g10) dX11_sheet_56 ?_
            have e11 := Pr.sR (h := h) (a := 46) (k := p1.toNatClampNeg) (v := none) Pr.rf (fixR_no (by decide))
            have hY12 := hY.pr okX e11
            refine g_aload_n dX11_sheet_57 rfl rfl ?_
            refine e_getR (hY12.t 0 rfl) flX11_61_12 dX11_sheet_58 rfl (hY12.r 9 rfl) ?_
            refine e_iload_n dX11_sheet_61 rfl ?_
            refine e_iload_n dX11_sheet_62 rfl ?_
            replace H := og H; obtain ⟨g13, H⟩ := H
            refine e_iast (hY12.t 15 rfl) (ixb_y (hY12.n 15 rfl) g13) dX11_sheet_63 ?_
            refine e_iconst (v := (1 : Int32)) dX11_sheet_64 (by decide) ?_
            obtain rfl := Option.some.inj H
            exact z_iret rfl rfl dX11_sheet_65 rfl rfl
          · replace H := of_ c9 H
            refine e_iload_n dX11_sheet_49 rfl ?_
            replace H := og H; obtain ⟨g14, H⟩ := H
            replace H := og H; obtain ⟨g15, H⟩ := H
            refine e_newa (kd := 15) rfl (by decide) la_int (nab_t g14).1 (nab_t g14).2 dX11_sheet_50 ?_
            have e16 := Pr.nw (h := h) (kd := 15) (ln := p3.toNatClampNeg) (ns := p3.toNatClampNeg) Pr.rf g15
            have hY17 := hY.pr okX e16
            replace H := obh H; obtain ⟨h18, e19, H⟩ := H
            refine e_hq e19 ?_
            have hY20 := kY e19 hY17
            refine e_goto (tgt := 56) dX11_sheet_52 (by decide) ?_
            replace H := og H; obtain ⟨g21, H⟩ := H
            refine e_aastI (hY20.t 14 rfl) rfl (ixb_y (hY20.n 14 rfl) g21) (kT e19 hT_new) dX11_sheet_56 ?_
            have e22 := Pr.sR (h := h18) (a := 46) (k := p1.toNatClampNeg) (v := (some (hN h))) Pr.rf (fixR_no (by decide))
            have hY23 := hY20.pr okX e22
            refine g_aload_n dX11_sheet_57 rfl rfl ?_
            refine e_getR (hY23.t 0 rfl) flX11_61_12 dX11_sheet_58 rfl (hY23.r 9 rfl) ?_
            refine e_iload_n dX11_sheet_61 rfl ?_
            refine e_iload_n dX11_sheet_62 rfl ?_
            replace H := og H; obtain ⟨g24, H⟩ := H
            refine e_iast (hY23.t 15 rfl) (ixb_y (hY23.n 15 rfl) g24) dX11_sheet_63 ?_
            refine e_iconst (v := (1 : Int32)) dX11_sheet_64 (by decide) ?_
            obtain rfl := Option.some.inj H
            exact z_iret rfl rfl dX11_sheet_65 rfl rfl
        · replace H := of_ c8 H
          refine e_iload_n dX11_sheet_33 rfl ?_
          refine e_if_ge (tgt := 40) dX11_sheet_34 (by decide) (fun c25 => ?_) (fun c25 => ?_)
          · replace H := ot c25 H
            refine g_aload_n dX11_sheet_40 rfl rfl ?_
            refine e_getR (hY.t 0 rfl) flX11_57_12 dX11_sheet_41 rfl (hY.r 8 rfl) ?_
            refine e_iload_n dX11_sheet_44 rfl ?_
            refine e_iload_n dX11_sheet_45 rfl ?_
            refine e_if_lt (tgt := 55) dX11_sheet_46 (by decide) (fun c26 => ?_) (fun c26 => ?_)
            · replace H := ot c26 H
              refine e_null dX11_sheet_55 ?_
              replace H := og H; obtain ⟨g27, H⟩ := H
              refine e_aastN (hY.t 14 rfl) rfl (ixb_y (hY.n 14 rfl) g27) dX11_sheet_56 ?_
              have e28 := Pr.sR (h := h) (a := 46) (k := p1.toNatClampNeg) (v := none) Pr.rf (fixR_no (by decide))
              have hY29 := hY.pr okX e28
              refine g_aload_n dX11_sheet_57 rfl rfl ?_
              refine e_getR (hY29.t 0 rfl) flX11_61_12 dX11_sheet_58 rfl (hY29.r 9 rfl) ?_
              refine e_iload_n dX11_sheet_61 rfl ?_
              refine e_iload_n dX11_sheet_62 rfl ?_
              replace H := og H; obtain ⟨g30, H⟩ := H
              refine e_iast (hY29.t 15 rfl) (ixb_y (hY29.n 15 rfl) g30) dX11_sheet_63 ?_
              refine e_iconst (v := (1 : Int32)) dX11_sheet_64 (by decide) ?_
              obtain rfl := Option.some.inj H
              exact z_iret rfl rfl dX11_sheet_65 rfl rfl
            · replace H := of_ c26 H
              refine e_iload_n dX11_sheet_49 rfl ?_
              replace H := og H; obtain ⟨g31, H⟩ := H
              replace H := og H; obtain ⟨g32, H⟩ := H
              refine e_newa (kd := 15) rfl (by decide) la_int (nab_t g31).1 (nab_t g31).2 dX11_sheet_50 ?_
              have e33 := Pr.nw (h := h) (kd := 15) (ln := p3.toNatClampNeg) (ns := p3.toNatClampNeg) Pr.rf g32
              have hY34 := hY.pr okX e33
              replace H := obh H; obtain ⟨h35, e36, H⟩ := H
              refine e_hq e36 ?_
              have hY37 := kY e36 hY34
              refine e_goto (tgt := 56) dX11_sheet_52 (by decide) ?_
              replace H := og H; obtain ⟨g38, H⟩ := H
              refine e_aastI (hY37.t 14 rfl) rfl (ixb_y (hY37.n 14 rfl) g38) (kT e36 hT_new) dX11_sheet_56 ?_
              have e39 := Pr.sR (h := h35) (a := 46) (k := p1.toNatClampNeg) (v := (some (hN h))) Pr.rf (fixR_no (by decide))
              have hY40 := hY37.pr okX e39
              refine g_aload_n dX11_sheet_57 rfl rfl ?_
              refine e_getR (hY40.t 0 rfl) flX11_61_12 dX11_sheet_58 rfl (hY40.r 9 rfl) ?_
              refine e_iload_n dX11_sheet_61 rfl ?_
              refine e_iload_n dX11_sheet_62 rfl ?_
              replace H := og H; obtain ⟨g41, H⟩ := H
              refine e_iast (hY40.t 15 rfl) (ixb_y (hY40.n 15 rfl) g41) dX11_sheet_63 ?_
              refine e_iconst (v := (1 : Int32)) dX11_sheet_64 (by decide) ?_
              obtain rfl := Option.some.inj H
              exact z_iret rfl rfl dX11_sheet_65 rfl rfl
          · replace H := of_ c25 H
            refine e_bipush (v := (-14 : Int32)) dX11_sheet_37 (by decide) ?_
            obtain rfl := Option.some.inj H
            exact z_iret rfl rfl dX11_sheet_39 rfl rfl
      · replace H := of_ c7 H
        refine e_iload_n dX11_sheet_20 rfl ?_
        refine e_bipush (v := (40 : Int32)) dX11_sheet_21 (by decide) ?_
        refine e_icmp_le (tgt := 29) dX11_sheet_23 (by decide) (fun c42 => ?_) (fun c42 => ?_)
        · replace H := ot c42 H
          refine e_iload_n dX11_sheet_29 rfl ?_
          refine e_if_lt (tgt := 40) dX11_sheet_30 (by decide) (fun c43 => ?_) (fun c43 => ?_)
          · replace H := ot c43 H
            refine g_aload_n dX11_sheet_40 rfl rfl ?_
            refine e_getR (hY.t 0 rfl) flX11_57_12 dX11_sheet_41 rfl (hY.r 8 rfl) ?_
            refine e_iload_n dX11_sheet_44 rfl ?_
            refine e_iload_n dX11_sheet_45 rfl ?_
            refine e_if_lt (tgt := 55) dX11_sheet_46 (by decide) (fun c44 => ?_) (fun c44 => ?_)
            · replace H := ot c44 H
              refine e_null dX11_sheet_55 ?_
              replace H := og H; obtain ⟨g45, H⟩ := H
              refine e_aastN (hY.t 14 rfl) rfl (ixb_y (hY.n 14 rfl) g45) dX11_sheet_56 ?_
              have e46 := Pr.sR (h := h) (a := 46) (k := p1.toNatClampNeg) (v := none) Pr.rf (fixR_no (by decide))
              have hY47 := hY.pr okX e46
              refine g_aload_n dX11_sheet_57 rfl rfl ?_
              refine e_getR (hY47.t 0 rfl) flX11_61_12 dX11_sheet_58 rfl (hY47.r 9 rfl) ?_
              refine e_iload_n dX11_sheet_61 rfl ?_
              refine e_iload_n dX11_sheet_62 rfl ?_
              replace H := og H; obtain ⟨g48, H⟩ := H
              refine e_iast (hY47.t 15 rfl) (ixb_y (hY47.n 15 rfl) g48) dX11_sheet_63 ?_
              refine e_iconst (v := (1 : Int32)) dX11_sheet_64 (by decide) ?_
              obtain rfl := Option.some.inj H
              exact z_iret rfl rfl dX11_sheet_65 rfl rfl
            · replace H := of_ c44 H
              refine e_iload_n dX11_sheet_49 rfl ?_
              replace H := og H; obtain ⟨g49, H⟩ := H
              replace H := og H; obtain ⟨g50, H⟩ := H
              refine e_newa (kd := 15) rfl (by decide) la_int (nab_t g49).1 (nab_t g49).2 dX11_sheet_50 ?_
              have e51 := Pr.nw (h := h) (kd := 15) (ln := p3.toNatClampNeg) (ns := p3.toNatClampNeg) Pr.rf g50
              have hY52 := hY.pr okX e51
              replace H := obh H; obtain ⟨h53, e54, H⟩ := H
              refine e_hq e54 ?_
              have hY55 := kY e54 hY52
              refine e_goto (tgt := 56) dX11_sheet_52 (by decide) ?_
              replace H := og H; obtain ⟨g56, H⟩ := H
              refine e_aastI (hY55.t 14 rfl) rfl (ixb_y (hY55.n 14 rfl) g56) (kT e54 hT_new) dX11_sheet_56 ?_
              have e57 := Pr.sR (h := h53) (a := 46) (k := p1.toNatClampNeg) (v := (some (hN h))) Pr.rf (fixR_no (by decide))
              have hY58 := hY55.pr okX e57
              refine g_aload_n dX11_sheet_57 rfl rfl ?_
              refine e_getR (hY58.t 0 rfl) flX11_61_12 dX11_sheet_58 rfl (hY58.r 9 rfl) ?_
              refine e_iload_n dX11_sheet_61 rfl ?_
              refine e_iload_n dX11_sheet_62 rfl ?_
              replace H := og H; obtain ⟨g59, H⟩ := H
              refine e_iast (hY58.t 15 rfl) (ixb_y (hY58.n 15 rfl) g59) dX11_sheet_63 ?_
              refine e_iconst (v := (1 : Int32)) dX11_sheet_64 (by decide) ?_
              obtain rfl := Option.some.inj H
              exact z_iret rfl rfl dX11_sheet_65 rfl rfl
          · replace H := of_ c43 H
            refine e_iload_n dX11_sheet_33 rfl ?_
            refine e_if_ge (tgt := 40) dX11_sheet_34 (by decide) (fun c60 => ?_) (fun c60 => ?_)
            · replace H := ot c60 H
              refine g_aload_n dX11_sheet_40 rfl rfl ?_
              refine e_getR (hY.t 0 rfl) flX11_57_12 dX11_sheet_41 rfl (hY.r 8 rfl) ?_
              refine e_iload_n dX11_sheet_44 rfl ?_
              refine e_iload_n dX11_sheet_45 rfl ?_
              refine e_if_lt (tgt := 55) dX11_sheet_46 (by decide) (fun c61 => ?_) (fun c61 => ?_)
              · replace H := ot c61 H
                refine e_null dX11_sheet_55 ?_
                replace H := og H; obtain ⟨g62, H⟩ := H
                refine e_aastN (hY.t 14 rfl) rfl (ixb_y (hY.n 14 rfl) g62) dX11_sheet_56 ?_
                have e63 := Pr.sR (h := h) (a := 46) (k := p1.toNatClampNeg) (v := none) Pr.rf (fixR_no (by decide))
                have hY64 := hY.pr okX e63
                refine g_aload_n dX11_sheet_57 rfl rfl ?_
                refine e_getR (hY64.t 0 rfl) flX11_61_12 dX11_sheet_58 rfl (hY64.r 9 rfl) ?_
                refine e_iload_n dX11_sheet_61 rfl ?_
                refine e_iload_n dX11_sheet_62 rfl ?_
                replace H := og H; obtain ⟨g65, H⟩ := H
                refine e_iast (hY64.t 15 rfl) (ixb_y (hY64.n 15 rfl) g65) dX11_sheet_63 ?_
                refine e_iconst (v := (1 : Int32)) dX11_sheet_64 (by decide) ?_
                obtain rfl := Option.some.inj H
                exact z_iret rfl rfl dX11_sheet_65 rfl rfl
              · replace H := of_ c61 H
                refine e_iload_n dX11_sheet_49 rfl ?_
                replace H := og H; obtain ⟨g66, H⟩ := H
                replace H := og H; obtain ⟨g67, H⟩ := H
                refine e_newa (kd := 15) rfl (by decide) la_int (nab_t g66).1 (nab_t g66).2 dX11_sheet_50 ?_
                have e68 := Pr.nw (h := h) (kd := 15) (ln := p3.toNatClampNeg) (ns := p3.toNatClampNeg) Pr.rf g67
                have hY69 := hY.pr okX e68
                replace H := obh H; obtain ⟨h70, e71, H⟩ := H
                refine e_hq e71 ?_
                have hY72 := kY e71 hY69
                refine e_goto (tgt := 56) dX11_sheet_52 (by decide) ?_
                replace H := og H; obtain ⟨g73, H⟩ := H
                refine e_aastI (hY72.t 14 rfl) rfl (ixb_y (hY72.n 14 rfl) g73) (kT e71 hT_new) dX11_sheet_56 ?_
                have e74 := Pr.sR (h := h70) (a := 46) (k := p1.toNatClampNeg) (v := (some (hN h))) Pr.rf (fixR_no (by decide))
                have hY75 := hY72.pr okX e74
                refine g_aload_n dX11_sheet_57 rfl rfl ?_
                refine e_getR (hY75.t 0 rfl) flX11_61_12 dX11_sheet_58 rfl (hY75.r 9 rfl) ?_
                refine e_iload_n dX11_sheet_61 rfl ?_
                refine e_iload_n dX11_sheet_62 rfl ?_
                replace H := og H; obtain ⟨g76, H⟩ := H
                refine e_iast (hY75.t 15 rfl) (ixb_y (hY75.n 15 rfl) g76) dX11_sheet_63 ?_
                refine e_iconst (v := (1 : Int32)) dX11_sheet_64 (by decide) ?_
                obtain rfl := Option.some.inj H
                exact z_iret rfl rfl dX11_sheet_65 rfl rfl
            · replace H := of_ c60 H
              refine e_bipush (v := (-14 : Int32)) dX11_sheet_37 (by decide) ?_
              obtain rfl := Option.some.inj H
              exact z_iret rfl rfl dX11_sheet_39 rfl rfl
        · replace H := of_ c42 H
          refine e_bipush (v := (-2 : Int32)) dX11_sheet_26 (by decide) ?_
          obtain rfl := Option.some.inj H
          exact z_iret rfl rfl dX11_sheet_28 rfl rfl
-- X11_ofSort
def f_X11_ofSort (p0 : Int32) (p1 : Int32) : Option Int32 := (if p0 = (0 : Int32) then (some p1.toInt8.toInt32) else (if p0 = (1 : Int32) then (some p1.toInt16.toInt32) else (some p1)))
set_option maxHeartbeats 4000000 in
set_option maxRecDepth 20000 in
theorem t_X11_ofSort {G : GE} (d : Nat) {p0 : Int32} {p1 : Int32} {h : HS} {q : Int32} (H : f_X11_ofSort p0 p1 = some q) : CE G (d + 0) yX11_ofSort miX11_ofSort [.int p0, .int p1] h (some (.int q)) (h) := by
  unfold f_X11_ofSort at H
  refine ce_of rfl (by decide) (fun q => by first | rfl | cases q) (Nat.le_of_ble_eq_true rfl) rfl ?_
  refine e_iload_n dX11_ofSort_0 rfl ?_
  by_cases k1 : p0 = (0 : Int32)
  · replace H := ot k1 H
    refine e_lookup (off := 27) (tgt := 28) dX11_ofSort_1 (by decide) (by rw [k1]; decide) (by decide) ?_
    refine e_iload_n dX11_ofSort_28 rfl ?_
    refine e_i2b dX11_ofSort_29 ?_
    obtain rfl := Option.some.inj H
    exact z_iret rfl rfl dX11_ofSort_30 rfl rfl
  · replace H := of_ k1 H
    by_cases k2 : p0 = (1 : Int32)
    · replace H := ot k2 H
      refine e_lookup (off := 30) (tgt := 31) dX11_ofSort_1 (by decide) (by rw [k2]; decide) (by decide) ?_
      refine e_iload_n dX11_ofSort_31 rfl ?_
      refine e_i2s dX11_ofSort_32 ?_
      obtain rfl := Option.some.inj H
      exact z_iret rfl rfl dX11_ofSort_33 rfl rfl
    · replace H := of_ k2 H
      refine e_lookup (off := 33) (tgt := 34) dX11_ofSort_1 (by decide) (by have q0 := i32_ne k1; have q1 := i32_ne k2; simp [Op.lookupswitch.offset, *]) (by decide) ?_
      refine e_iload_n dX11_ofSort_34 rfl ?_
      obtain rfl := Option.some.inj H
      exact z_iret rfl rfl dX11_ofSort_35 rfl rfl
-- X11_cell
def f_X11_cell (p1 : Int32) (p2 : Int32) (p3 : Int32) (h : HS) : Option (Int32 × HS) := (Option.bind (f_X11_isSheet p1) (fun q1 => (if q1 = true then (if ixb p1 4 = true then (om (hR h 46 p1.toNatClampNeg) (some ((-11 : Int32), h)) (fun b5 => (if hT h b5 = 15 then (Option.bind (f_X11_isIn p2 (0 : Int32) ((nI (hLn h b5)) - (1 : Int32))) (fun q10 => (if q10 = true then (if ixb p1 4 = true then (Option.bind (f_X11_ofSort (hI h 47 p1.toNatClampNeg) p3) (fun q14 => (if ixb p2 (hLn h b5) = true then (some ((1 : Int32), (sI h b5 p2.toNatClampNeg q14))) else none))) else none) else (some ((-12 : Int32), h))))) else none))) else none) else (some ((-2 : Int32), h)))))
set_option maxHeartbeats 4000000 in
set_option maxRecDepth 20000 in
theorem p_X11_cell {p1 : Int32} {p2 : Int32} {p3 : Int32} {h : HS} {q : (Int32 × HS)} (H : f_X11_cell p1 p2 p3 h = some q) : Pr h q.2 := by
  unfold f_X11_cell at H
  replace H := ob H; obtain ⟨q1, c2, H⟩ := H
  replace H := oi H; obtain ⟨c3, H⟩ | ⟨c3, H⟩ := H
  · replace H := og H; obtain ⟨g4, H⟩ := H
    replace H := oom H; obtain ⟨e6, H⟩ | ⟨b5, e6, H⟩ := H
    · obtain rfl := Option.some.inj H
      exact Pr.rf
    · replace H := og H; obtain ⟨g9, H⟩ := H
      replace H := ob H; obtain ⟨q10, c11, H⟩ := H
      replace H := oi H; obtain ⟨c12, H⟩ | ⟨c12, H⟩ := H
      · replace H := og H; obtain ⟨g13, H⟩ := H
        replace H := ob H; obtain ⟨q14, c15, H⟩ := H
        replace H := og H; obtain ⟨g16, H⟩ := H
        obtain rfl := Option.some.inj H
        exact Pr.rf
      · obtain rfl := Option.some.inj H
        exact Pr.rf
  · obtain rfl := Option.some.inj H
    exact Pr.rf
set_option maxHeartbeats 4000000 in
set_option maxRecDepth 20000 in
theorem t_X11_cell {G : GE} (d : Nat) {p1 : Int32} {p2 : Int32} {p3 : Int32} {h : HS} {q : (Int32 × HS)} (hY : LY TX h) (H : f_X11_cell p1 p2 p3 h = some q) : CE G (d + 2) yX11_cell miX11_cell [.ref 32, .int p1, .int p2, .int p3] h (some (.int q.1)) (q.2) := by
  unfold f_X11_cell at H
  refine ce_of rfl (by decide) (fun q => by first | rfl | cases q) (Nat.le_of_ble_eq_true rfl) rfl ?_
  refine e_iload_n dX11_cell_0 rfl ?_
  replace H := ob H; obtain ⟨q1, c2, H⟩ := H
  refine s1 lmX11_410 lsX11_isSheet msX11_isSheet dX11_cell_1 (t_X11_isSheet (d + 0) c2) rfl (Nat.le_of_ble_eq_true rfl) (Nat.le_refl _) ?_
  refine e_ifB_ne (tgt := 10) dX11_cell_4 (by decide) (fun c3 => ?_) (fun c3 => ?_)
  · replace H := ot c3 H
    refine g_aload_n dX11_cell_10 rfl rfl ?_
    refine e_getR (hY.t 0 rfl) flX11_57_12 dX11_cell_11 rfl (hY.r 8 rfl) ?_
    refine e_iload_n dX11_cell_14 rfl ?_
    replace H := og H; obtain ⟨g4, H⟩ := H
    replace H := oom H; obtain ⟨e6, H⟩ | ⟨b5, e6, H⟩ := H
    · refine e_aald (v := .null) (hY.t 14 rfl) (by decide) (ixb_y (hY.n 14 rfl) g4) (by rw [e6]; rfl) dX11_cell_15 ?_
      refine g_astore dX11_cell_16 (Nat.le_of_ble_eq_true rfl) rfl rfl rfl ?_
      refine g_aload dX11_cell_18 rfl rfl ?_
      refine e_ifnonnullN dX11_cell_20 ?_
      refine e_bipush (v := (-11 : Int32)) dX11_cell_23 (by decide) ?_
      obtain rfl := Option.some.inj H
      exact z_iret rfl rfl dX11_cell_25 rfl rfl
    · refine e_aald (v := .ref b5) (hY.t 14 rfl) (by decide) (ixb_y (hY.n 14 rfl) g4) (by rw [e6]; rfl) dX11_cell_15 ?_
      refine g_astore dX11_cell_16 (Nat.le_of_ble_eq_true rfl) rfl rfl rfl ?_
      refine g_aload dX11_cell_18 rfl rfl ?_
      refine e_ifnonnull (tgt := 26) dX11_cell_20 (by decide) ?_
      refine e_iload_n dX11_cell_26 rfl ?_
      refine e_iconst (v := (0 : Int32)) dX11_cell_27 (by decide) ?_
      refine g_aload dX11_cell_28 rfl rfl ?_
      replace H := og H; obtain ⟨g9, H⟩ := H
      refine e_alen g9 (by decide) dX11_cell_30 ?_
      refine e_iconst (v := (1 : Int32)) dX11_cell_31 (by decide) ?_
      refine e_isub dX11_cell_32 ?_
      replace H := ob H; obtain ⟨q10, c11, H⟩ := H
      refine s1 lmX11_106 lsX11_isIn msX11_isIn dX11_cell_33 (t_X11_isIn (d + 1) c11) rfl (Nat.le_of_ble_eq_true rfl) (Nat.le_refl _) ?_
      refine e_ifB_ne (tgt := 42) dX11_cell_36 (by decide) (fun c12 => ?_) (fun c12 => ?_)
      · replace H := ot c12 H
        refine g_aload dX11_cell_42 rfl rfl ?_
        refine e_iload_n dX11_cell_44 rfl ?_
        refine g_aload_n dX11_cell_45 rfl rfl ?_
        refine e_getR (hY.t 0 rfl) flX11_61_12 dX11_cell_46 rfl (hY.r 9 rfl) ?_
        refine e_iload_n dX11_cell_49 rfl ?_
        replace H := og H; obtain ⟨g13, H⟩ := H
        refine e_iald (hY.t 15 rfl) (ixb_y (hY.n 15 rfl) g13) dX11_cell_50 ?_
        refine e_iload_n dX11_cell_51 rfl ?_
        replace H := ob H; obtain ⟨q14, c15, H⟩ := H
        refine s1 lmX11_413 lsX11_ofSort msX11_ofSort dX11_cell_52 (t_X11_ofSort (d + 1) c15) rfl (Nat.le_of_ble_eq_true rfl) (Nat.le_refl _) ?_
        replace H := og H; obtain ⟨g16, H⟩ := H
        refine e_iast g9 (ixb_y rfl g16) dX11_cell_55 ?_
        refine e_iconst (v := (1 : Int32)) dX11_cell_56 (by decide) ?_
        obtain rfl := Option.some.inj H
        exact z_iret rfl rfl dX11_cell_57 rfl rfl
      · replace H := of_ (nb c12) H
        refine e_bipush (v := (-12 : Int32)) dX11_cell_39 (by decide) ?_
        obtain rfl := Option.some.inj H
        exact z_iret rfl rfl dX11_cell_41 rfl rfl
  · replace H := of_ (nb c3) H
    refine e_bipush (v := (-2 : Int32)) dX11_cell_7 (by decide) ?_
    obtain rfl := Option.some.inj H
    exact z_iret rfl rfl dX11_cell_9 rfl rfl
-- X11_hasItems
def f_X11_hasItems (p0 : Nat) (p1 : Int32) (p2 : Int32) (h : HS) : Option Bool := (if p1 < 0 then (some false) else (if p2 < 0 then (some false) else (if hT h p0 = 15 then (if (nI (hLn h p0)) < p2 then (some false) else (if ((nI (hLn h p0)) - p2) < p1 then (some false) else (some true))) else none)))
set_option maxHeartbeats 4000000 in
set_option maxRecDepth 20000 in
theorem t_X11_hasItems {G : GE} (d : Nat) {p0 : Nat} {p1 : Int32} {p2 : Int32} {h : HS} {q : Bool} (H : f_X11_hasItems p0 p1 p2 h = some q) : CE G (d + 0) yX11_hasItems miX11_hasItems [.ref p0, .int p1, .int p2] h (some (.int (b2i q))) (h) := by
  unfold f_X11_hasItems at H
  refine ce_of rfl (by decide) (fun q => by first | rfl | cases q) (Nat.le_of_ble_eq_true rfl) rfl ?_
  refine e_iload_n dX11_hasItems_0 rfl ?_
  refine e_if_lt (tgt := 26) dX11_hasItems_1 (by decide) (fun c1 => ?_) (fun c1 => ?_)
  · replace H := ot c1 H
    refine e_iconst (v := (0 : Int32)) dX11_hasItems_26 (by decide) ?_
    obtain rfl := Option.some.inj H
    exact z_iret rfl rfl dX11_hasItems_27 rfl rfl
  · replace H := of_ c1 H
    refine e_iload_n dX11_hasItems_4 rfl ?_
    refine e_if_lt (tgt := 26) dX11_hasItems_5 (by decide) (fun c2 => ?_) (fun c2 => ?_)
    · replace H := ot c2 H
      refine e_iconst (v := (0 : Int32)) dX11_hasItems_26 (by decide) ?_
      obtain rfl := Option.some.inj H
      exact z_iret rfl rfl dX11_hasItems_27 rfl rfl
    · replace H := of_ c2 H
      refine e_iload_n dX11_hasItems_8 rfl ?_
      refine g_aload_n dX11_hasItems_9 rfl rfl ?_
      replace H := og H; obtain ⟨g3, H⟩ := H
      refine e_alen g3 (by decide) dX11_hasItems_10 ?_
      refine e_icmp_gt (tgt := 26) dX11_hasItems_11 (by decide) (fun c4 => ?_) (fun c4 => ?_)
      · replace H := ot c4 H
        refine e_iconst (v := (0 : Int32)) dX11_hasItems_26 (by decide) ?_
        obtain rfl := Option.some.inj H
        exact z_iret rfl rfl dX11_hasItems_27 rfl rfl
      · replace H := of_ c4 H
        refine e_iload_n dX11_hasItems_14 rfl ?_
        refine g_aload_n dX11_hasItems_15 rfl rfl ?_
        refine e_alen g3 (by decide) dX11_hasItems_16 ?_
        refine e_iload_n dX11_hasItems_17 rfl ?_
        refine e_isub dX11_hasItems_18 ?_
        refine e_icmp_gt (tgt := 26) dX11_hasItems_19 (by decide) (fun c5 => ?_) (fun c5 => ?_)
        · replace H := ot c5 H
          refine e_iconst (v := (0 : Int32)) dX11_hasItems_26 (by decide) ?_
          obtain rfl := Option.some.inj H
          exact z_iret rfl rfl dX11_hasItems_27 rfl rfl
        · replace H := of_ c5 H
          refine e_iconst (v := (1 : Int32)) dX11_hasItems_22 (by decide) ?_
          refine e_goto (tgt := 27) dX11_hasItems_23 (by decide) ?_
          obtain rfl := Option.some.inj H
          exact z_iret rfl rfl dX11_hasItems_27 rfl rfl
-- X11_copy
def f_X11_copy (p1 : Int32) (p2 : Int32) (p3 : Int32) (p4 : Int32) (p5 : Int32) (h : HS) : Option (Int32 × HS) := (Option.bind (f_X11_isSheet p1) (fun q1 => (if q1 = true then (Option.bind (f_X11_isSheet p3) (fun q4 => (if q4 = true then (if ixb p1 4 = true then (om (hR h 46 p1.toNatClampNeg) (if ixb p3 4 = true then (om (hR h 46 p3.toNatClampNeg) (some ((-11 : Int32), h)) (fun b11 => (some ((-11 : Int32), h)))) else none) (fun b8 => (if ixb p3 4 = true then (om (hR h 46 p3.toNatClampNeg) (some ((-11 : Int32), h)) (fun b16 => (if ixb p1 4 = true then (if ixb p3 4 = true then (if (hI h 47 p1.toNatClampNeg) = (hI h 47 p3.toNatClampNeg) then (Option.bind (f_X11_hasItems b8 p2 p5 h) (fun q25 => (if q25 = true then (Option.bind (f_X11_hasItems b16 p4 p5 h) (fun q28 => (if q28 = true then (if hT h b8 = 15 then (if hT h b16 = 15 then (if cpb p2 p4 p5 (hLn h b8) (hLn h b16) = true then (some (p5, (sC h b8 p2.toNatClampNeg b16 p4.toNatClampNeg p5.toNatClampNeg))) else none) else none) else none) else (some ((-12 : Int32), h))))) else (some ((-12 : Int32), h))))) else (some ((-13 : Int32), h))) else none) else none))) else none))) else none) else (some ((-2 : Int32), h))))) else (some ((-2 : Int32), h)))))
set_option maxHeartbeats 4000000 in
set_option maxRecDepth 20000 in
theorem p_X11_copy {p1 : Int32} {p2 : Int32} {p3 : Int32} {p4 : Int32} {p5 : Int32} {h : HS} {q : (Int32 × HS)} (H : f_X11_copy p1 p2 p3 p4 p5 h = some q) : Pr h q.2 := by
  unfold f_X11_copy at H
  replace H := ob H; obtain ⟨q1, c2, H⟩ := H
  replace H := oi H; obtain ⟨c3, H⟩ | ⟨c3, H⟩ := H
  · replace H := ob H; obtain ⟨q4, c5, H⟩ := H
    replace H := oi H; obtain ⟨c6, H⟩ | ⟨c6, H⟩ := H
    · replace H := og H; obtain ⟨g7, H⟩ := H
      replace H := oom H; obtain ⟨e9, H⟩ | ⟨b8, e9, H⟩ := H
      · replace H := og H; obtain ⟨g10, H⟩ := H
        replace H := oom H; obtain ⟨e12, H⟩ | ⟨b11, e12, H⟩ := H
        · obtain rfl := Option.some.inj H
          exact Pr.rf
        · obtain rfl := Option.some.inj H
          exact Pr.rf
      · replace H := og H; obtain ⟨g15, H⟩ := H
        replace H := oom H; obtain ⟨e17, H⟩ | ⟨b16, e17, H⟩ := H
        · obtain rfl := Option.some.inj H
          exact Pr.rf
        · replace H := og H; obtain ⟨g22, H⟩ := H
          replace H := og H; obtain ⟨g23, H⟩ := H
          replace H := oi H; obtain ⟨c24, H⟩ | ⟨c24, H⟩ := H
          · replace H := ob H; obtain ⟨q25, c26, H⟩ := H
            replace H := oi H; obtain ⟨c27, H⟩ | ⟨c27, H⟩ := H
            · replace H := ob H; obtain ⟨q28, c29, H⟩ := H
              replace H := oi H; obtain ⟨c30, H⟩ | ⟨c30, H⟩ := H
              · replace H := og H; obtain ⟨g31, H⟩ := H
                replace H := og H; obtain ⟨g32, H⟩ := H
                replace H := og H; obtain ⟨g33, H⟩ := H
                obtain rfl := Option.some.inj H
                exact Pr.rf
              · obtain rfl := Option.some.inj H
                exact Pr.rf
            · obtain rfl := Option.some.inj H
              exact Pr.rf
          · obtain rfl := Option.some.inj H
            exact Pr.rf
    · obtain rfl := Option.some.inj H
      exact Pr.rf
  · obtain rfl := Option.some.inj H
    exact Pr.rf
set_option maxHeartbeats 4000000 in
set_option maxRecDepth 20000 in
theorem t_X11_copy {G : GE} (d : Nat) {p1 : Int32} {p2 : Int32} {p3 : Int32} {p4 : Int32} {p5 : Int32} {h : HS} {q : (Int32 × HS)} (hY : LY TX h) (H : f_X11_copy p1 p2 p3 p4 p5 h = some q) : CE G (d + 2) yX11_copy miX11_copy [.ref 32, .int p1, .int p2, .int p3, .int p4, .int p5] h (some (.int q.1)) (q.2) := by
  unfold f_X11_copy at H
  refine ce_of rfl (by decide) (fun q => by first | rfl | cases q) (Nat.le_of_ble_eq_true rfl) rfl ?_
  refine e_iload_n dX11_copy_0 rfl ?_
  replace H := ob H; obtain ⟨q1, c2, H⟩ := H
  refine s1 lmX11_410 lsX11_isSheet msX11_isSheet dX11_copy_1 (t_X11_isSheet (d + 0) c2) rfl (Nat.le_of_ble_eq_true rfl) (Nat.le_refl _) ?_
  refine e_ifB_eq (tgt := 14) dX11_copy_4 (by decide) (fun c3 => ?_) (fun c3 => ?_)
  · replace H := of_ (nb c3) H
    refine e_bipush (v := (-2 : Int32)) dX11_copy_14 (by decide) ?_
    obtain rfl := Option.some.inj H
    exact z_iret rfl rfl dX11_copy_16 rfl rfl
  · replace H := ot c3 H
    refine e_iload_n dX11_copy_7 rfl ?_
    replace H := ob H; obtain ⟨q4, c5, H⟩ := H
    refine s1 lmX11_410 lsX11_isSheet msX11_isSheet dX11_copy_8 (t_X11_isSheet (d + 0) c5) rfl (Nat.le_of_ble_eq_true rfl) (Nat.le_refl _) ?_
    refine e_ifB_ne (tgt := 17) dX11_copy_11 (by decide) (fun c6 => ?_) (fun c6 => ?_)
    · replace H := ot c6 H
      refine g_aload_n dX11_copy_17 rfl rfl ?_
      refine e_getR (hY.t 0 rfl) flX11_57_12 dX11_copy_18 rfl (hY.r 8 rfl) ?_
      refine e_iload_n dX11_copy_21 rfl ?_
      replace H := og H; obtain ⟨g7, H⟩ := H
      replace H := oom H; obtain ⟨e9, H⟩ | ⟨b8, e9, H⟩ := H
      · refine e_aald (v := .null) (hY.t 14 rfl) (by decide) (ixb_y (hY.n 14 rfl) g7) (by rw [e9]; rfl) dX11_copy_22 ?_
        refine g_astore dX11_copy_23 (Nat.le_of_ble_eq_true rfl) rfl rfl rfl ?_
        refine g_aload_n dX11_copy_25 rfl rfl ?_
        refine e_getR (hY.t 0 rfl) flX11_57_12 dX11_copy_26 rfl (hY.r 8 rfl) ?_
        refine e_iload_n dX11_copy_29 rfl ?_
        replace H := og H; obtain ⟨g10, H⟩ := H
        replace H := oom H; obtain ⟨e12, H⟩ | ⟨b11, e12, H⟩ := H
        · refine e_aald (v := .null) (hY.t 14 rfl) (by decide) (ixb_y (hY.n 14 rfl) g10) (by rw [e12]; rfl) dX11_copy_30 ?_
          refine g_astore dX11_copy_31 (Nat.le_of_ble_eq_true rfl) rfl rfl rfl ?_
          refine g_aload dX11_copy_33 rfl rfl ?_
          refine e_ifnullN (tgt := 43) dX11_copy_35 (by decide) ?_
          refine e_bipush (v := (-11 : Int32)) dX11_copy_43 (by decide) ?_
          obtain rfl := Option.some.inj H
          exact z_iret rfl rfl dX11_copy_45 rfl rfl
        · refine e_aald (v := .ref b11) (hY.t 14 rfl) (by decide) (ixb_y (hY.n 14 rfl) g10) (by rw [e12]; rfl) dX11_copy_30 ?_
          refine g_astore dX11_copy_31 (Nat.le_of_ble_eq_true rfl) rfl rfl rfl ?_
          refine g_aload dX11_copy_33 rfl rfl ?_
          refine e_ifnullN (tgt := 43) dX11_copy_35 (by decide) ?_
          refine e_bipush (v := (-11 : Int32)) dX11_copy_43 (by decide) ?_
          obtain rfl := Option.some.inj H
          exact z_iret rfl rfl dX11_copy_45 rfl rfl
      · refine e_aald (v := .ref b8) (hY.t 14 rfl) (by decide) (ixb_y (hY.n 14 rfl) g7) (by rw [e9]; rfl) dX11_copy_22 ?_
        refine g_astore dX11_copy_23 (Nat.le_of_ble_eq_true rfl) rfl rfl rfl ?_
        refine g_aload_n dX11_copy_25 rfl rfl ?_
        refine e_getR (hY.t 0 rfl) flX11_57_12 dX11_copy_26 rfl (hY.r 8 rfl) ?_
        refine e_iload_n dX11_copy_29 rfl ?_
        replace H := og H; obtain ⟨g15, H⟩ := H
        replace H := oom H; obtain ⟨e17, H⟩ | ⟨b16, e17, H⟩ := H
        · refine e_aald (v := .null) (hY.t 14 rfl) (by decide) (ixb_y (hY.n 14 rfl) g15) (by rw [e17]; rfl) dX11_copy_30 ?_
          refine g_astore dX11_copy_31 (Nat.le_of_ble_eq_true rfl) rfl rfl rfl ?_
          refine g_aload dX11_copy_33 rfl rfl ?_
          refine e_ifnull dX11_copy_35 ?_
          refine g_aload dX11_copy_38 rfl rfl ?_
          refine e_ifnonnullN dX11_copy_40 ?_
          refine e_bipush (v := (-11 : Int32)) dX11_copy_43 (by decide) ?_
          obtain rfl := Option.some.inj H
          exact z_iret rfl rfl dX11_copy_45 rfl rfl
        · refine e_aald (v := .ref b16) (hY.t 14 rfl) (by decide) (ixb_y (hY.n 14 rfl) g15) (by rw [e17]; rfl) dX11_copy_30 ?_
          refine g_astore dX11_copy_31 (Nat.le_of_ble_eq_true rfl) rfl rfl rfl ?_
          refine g_aload dX11_copy_33 rfl rfl ?_
          refine e_ifnull dX11_copy_35 ?_
          refine g_aload dX11_copy_38 rfl rfl ?_
          refine e_ifnonnull (tgt := 46) dX11_copy_40 (by decide) ?_
          refine g_aload_n dX11_copy_46 rfl rfl ?_
          refine e_getR (hY.t 0 rfl) flX11_61_12 dX11_copy_47 rfl (hY.r 9 rfl) ?_
          refine e_iload_n dX11_copy_50 rfl ?_
          replace H := og H; obtain ⟨g22, H⟩ := H
          refine e_iald (hY.t 15 rfl) (ixb_y (hY.n 15 rfl) g22) dX11_copy_51 ?_
          refine g_aload_n dX11_copy_52 rfl rfl ?_
          refine e_getR (hY.t 0 rfl) flX11_61_12 dX11_copy_53 rfl (hY.r 9 rfl) ?_
          refine e_iload_n dX11_copy_56 rfl ?_
          replace H := og H; obtain ⟨g23, H⟩ := H
          refine e_iald (hY.t 15 rfl) (ixb_y (hY.n 15 rfl) g23) dX11_copy_57 ?_
          refine e_icmp_eq (tgt := 64) dX11_copy_58 (by decide) (fun c24 => ?_) (fun c24 => ?_)
          · replace H := ot c24 H
            refine g_aload dX11_copy_64 rfl rfl ?_
            refine e_iload_n dX11_copy_66 rfl ?_
            refine e_iload dX11_copy_67 rfl ?_
            replace H := ob H; obtain ⟨q25, c26, H⟩ := H
            refine s1 lmX11_416 lsX11_hasItems msX11_hasItems dX11_copy_69 (t_X11_hasItems (d + 1) c26) rfl (Nat.le_of_ble_eq_true rfl) (Nat.le_refl _) ?_
            refine e_ifB_eq (tgt := 87) dX11_copy_72 (by decide) (fun c27 => ?_) (fun c27 => ?_)
            · replace H := of_ (nb c27) H
              refine e_bipush (v := (-12 : Int32)) dX11_copy_87 (by decide) ?_
              obtain rfl := Option.some.inj H
              exact z_iret rfl rfl dX11_copy_89 rfl rfl
            · replace H := ot c27 H
              refine g_aload dX11_copy_75 rfl rfl ?_
              refine e_iload dX11_copy_77 rfl ?_
              refine e_iload dX11_copy_79 rfl ?_
              replace H := ob H; obtain ⟨q28, c29, H⟩ := H
              refine s1 lmX11_416 lsX11_hasItems msX11_hasItems dX11_copy_81 (t_X11_hasItems (d + 1) c29) rfl (Nat.le_of_ble_eq_true rfl) (Nat.le_refl _) ?_
              refine e_ifB_ne (tgt := 90) dX11_copy_84 (by decide) (fun c30 => ?_) (fun c30 => ?_)
              · replace H := ot c30 H
                refine g_aload dX11_copy_90 rfl rfl ?_
                refine e_iload_n dX11_copy_92 rfl ?_
                refine g_aload dX11_copy_93 rfl rfl ?_
                refine e_iload dX11_copy_95 rfl ?_
                refine e_iload dX11_copy_97 rfl ?_
                replace H := og H; obtain ⟨g31, H⟩ := H
                replace H := og H; obtain ⟨g32, H⟩ := H
                replace H := og H; obtain ⟨g33, H⟩ := H
                refine e_acopy lmX11_420 g31 g32 g33 (Nat.le_of_ble_eq_true rfl) (by omega) dX11_copy_99 ?_
                refine e_iload dX11_copy_102 rfl ?_
                obtain rfl := Option.some.inj H
                exact z_iret rfl rfl dX11_copy_104 rfl rfl
              · replace H := of_ (nb c30) H
                refine e_bipush (v := (-12 : Int32)) dX11_copy_87 (by decide) ?_
                obtain rfl := Option.some.inj H
                exact z_iret rfl rfl dX11_copy_89 rfl rfl
          · replace H := of_ c24 H
            refine e_bipush (v := (-13 : Int32)) dX11_copy_61 (by decide) ?_
            obtain rfl := Option.some.inj H
            exact z_iret rfl rfl dX11_copy_63 rfl rfl
    · replace H := of_ (nb c6) H
      refine e_bipush (v := (-2 : Int32)) dX11_copy_14 (by decide) ?_
      obtain rfl := Option.some.inj H
      exact z_iret rfl rfl dX11_copy_16 rfl rfl
-- X11_tries
def l_X11_tries_68 (y4 : Int32) (y5 : Nat)  : Nat → Int32 → Int32 → Int32 → HS → Option ((Int32 × HS) ⊕ (Int32 × HS))
  | 0, _, _, _, _ => none
  | n + 1, x6, x7, x8, h => (if y4 ≤ x8 then (some (Sum.inr (x6, h))) else (Option.bind (f_X11_hasItems y5 x7 (4 : Int32) h) (fun q32 => (if q32 = true then (if hT h y5 = 15 then (if ixb x7 (hLn h y5) = true then (if ixb (x7 + (1 : Int32)) (hLn h y5) = true then (if ixb (x7 + (2 : Int32)) (hLn h y5) = true then (if ixb (x7 + (3 : Int32)) (hLn h y5) = true then (Option.bind (f_X11_shown (hI h y5 x7.toNatClampNeg) (hI h y5 (x7 + (1 : Int32)).toNatClampNeg) (hI h y5 (x7 + (2 : Int32)).toNatClampNeg) (hI h y5 (x7 + (3 : Int32)).toNatClampNeg) h) (fun q40 => (if q40.1 < 0 then (l_X11_tries_68 y4 y5 n (x6 + (0 : Int32)) (x7 + (4 : Int32)) (x8 + (1 : Int32)) q40.2) else (l_X11_tries_68 y4 y5 n (x6 + (1 : Int32)) (x7 + (4 : Int32)) (x8 + (1 : Int32)) q40.2)))) else none) else none) else none) else none) else none) else (some (Sum.inl ((-12 : Int32), h)))))))
set_option maxHeartbeats 4000000 in
set_option maxRecDepth 20000 in
theorem p_X11_tries_68 {y4 : Int32} {y5 : Nat} : ∀ (n : Nat) {x6 : Int32} {x7 : Int32} {x8 : Int32} {h : HS} {q : ((Int32 × HS) ⊕ (Int32 × HS))}, l_X11_tries_68 y4 y5 n x6 x7 x8 h = some q → Pr h (Sum.elim (fun v => v.2) (fun e => e.2) q) := by
  intro n
  induction n with
  | zero => intro x6 x7 x8 h q H; exact nz H
  | succ n ih =>
    intro x6 x7 x8 h q H
    unfold l_X11_tries_68 at H
    replace H := oi H; obtain ⟨c31, H⟩ | ⟨c31, H⟩ := H
    · obtain rfl := Option.some.inj H
      exact Pr.rf
    · replace H := ob H; obtain ⟨q32, c33, H⟩ := H
      replace H := oi H; obtain ⟨c34, H⟩ | ⟨c34, H⟩ := H
      · replace H := og H; obtain ⟨g35, H⟩ := H
        replace H := og H; obtain ⟨g36, H⟩ := H
        replace H := og H; obtain ⟨g37, H⟩ := H
        replace H := og H; obtain ⟨g38, H⟩ := H
        replace H := og H; obtain ⟨g39, H⟩ := H
        replace H := ob H; obtain ⟨q40, c41, H⟩ := H
        have e42 := p_X11_shown c41
        replace H := oi H; obtain ⟨c44, H⟩ | ⟨c44, H⟩ := H
        · exact e42.tr (ih H)
        · exact e42.tr (ih H)
      · obtain rfl := Option.some.inj H
        exact Pr.rf
set_option maxHeartbeats 4000000 in
set_option maxRecDepth 20000 in
theorem w_X11_tries_68 {G : GE} (d : Nat) {y4 : Int32} {y5 : Nat} {r : Option Value} {h' : HS}  : ∀ (n : Nat) {x6 : Int32} {x7 : Int32} {x8 : Int32} {h : HS} {q : ((Int32 × HS) ⊕ (Int32 × HS))}, LY TX h → l_X11_tries_68 y4 y5 n x6 x7 x8 h = some q → (∀ v, q = Sum.inl v → r = some (.int v.1) ∧ h' = v.2) → (∀ e, q = Sum.inr e → En G (d + 6) miX11_tries 141 [dum, dum, dum, dum, dum, dum, .int e.1, dum, dum] [] e.2 r h') → En G (d + 6) miX11_tries 68 [.ref 32, dum, dum, dum, .int y4, .ref y5, .int x6, .int x7, .int x8] [] h r h' := by
  intro n
  induction n with
  | zero => intro x6 x7 x8 h q hYTX H kR kE; exact nz H
  | succ n ih =>
    intro x6 x7 x8 h q hYTX H kR kE
    unfold l_X11_tries_68 at H
    refine e_iload dX11_tries_68 rfl ?_
    refine e_iload dX11_tries_70 rfl ?_
    refine e_icmp_ge (tgt := 141) dX11_tries_72 (by decide) (fun c31 => ?_) (fun c31 => ?_)
    · replace H := ot c31 H
      obtain rfl := Option.some.inj H
      exact e_wk (lk0 (lk1 (lk1 (lk1 (lk0 (lk0 (lk1 (lk0 (lk0 lkn))))))))) (kE _ rfl)
    · replace H := of_ c31 H
      refine g_aload dX11_tries_75 rfl rfl ?_
      refine e_iload dX11_tries_77 rfl ?_
      refine e_iconst (v := (4 : Int32)) dX11_tries_79 (by decide) ?_
      replace H := ob H; obtain ⟨q32, c33, H⟩ := H
      refine s1 lmX11_416 lsX11_hasItems msX11_hasItems dX11_tries_80 (t_X11_hasItems (d + 5) c33) rfl (Nat.le_of_ble_eq_true rfl) (Nat.le_refl _) ?_
      refine e_ifB_ne (tgt := 89) dX11_tries_83 (by decide) (fun c34 => ?_) (fun c34 => ?_)
      · replace H := ot c34 H
        refine e_iload dX11_tries_89 rfl ?_
        refine g_aload_n dX11_tries_91 rfl rfl ?_
        refine g_aload dX11_tries_92 rfl rfl ?_
        refine e_iload dX11_tries_94 rfl ?_
        replace H := og H; obtain ⟨g35, H⟩ := H
        replace H := og H; obtain ⟨g36, H⟩ := H
        refine e_iald g35 (ixb_y rfl g36) dX11_tries_96 ?_
        refine g_aload dX11_tries_97 rfl rfl ?_
        refine e_iload dX11_tries_99 rfl ?_
        refine e_iconst (v := (1 : Int32)) dX11_tries_101 (by decide) ?_
        refine e_iadd dX11_tries_102 ?_
        replace H := og H; obtain ⟨g37, H⟩ := H
        refine e_iald g35 (ixb_y rfl g37) dX11_tries_103 ?_
        refine g_aload dX11_tries_104 rfl rfl ?_
        refine e_iload dX11_tries_106 rfl ?_
        refine e_iconst (v := (2 : Int32)) dX11_tries_108 (by decide) ?_
        refine e_iadd dX11_tries_109 ?_
        replace H := og H; obtain ⟨g38, H⟩ := H
        refine e_iald g35 (ixb_y rfl g38) dX11_tries_110 ?_
        refine g_aload dX11_tries_111 rfl rfl ?_
        refine e_iload dX11_tries_113 rfl ?_
        refine e_iconst (v := (3 : Int32)) dX11_tries_115 (by decide) ?_
        refine e_iadd dX11_tries_116 ?_
        replace H := og H; obtain ⟨g39, H⟩ := H
        refine e_iald g35 (ixb_y rfl g39) dX11_tries_117 ?_
        replace H := ob H; obtain ⟨q40, c41, H⟩ := H
        refine v1 (hYTX.t 0 rfl) (by decide) rfl rfl lmX11_426 liX11_shown lvX11_X11_shown msX11_shown dX11_tries_118 (t_X11_shown (d + 0) hYTX c41) rfl (Nat.le_of_ble_eq_true rfl) (Nat.le_refl _) ?_
        have e42 := p_X11_shown c41
        have hY43 := hYTX.pr okX e42
        refine e_if_lt (tgt := 128) dX11_tries_121 (by decide) (fun c44 => ?_) (fun c44 => ?_)
        · replace H := ot c44 H
          refine e_iconst (v := (0 : Int32)) dX11_tries_128 (by decide) ?_
          refine e_iadd dX11_tries_129 ?_
          refine e_istore dX11_tries_130 (Nat.le_of_ble_eq_true rfl) rfl rfl ?_
          refine e_iinc dX11_tries_132 rfl (ii_ (by decide : Int32.ofInt (4) = (4 : Int32))) (Nat.le_of_ble_eq_true rfl) rfl rfl ?_
          refine e_iinc dX11_tries_135 rfl (ii_ (by decide : Int32.ofInt (1) = (1 : Int32))) (Nat.le_of_ble_eq_true rfl) rfl rfl ?_
          refine e_goto (tgt := 68) dX11_tries_138 (by decide) ?_
          exact e_wk (lk1 (lk1 (lk1 (lk1 (lk1 (lk1 (lk1 (lk1 (lk1 lkn))))))))) (ih hY43 H kR kE)
        · replace H := of_ c44 H
          refine e_iconst (v := (1 : Int32)) dX11_tries_124 (by decide) ?_
          refine e_goto (tgt := 129) dX11_tries_125 (by decide) ?_
          refine e_iadd dX11_tries_129 ?_
          refine e_istore dX11_tries_130 (Nat.le_of_ble_eq_true rfl) rfl rfl ?_
          refine e_iinc dX11_tries_132 rfl (ii_ (by decide : Int32.ofInt (4) = (4 : Int32))) (Nat.le_of_ble_eq_true rfl) rfl rfl ?_
          refine e_iinc dX11_tries_135 rfl (ii_ (by decide : Int32.ofInt (1) = (1 : Int32))) (Nat.le_of_ble_eq_true rfl) rfl rfl ?_
          refine e_goto (tgt := 68) dX11_tries_138 (by decide) ?_
          exact e_wk (lk1 (lk1 (lk1 (lk1 (lk1 (lk1 (lk1 (lk1 (lk1 lkn))))))))) (ih hY43 H kR kE)
      · replace H := of_ (nb c34) H
        refine e_bipush (v := (-12 : Int32)) dX11_tries_86 (by decide) ?_
        obtain rfl := Option.some.inj H
        obtain ⟨eR, eH⟩ := kR _ rfl
        exact z_iret rfl rfl dX11_tries_88 eR eH
def f_X11_tries (p1 : Int32) (p2 : Int32) (p3 : Int32) (p4 : Int32) (h : HS) : Option (Int32 × HS) := (Option.bind (f_X11_isSheet p1) (fun q1 => (if q1 = true then (Option.bind (f_X11_isIn p2 (0 : Int32) (2 : Int32)) (fun q4 => (if q4 = true then (Option.bind (f_X11_isIn p4 (0 : Int32) (10 : Int32)) (fun q7 => (if q7 = true then (if ixb p1 4 = true then (om (hR h 46 p1.toNatClampNeg) (some ((-11 : Int32), h)) (fun b11 => (if ixb p1 4 = true then (if (hI h 47 p1.toNatClampNeg) = p2 then (Option.bind (l_X11_tries_68 p4 b11 1000 (0 : Int32) p3 (0 : Int32) h) (fun q45 => (Sum.elim (fun v => some v) (fun e47 => (some (e47.1, e47.2))) q45))) else (some ((-13 : Int32), h))) else none))) else none) else (some ((-2 : Int32), h))))) else (some ((-2 : Int32), h))))) else (some ((-2 : Int32), h)))))
set_option maxHeartbeats 4000000 in
set_option maxRecDepth 20000 in
theorem p_X11_tries {p1 : Int32} {p2 : Int32} {p3 : Int32} {p4 : Int32} {h : HS} {q : (Int32 × HS)} (H : f_X11_tries p1 p2 p3 p4 h = some q) : Pr h q.2 := by
  unfold f_X11_tries at H
  replace H := ob H; obtain ⟨q1, c2, H⟩ := H
  replace H := oi H; obtain ⟨c3, H⟩ | ⟨c3, H⟩ := H
  · replace H := ob H; obtain ⟨q4, c5, H⟩ := H
    replace H := oi H; obtain ⟨c6, H⟩ | ⟨c6, H⟩ := H
    · replace H := ob H; obtain ⟨q7, c8, H⟩ := H
      replace H := oi H; obtain ⟨c9, H⟩ | ⟨c9, H⟩ := H
      · replace H := og H; obtain ⟨g10, H⟩ := H
        replace H := oom H; obtain ⟨e12, H⟩ | ⟨b11, e12, H⟩ := H
        · obtain rfl := Option.some.inj H
          exact Pr.rf
        · replace H := og H; obtain ⟨g15, H⟩ := H
          replace H := oi H; obtain ⟨c16, H⟩ | ⟨c16, H⟩ := H
          · replace H := ob H; obtain ⟨q45, c46, H⟩ := H
            rcases q45 with v50 | e47
            · replace H := oSl H; obtain rfl := Option.some.inj H
              exact p_X11_tries_68 1000 c46
            · replace H := oSr H
              have e48 : Pr h e47.2 := p_X11_tries_68 1000 c46
              obtain rfl := Option.some.inj H
              exact e48
          · obtain rfl := Option.some.inj H
            exact Pr.rf
      · obtain rfl := Option.some.inj H
        exact Pr.rf
    · obtain rfl := Option.some.inj H
      exact Pr.rf
  · obtain rfl := Option.some.inj H
    exact Pr.rf
set_option maxHeartbeats 4000000 in
set_option maxRecDepth 20000 in
theorem t_X11_tries {G : GE} (d : Nat) {p1 : Int32} {p2 : Int32} {p3 : Int32} {p4 : Int32} {h : HS} {q : (Int32 × HS)} (hY : LY TX h) (H : f_X11_tries p1 p2 p3 p4 h = some q) : CE G (d + 6) yX11_tries miX11_tries [.ref 32, .int p1, .int p2, .int p3, .int p4] h (some (.int q.1)) (q.2) := by
  unfold f_X11_tries at H
  refine ce_of rfl (by decide) (fun q => by first | rfl | cases q) (Nat.le_of_ble_eq_true rfl) rfl ?_
  refine e_iload_n dX11_tries_0 rfl ?_
  replace H := ob H; obtain ⟨q1, c2, H⟩ := H
  refine s1 lmX11_410 lsX11_isSheet msX11_isSheet dX11_tries_1 (t_X11_isSheet (d + 4) c2) rfl (Nat.le_of_ble_eq_true rfl) (Nat.le_refl _) ?_
  refine e_ifB_eq (tgt := 27) dX11_tries_4 (by decide) (fun c3 => ?_) (fun c3 => ?_)
  · replace H := of_ (nb c3) H
    refine e_bipush (v := (-2 : Int32)) dX11_tries_27 (by decide) ?_
    obtain rfl := Option.some.inj H
    exact z_iret rfl rfl dX11_tries_29 rfl rfl
  · replace H := ot c3 H
    refine e_iload_n dX11_tries_7 rfl ?_
    refine e_iconst (v := (0 : Int32)) dX11_tries_8 (by decide) ?_
    refine e_iconst (v := (2 : Int32)) dX11_tries_9 (by decide) ?_
    replace H := ob H; obtain ⟨q4, c5, H⟩ := H
    refine s1 lmX11_106 lsX11_isIn msX11_isIn dX11_tries_10 (t_X11_isIn (d + 5) c5) rfl (Nat.le_of_ble_eq_true rfl) (Nat.le_refl _) ?_
    refine e_ifB_eq (tgt := 27) dX11_tries_13 (by decide) (fun c6 => ?_) (fun c6 => ?_)
    · replace H := of_ (nb c6) H
      refine e_bipush (v := (-2 : Int32)) dX11_tries_27 (by decide) ?_
      obtain rfl := Option.some.inj H
      exact z_iret rfl rfl dX11_tries_29 rfl rfl
    · replace H := ot c6 H
      refine e_iload dX11_tries_16 rfl ?_
      refine e_iconst (v := (0 : Int32)) dX11_tries_18 (by decide) ?_
      refine e_bipush (v := (10 : Int32)) dX11_tries_19 (by decide) ?_
      replace H := ob H; obtain ⟨q7, c8, H⟩ := H
      refine s1 lmX11_106 lsX11_isIn msX11_isIn dX11_tries_21 (t_X11_isIn (d + 5) c8) rfl (Nat.le_of_ble_eq_true rfl) (Nat.le_refl _) ?_
      refine e_ifB_ne (tgt := 30) dX11_tries_24 (by decide) (fun c9 => ?_) (fun c9 => ?_)
      · replace H := ot c9 H
        refine g_aload_n dX11_tries_30 rfl rfl ?_
        refine e_getR (hY.t 0 rfl) flX11_57_12 dX11_tries_31 rfl (hY.r 8 rfl) ?_
        refine e_iload_n dX11_tries_34 rfl ?_
        replace H := og H; obtain ⟨g10, H⟩ := H
        replace H := oom H; obtain ⟨e12, H⟩ | ⟨b11, e12, H⟩ := H
        · refine e_aald (v := .null) (hY.t 14 rfl) (by decide) (ixb_y (hY.n 14 rfl) g10) (by rw [e12]; rfl) dX11_tries_35 ?_
          refine g_astore dX11_tries_36 (Nat.le_of_ble_eq_true rfl) rfl rfl rfl ?_
          refine g_aload dX11_tries_38 rfl rfl ?_
          refine e_ifnonnullN dX11_tries_40 ?_
          refine e_bipush (v := (-11 : Int32)) dX11_tries_43 (by decide) ?_
          obtain rfl := Option.some.inj H
          exact z_iret rfl rfl dX11_tries_45 rfl rfl
        · refine e_aald (v := .ref b11) (hY.t 14 rfl) (by decide) (ixb_y (hY.n 14 rfl) g10) (by rw [e12]; rfl) dX11_tries_35 ?_
          refine g_astore dX11_tries_36 (Nat.le_of_ble_eq_true rfl) rfl rfl rfl ?_
          refine g_aload dX11_tries_38 rfl rfl ?_
          refine e_ifnonnull (tgt := 46) dX11_tries_40 (by decide) ?_
          refine g_aload_n dX11_tries_46 rfl rfl ?_
          refine e_getR (hY.t 0 rfl) flX11_61_12 dX11_tries_47 rfl (hY.r 9 rfl) ?_
          refine e_iload_n dX11_tries_50 rfl ?_
          replace H := og H; obtain ⟨g15, H⟩ := H
          refine e_iald (hY.t 15 rfl) (ixb_y (hY.n 15 rfl) g15) dX11_tries_51 ?_
          refine e_iload_n dX11_tries_52 rfl ?_
          refine e_icmp_eq (tgt := 59) dX11_tries_53 (by decide) (fun c16 => ?_) (fun c16 => ?_)
          · replace H := ot c16 H
            refine e_iconst (v := (0 : Int32)) dX11_tries_59 (by decide) ?_
            refine e_istore dX11_tries_60 (Nat.le_of_ble_eq_true rfl) rfl rfl ?_
            refine e_iload_n dX11_tries_62 rfl ?_
            refine e_istore dX11_tries_63 (Nat.le_of_ble_eq_true rfl) rfl rfl ?_
            refine e_iconst (v := (0 : Int32)) dX11_tries_65 (by decide) ?_
            refine e_istore dX11_tries_66 (Nat.le_of_ble_eq_true rfl) rfl rfl ?_
            replace H := ob H; obtain ⟨q45, c46, H⟩ := H
            refine e_wk (lk1 (lk0 (lk0 (lk0 (lk1 (lk1 (lk1 (lk1 (lk1 lkn))))))))) (w_X11_tries_68 d 1000 hY c46 (fun v50 E0 => ?_) (fun e47 E0 => ?_))
            · subst E0; replace H := oSl H; obtain rfl := Option.some.inj H
              exact ⟨rfl, rfl⟩
            · subst E0; replace H := oSr H
              have e48 : Pr h e47.2 := p_X11_tries_68 1000 c46
              have hY49 := hY.pr okX e48
              refine e_iload dX11_tries_141 rfl ?_
              obtain rfl := Option.some.inj H
              exact z_iret rfl rfl dX11_tries_143 rfl rfl
          · replace H := of_ c16 H
            refine e_bipush (v := (-13 : Int32)) dX11_tries_56 (by decide) ?_
            obtain rfl := Option.some.inj H
            exact z_iret rfl rfl dX11_tries_58 rfl rfl
      · replace H := of_ (nb c9) H
        refine e_bipush (v := (-2 : Int32)) dX11_tries_27 (by decide) ?_
        obtain rfl := Option.some.inj H
        exact z_iret rfl rfl dX11_tries_29 rfl rfl
