-- X12rc
abbrev RPX12 (rc : Nat → HS → Option (Int32 × HS)) : Prop := ∀ {m : Nat} {h : HS} {q : Int32 × HS}, rc m h = some q → Pr h q.2
def RCX12 (G : GE) (dd : Nat) (rc : Nat → HS → Option (Int32 × HS)) : Prop := ∀ {h : HS} {q : Int32 × HS}, LY TM h → (rc 0 h = some q → CE G dd yX12_either miX12_either [.ref 60] h (some (.int q.1)) q.2) ∧ (rc 1 h = some q → CE G dd yX12_both miX12_both [.ref 60] h (some (.int q.1)) q.2) ∧ (rc 2 h = some q → CE G dd yX12_not miX12_not [.ref 60] h (some (.int q.1)) q.2) ∧ (rc 3 h = some q → CE G dd yX12_added miX12_added [.ref 60] h (some (.int q.1)) q.2) ∧ (rc 4 h = some q → CE G dd yX12_term miX12_term [.ref 60] h (some (.int q.1)) q.2) ∧ (rc 5 h = some q → CE G dd yX12_one miX12_one [.ref 60] h (some (.int q.1)) q.2)
theorem RCX12.X12_either {G : GE} {dd : Nat} {rc : Nat → HS → Option (Int32 × HS)} (hrc : RCX12 G dd rc) {h : HS} {q : Int32 × HS} (hY : LY TM h) (c : rc 0 h = some q) : CE G dd yX12_either miX12_either [.ref 60] h (some (.int q.1)) q.2 := (hrc hY).1 c
theorem RCX12.X12_both {G : GE} {dd : Nat} {rc : Nat → HS → Option (Int32 × HS)} (hrc : RCX12 G dd rc) {h : HS} {q : Int32 × HS} (hY : LY TM h) (c : rc 1 h = some q) : CE G dd yX12_both miX12_both [.ref 60] h (some (.int q.1)) q.2 := (hrc hY).2.1 c
theorem RCX12.X12_not {G : GE} {dd : Nat} {rc : Nat → HS → Option (Int32 × HS)} (hrc : RCX12 G dd rc) {h : HS} {q : Int32 × HS} (hY : LY TM h) (c : rc 2 h = some q) : CE G dd yX12_not miX12_not [.ref 60] h (some (.int q.1)) q.2 := (hrc hY).2.2.1 c
theorem RCX12.X12_added {G : GE} {dd : Nat} {rc : Nat → HS → Option (Int32 × HS)} (hrc : RCX12 G dd rc) {h : HS} {q : Int32 × HS} (hY : LY TM h) (c : rc 3 h = some q) : CE G dd yX12_added miX12_added [.ref 60] h (some (.int q.1)) q.2 := (hrc hY).2.2.2.1 c
theorem RCX12.X12_term {G : GE} {dd : Nat} {rc : Nat → HS → Option (Int32 × HS)} (hrc : RCX12 G dd rc) {h : HS} {q : Int32 × HS} (hY : LY TM h) (c : rc 4 h = some q) : CE G dd yX12_term miX12_term [.ref 60] h (some (.int q.1)) q.2 := (hrc hY).2.2.2.2.1 c
theorem RCX12.X12_one {G : GE} {dd : Nat} {rc : Nat → HS → Option (Int32 × HS)} (hrc : RCX12 G dd rc) {h : HS} {q : Int32 × HS} (hY : LY TM h) (c : rc 5 h = some q) : CE G dd yX12_one miX12_one [.ref 60] h (some (.int q.1)) q.2 := (hrc hY).2.2.2.2.2 c
-- X12_either
def l_X12_either_5 (rc : Nat → HS → Option (Int32 × HS))  : Nat → Int32 → HS → Option (Int32 × HS)
  | 0, _, _ => none
  | n + 1, x1, h => (Option.bind (f_X12_isWord (423 : Int64) h) (fun q18 => (if q18 = true then (Option.bind (f_X12_next h) (fun q21 => (Option.bind (rc 1 q21) (fun q25 => (if x1 = 0 then (if q25.1 = 0 then (l_X12_either_5 rc n (0 : Int32) q25.2) else (l_X12_either_5 rc n (1 : Int32) q25.2)) else (l_X12_either_5 rc n (1 : Int32) q25.2)))))) else (some (x1, h)))))
set_option maxHeartbeats 4000000 in
set_option maxRecDepth 20000 in
theorem p_X12_either_5 {rc : Nat → HS → Option (Int32 × HS)} (hpc : RPX12 rc)  : ∀ (n : Nat) {x1 : Int32} {h : HS} {q : (Int32 × HS)}, l_X12_either_5 rc n x1 h = some q → Pr h q.2 := by
  intro n
  induction n with
  | zero => intro x1 h q H; exact nz H
  | succ n ih =>
    intro x1 h q H
    unfold l_X12_either_5 at H
    replace H := ob H; obtain ⟨q18, c19, H⟩ := H
    replace H := oi H; obtain ⟨c20, H⟩ | ⟨c20, H⟩ := H
    · replace H := ob H; obtain ⟨q21, c22, H⟩ := H
      have e23 := p_X12_next c22
      replace H := ob H; obtain ⟨q25, c26, H⟩ := H
      have e27 := hpc c26
      replace H := oi H; obtain ⟨c29, H⟩ | ⟨c29, H⟩ := H
      · replace H := oi H; obtain ⟨c30, H⟩ | ⟨c30, H⟩ := H
        · exact (e23.tr e27).tr (ih H)
        · exact (e23.tr e27).tr (ih H)
      · exact (e23.tr e27).tr (ih H)
    · obtain rfl := Option.some.inj H
      exact Pr.rf
set_option maxHeartbeats 4000000 in
set_option maxRecDepth 20000 in
theorem w_X12_either_5 {G : GE} {rc : Nat → HS → Option (Int32 × HS)} {dd : Nat} (hrc : RCX12 G dd rc) (hpc : RPX12 rc) (hB : 2 ≤ dd)  {r : Option Value} {h' : HS}  : ∀ (n : Nat) {x1 : Int32} {h : HS} {q : (Int32 × HS)}, LY TM h → l_X12_either_5 rc n x1 h = some q → En G (dd + 1) miX12_either 41 [dum, .int q.1, dum] [] q.2 r h' → En G (dd + 1) miX12_either 5 [.ref 60, .int x1, dum] [] h r h' := by
  intro n
  induction n with
  | zero => intro x1 h q hYTM H kE; exact nz H
  | succ n ih =>
    intro x1 h q hYTM H kE
    unfold l_X12_either_5 at H
    refine g_aload_n dX12_either_5 rfl rfl ?_
    refine e_ldc2 (v := (423 : Int64)) lkX12_364 dX12_either_6 ?_
    replace H := ob H; obtain ⟨q18, c19, H⟩ := H
    refine v1 (hYTM.t 0 rfl) (by decide) rfl rfl lmX12_301 liX12_isWord lvX12_X12_isWord msX12_isWord dX12_either_9 (t_X12_isWord (dd - 0) hYTM c19) rfl (Nat.le_of_ble_eq_true rfl) (by omega) ?_
    refine e_ifB_eq (tgt := 41) dX12_either_12 (by decide) (fun c20 => ?_) (fun c20 => ?_)
    · replace H := of_ (nb c20) H
      obtain rfl := Option.some.inj H
      exact e_wk (lk0 (lk1 (lk1 lkn))) kE
    · replace H := ot c20 H
      refine g_aload_n dX12_either_15 rfl rfl ?_
      replace H := ob H; obtain ⟨q21, c22, H⟩ := H
      refine v0 (hYTM.t 0 rfl) (by decide) rfl rfl lmX12_296 liX12_next lvX12_X12_next msX12_next dX12_either_16 (t_X12_next (dd - 1) hYTM c22) rfl (Nat.le_of_ble_eq_true rfl) (by omega) ?_
      have e23 := p_X12_next c22
      have hY24 := hYTM.pr okM e23
      refine g_aload_n dX12_either_19 rfl rfl ?_
      replace H := ob H; obtain ⟨q25, c26, H⟩ := H
      refine v1 (hY24.t 0 rfl) (by decide) rfl rfl lmX12_361 liX12_both lvX12_X12_both msX12_both dX12_either_20 (hrc.X12_both hY24 c26) rfl (Nat.le_of_ble_eq_true rfl) (Nat.le_refl _) ?_
      have e27 := hpc c26
      have hY28 := hY24.pr okM e27
      refine e_istore_n dX12_either_23 (Nat.le_of_ble_eq_true rfl) rfl rfl ?_
      refine e_iload_n dX12_either_24 rfl ?_
      refine e_if_ne (tgt := 32) dX12_either_25 (by decide) (fun c29 => ?_) (fun c29 => ?_)
      · replace H := of_ c29 H
        refine e_iconst (v := (1 : Int32)) dX12_either_32 (by decide) ?_
        refine e_goto (tgt := 37) dX12_either_33 (by decide) ?_
        refine e_istore_n dX12_either_37 (Nat.le_of_ble_eq_true rfl) rfl rfl ?_
        refine e_goto (tgt := 5) dX12_either_38 (by decide) ?_
        exact e_wk (lk1 (lk1 (lk0 lkn))) (ih hY28 H kE)
      · replace H := ot c29 H
        refine e_iload_n dX12_either_28 rfl ?_
        refine e_if_eq (tgt := 36) dX12_either_29 (by decide) (fun c30 => ?_) (fun c30 => ?_)
        · replace H := ot c30 H
          refine e_iconst (v := (0 : Int32)) dX12_either_36 (by decide) ?_
          refine e_istore_n dX12_either_37 (Nat.le_of_ble_eq_true rfl) rfl rfl ?_
          refine e_goto (tgt := 5) dX12_either_38 (by decide) ?_
          exact e_wk (lk1 (lk1 (lk0 lkn))) (ih hY28 H kE)
        · replace H := of_ c30 H
          refine e_iconst (v := (1 : Int32)) dX12_either_32 (by decide) ?_
          refine e_goto (tgt := 37) dX12_either_33 (by decide) ?_
          refine e_istore_n dX12_either_37 (Nat.le_of_ble_eq_true rfl) rfl rfl ?_
          refine e_goto (tgt := 5) dX12_either_38 (by decide) ?_
          exact e_wk (lk1 (lk1 (lk0 lkn))) (ih hY28 H kE)
def g_X12_either (rc : Nat → HS → Option (Int32 × HS))  (h : HS) : Option (Int32 × HS) := (Option.bind (rc 1 h) (fun q1 => (Option.bind (l_X12_either_5 rc 1000 q1.1 q1.2) (fun q31 => (some (q31.1, q31.2))))))
set_option maxHeartbeats 4000000 in
set_option maxRecDepth 20000 in
theorem p_X12_either {rc : Nat → HS → Option (Int32 × HS)} (hpc : RPX12 rc)  {h : HS} {q : (Int32 × HS)} (H : g_X12_either rc h = some q) : Pr h q.2 := by
  unfold g_X12_either at H
  replace H := ob H; obtain ⟨q1, c2, H⟩ := H
  have e3 := hpc c2
  replace H := ob H; obtain ⟨q31, c32, H⟩ := H
  have e33 := p_X12_either_5 hpc 1000 c32
  obtain rfl := Option.some.inj H
  exact (e3.tr e33)
set_option maxHeartbeats 4000000 in
set_option maxRecDepth 20000 in
theorem t_X12_either {G : GE} {rc : Nat → HS → Option (Int32 × HS)} {dd : Nat} (hrc : RCX12 G dd rc) (hpc : RPX12 rc) (hB : 2 ≤ dd)  {h : HS} {q : (Int32 × HS)} (hY : LY TM h) (H : g_X12_either rc h = some q) : CE G (dd + 1) yX12_either miX12_either [.ref 60] h (some (.int q.1)) (q.2) := by
  unfold g_X12_either at H
  refine ce_of rfl (by decide) (fun q => by first | rfl | cases q) (Nat.le_of_ble_eq_true rfl) rfl ?_
  refine g_aload_n dX12_either_0 rfl rfl ?_
  replace H := ob H; obtain ⟨q1, c2, H⟩ := H
  refine v1 (hY.t 0 rfl) (by decide) rfl rfl lmX12_361 liX12_both lvX12_X12_both msX12_both dX12_either_1 (hrc.X12_both hY c2) rfl (Nat.le_of_ble_eq_true rfl) (Nat.le_refl _) ?_
  have e3 := hpc c2
  have hY4 := hY.pr okM e3
  refine e_istore_n dX12_either_4 (Nat.le_of_ble_eq_true rfl) rfl rfl ?_
  replace H := ob H; obtain ⟨q31, c32, H⟩ := H
  have e33 := p_X12_either_5 hpc 1000 c32
  have hY34 := hY4.pr okM e33
  refine e_wk (lk1 (lk1 (lk1 lkn))) (w_X12_either_5 hrc hpc hB 1000 hY4 c32 ?_)
  refine e_iload_n dX12_either_41 rfl ?_
  obtain rfl := Option.some.inj H
  exact z_iret rfl rfl dX12_either_42 rfl rfl
-- X12_both
def l_X12_both_5 (rc : Nat → HS → Option (Int32 × HS))  : Nat → Int32 → HS → Option (Int32 × HS)
  | 0, _, _ => none
  | n + 1, x1, h => (Option.bind (f_X12_isWord (1111 : Int64) h) (fun q18 => (if q18 = true then (Option.bind (f_X12_next h) (fun q21 => (Option.bind (rc 2 q21) (fun q25 => (if x1 = 0 then (l_X12_both_5 rc n (0 : Int32) q25.2) else (if q25.1 = 0 then (l_X12_both_5 rc n (0 : Int32) q25.2) else (l_X12_both_5 rc n (1 : Int32) q25.2))))))) else (some (x1, h)))))
set_option maxHeartbeats 4000000 in
set_option maxRecDepth 20000 in
theorem p_X12_both_5 {rc : Nat → HS → Option (Int32 × HS)} (hpc : RPX12 rc)  : ∀ (n : Nat) {x1 : Int32} {h : HS} {q : (Int32 × HS)}, l_X12_both_5 rc n x1 h = some q → Pr h q.2 := by
  intro n
  induction n with
  | zero => intro x1 h q H; exact nz H
  | succ n ih =>
    intro x1 h q H
    unfold l_X12_both_5 at H
    replace H := ob H; obtain ⟨q18, c19, H⟩ := H
    replace H := oi H; obtain ⟨c20, H⟩ | ⟨c20, H⟩ := H
    · replace H := ob H; obtain ⟨q21, c22, H⟩ := H
      have e23 := p_X12_next c22
      replace H := ob H; obtain ⟨q25, c26, H⟩ := H
      have e27 := hpc c26
      replace H := oi H; obtain ⟨c29, H⟩ | ⟨c29, H⟩ := H
      · exact (e23.tr e27).tr (ih H)
      · replace H := oi H; obtain ⟨c30, H⟩ | ⟨c30, H⟩ := H
        · exact (e23.tr e27).tr (ih H)
        · exact (e23.tr e27).tr (ih H)
    · obtain rfl := Option.some.inj H
      exact Pr.rf
set_option maxHeartbeats 4000000 in
set_option maxRecDepth 20000 in
theorem w_X12_both_5 {G : GE} {rc : Nat → HS → Option (Int32 × HS)} {dd : Nat} (hrc : RCX12 G dd rc) (hpc : RPX12 rc) (hB : 2 ≤ dd)  {r : Option Value} {h' : HS}  : ∀ (n : Nat) {x1 : Int32} {h : HS} {q : (Int32 × HS)}, LY TM h → l_X12_both_5 rc n x1 h = some q → En G (dd + 1) miX12_both 41 [dum, .int q.1, dum] [] q.2 r h' → En G (dd + 1) miX12_both 5 [.ref 60, .int x1, dum] [] h r h' := by
  intro n
  induction n with
  | zero => intro x1 h q hYTM H kE; exact nz H
  | succ n ih =>
    intro x1 h q hYTM H kE
    unfold l_X12_both_5 at H
    refine g_aload_n dX12_both_5 rfl rfl ?_
    refine e_ldc2 (v := (1111 : Int64)) lkX12_359 dX12_both_6 ?_
    replace H := ob H; obtain ⟨q18, c19, H⟩ := H
    refine v1 (hYTM.t 0 rfl) (by decide) rfl rfl lmX12_301 liX12_isWord lvX12_X12_isWord msX12_isWord dX12_both_9 (t_X12_isWord (dd - 0) hYTM c19) rfl (Nat.le_of_ble_eq_true rfl) (by omega) ?_
    refine e_ifB_eq (tgt := 41) dX12_both_12 (by decide) (fun c20 => ?_) (fun c20 => ?_)
    · replace H := of_ (nb c20) H
      obtain rfl := Option.some.inj H
      exact e_wk (lk0 (lk1 (lk1 lkn))) kE
    · replace H := ot c20 H
      refine g_aload_n dX12_both_15 rfl rfl ?_
      replace H := ob H; obtain ⟨q21, c22, H⟩ := H
      refine v0 (hYTM.t 0 rfl) (by decide) rfl rfl lmX12_296 liX12_next lvX12_X12_next msX12_next dX12_both_16 (t_X12_next (dd - 1) hYTM c22) rfl (Nat.le_of_ble_eq_true rfl) (by omega) ?_
      have e23 := p_X12_next c22
      have hY24 := hYTM.pr okM e23
      refine g_aload_n dX12_both_19 rfl rfl ?_
      replace H := ob H; obtain ⟨q25, c26, H⟩ := H
      refine v1 (hY24.t 0 rfl) (by decide) rfl rfl lmX12_351 liX12_not lvX12_X12_not msX12_not dX12_both_20 (hrc.X12_not hY24 c26) rfl (Nat.le_of_ble_eq_true rfl) (Nat.le_refl _) ?_
      have e27 := hpc c26
      have hY28 := hY24.pr okM e27
      refine e_istore_n dX12_both_23 (Nat.le_of_ble_eq_true rfl) rfl rfl ?_
      refine e_iload_n dX12_both_24 rfl ?_
      refine e_if_eq (tgt := 36) dX12_both_25 (by decide) (fun c29 => ?_) (fun c29 => ?_)
      · replace H := ot c29 H
        refine e_iconst (v := (0 : Int32)) dX12_both_36 (by decide) ?_
        refine e_istore_n dX12_both_37 (Nat.le_of_ble_eq_true rfl) rfl rfl ?_
        refine e_goto (tgt := 5) dX12_both_38 (by decide) ?_
        exact e_wk (lk1 (lk1 (lk0 lkn))) (ih hY28 H kE)
      · replace H := of_ c29 H
        refine e_iload_n dX12_both_28 rfl ?_
        refine e_if_eq (tgt := 36) dX12_both_29 (by decide) (fun c30 => ?_) (fun c30 => ?_)
        · replace H := ot c30 H
          refine e_iconst (v := (0 : Int32)) dX12_both_36 (by decide) ?_
          refine e_istore_n dX12_both_37 (Nat.le_of_ble_eq_true rfl) rfl rfl ?_
          refine e_goto (tgt := 5) dX12_both_38 (by decide) ?_
          exact e_wk (lk1 (lk1 (lk0 lkn))) (ih hY28 H kE)
        · replace H := of_ c30 H
          refine e_iconst (v := (1 : Int32)) dX12_both_32 (by decide) ?_
          refine e_goto (tgt := 37) dX12_both_33 (by decide) ?_
          refine e_istore_n dX12_both_37 (Nat.le_of_ble_eq_true rfl) rfl rfl ?_
          refine e_goto (tgt := 5) dX12_both_38 (by decide) ?_
          exact e_wk (lk1 (lk1 (lk0 lkn))) (ih hY28 H kE)
def g_X12_both (rc : Nat → HS → Option (Int32 × HS))  (h : HS) : Option (Int32 × HS) := (Option.bind (rc 2 h) (fun q1 => (Option.bind (l_X12_both_5 rc 1000 q1.1 q1.2) (fun q31 => (some (q31.1, q31.2))))))
set_option maxHeartbeats 4000000 in
set_option maxRecDepth 20000 in
theorem p_X12_both {rc : Nat → HS → Option (Int32 × HS)} (hpc : RPX12 rc)  {h : HS} {q : (Int32 × HS)} (H : g_X12_both rc h = some q) : Pr h q.2 := by
  unfold g_X12_both at H
  replace H := ob H; obtain ⟨q1, c2, H⟩ := H
  have e3 := hpc c2
  replace H := ob H; obtain ⟨q31, c32, H⟩ := H
  have e33 := p_X12_both_5 hpc 1000 c32
  obtain rfl := Option.some.inj H
  exact (e3.tr e33)
set_option maxHeartbeats 4000000 in
set_option maxRecDepth 20000 in
theorem t_X12_both {G : GE} {rc : Nat → HS → Option (Int32 × HS)} {dd : Nat} (hrc : RCX12 G dd rc) (hpc : RPX12 rc) (hB : 2 ≤ dd)  {h : HS} {q : (Int32 × HS)} (hY : LY TM h) (H : g_X12_both rc h = some q) : CE G (dd + 1) yX12_both miX12_both [.ref 60] h (some (.int q.1)) (q.2) := by
  unfold g_X12_both at H
  refine ce_of rfl (by decide) (fun q => by first | rfl | cases q) (Nat.le_of_ble_eq_true rfl) rfl ?_
  refine g_aload_n dX12_both_0 rfl rfl ?_
  replace H := ob H; obtain ⟨q1, c2, H⟩ := H
  refine v1 (hY.t 0 rfl) (by decide) rfl rfl lmX12_351 liX12_not lvX12_X12_not msX12_not dX12_both_1 (hrc.X12_not hY c2) rfl (Nat.le_of_ble_eq_true rfl) (Nat.le_refl _) ?_
  have e3 := hpc c2
  have hY4 := hY.pr okM e3
  refine e_istore_n dX12_both_4 (Nat.le_of_ble_eq_true rfl) rfl rfl ?_
  replace H := ob H; obtain ⟨q31, c32, H⟩ := H
  have e33 := p_X12_both_5 hpc 1000 c32
  have hY34 := hY4.pr okM e33
  refine e_wk (lk1 (lk1 (lk1 lkn))) (w_X12_both_5 hrc hpc hB 1000 hY4 c32 ?_)
  refine e_iload_n dX12_both_41 rfl ?_
  obtain rfl := Option.some.inj H
  exact z_iret rfl rfl dX12_both_42 rfl rfl
-- X12_not
def g_X12_not (rc : Nat → HS → Option (Int32 × HS))  (h : HS) : Option (Int32 × HS) := (Option.bind (f_X12_isWord (10631 : Int64) h) (fun q1 => (if q1 = true then (Option.bind (f_X12_opens h) (fun q44 => (if q44.1 = true then (Option.bind (rc 2 q44.2) (fun q49 => (if q49.1 = 0 then (some ((1 : Int32), (sI q49.2 60 32 ((hI q49.2 60 32) - (1 : Int32))))) else (some ((0 : Int32), (sI q49.2 60 32 ((hI q49.2 60 32) - (1 : Int32)))))))) else (some ((0 : Int32), q44.2))))) else (Option.bind (rc 3 h) (fun q4 => (Option.bind (f_X12_isSign (60 : Int32) q4.2) (fun q8 => (if q8 = true then (Option.bind (if (hL q4.2 60 30) = (60 : Int64) then (some (1 : Int32)) else (some (0 : Int32))) (fun q12 => (Option.bind (f_X12_next q4.2) (fun q15 => (Option.bind (rc 3 q15) (fun q19 => (if q12 = 0 then (if q4.1 = q19.1 then (some ((1 : Int32), q19.2)) else (some ((0 : Int32), q19.2))) else (if q19.1 ≤ q4.1 then (some ((0 : Int32), q19.2)) else (some ((1 : Int32), q19.2)))))))))) else (Option.bind (f_X12_isSign (61 : Int32) q4.2) (fun q26 => (if q26 = true then (Option.bind (if (hL q4.2 60 30) = (60 : Int64) then (some (1 : Int32)) else (some (0 : Int32))) (fun q30 => (Option.bind (f_X12_next q4.2) (fun q33 => (Option.bind (rc 3 q33) (fun q37 => (if q30 = 0 then (if q4.1 = q37.1 then (some ((1 : Int32), q37.2)) else (some ((0 : Int32), q37.2))) else (if q37.1 ≤ q4.1 then (some ((0 : Int32), q37.2)) else (some ((1 : Int32), q37.2)))))))))) else (some (q4.1, q4.2)))))))))))))
set_option maxHeartbeats 4000000 in
set_option maxRecDepth 20000 in
theorem p_X12_not {rc : Nat → HS → Option (Int32 × HS)} (hpc : RPX12 rc)  {h : HS} {q : (Int32 × HS)} (H : g_X12_not rc h = some q) : Pr h q.2 := by
  unfold g_X12_not at H
  replace H := ob H; obtain ⟨q1, c2, H⟩ := H
  replace H := oi H; obtain ⟨c3, H⟩ | ⟨c3, H⟩ := H
  · replace H := ob H; obtain ⟨q44, c45, H⟩ := H
    have e46 := p_X12_opens c45
    replace H := oi H; obtain ⟨c48, H⟩ | ⟨c48, H⟩ := H
    · replace H := ob H; obtain ⟨q49, c50, H⟩ := H
      have e51 := hpc c50
      replace H := oi H; obtain ⟨c53, H⟩ | ⟨c53, H⟩ := H
      · obtain rfl := Option.some.inj H
        exact ((e46.tr e51).sI)
      · obtain rfl := Option.some.inj H
        exact ((e46.tr e51).sI)
    · obtain rfl := Option.some.inj H
      exact e46
  · replace H := ob H; obtain ⟨q4, c5, H⟩ := H
    have e6 := hpc c5
    replace H := ob H; obtain ⟨q8, c9, H⟩ := H
    replace H := oi H; obtain ⟨c10, H⟩ | ⟨c10, H⟩ := H
    · replace H := ob H; obtain ⟨q12, c14, H⟩ := H
      replace H := ob H; obtain ⟨q15, c16, H⟩ := H
      have e17 := p_X12_next c16
      replace H := ob H; obtain ⟨q19, c20, H⟩ := H
      have e21 := hpc c20
      replace H := oi H; obtain ⟨c23, H⟩ | ⟨c23, H⟩ := H
      · replace H := oi H; obtain ⟨c24, H⟩ | ⟨c24, H⟩ := H
        · obtain rfl := Option.some.inj H
          exact ((e6.tr e17).tr e21)
        · obtain rfl := Option.some.inj H
          exact ((e6.tr e17).tr e21)
      · replace H := oi H; obtain ⟨c25, H⟩ | ⟨c25, H⟩ := H
        · obtain rfl := Option.some.inj H
          exact ((e6.tr e17).tr e21)
        · obtain rfl := Option.some.inj H
          exact ((e6.tr e17).tr e21)
    · replace H := ob H; obtain ⟨q26, c27, H⟩ := H
      replace H := oi H; obtain ⟨c28, H⟩ | ⟨c28, H⟩ := H
      · replace H := ob H; obtain ⟨q30, c32, H⟩ := H
        replace H := ob H; obtain ⟨q33, c34, H⟩ := H
        have e35 := p_X12_next c34
        replace H := ob H; obtain ⟨q37, c38, H⟩ := H
        have e39 := hpc c38
        replace H := oi H; obtain ⟨c41, H⟩ | ⟨c41, H⟩ := H
        · replace H := oi H; obtain ⟨c42, H⟩ | ⟨c42, H⟩ := H
          · obtain rfl := Option.some.inj H
            exact ((e6.tr e35).tr e39)
          · obtain rfl := Option.some.inj H
            exact ((e6.tr e35).tr e39)
        · replace H := oi H; obtain ⟨c43, H⟩ | ⟨c43, H⟩ := H
          · obtain rfl := Option.some.inj H
            exact ((e6.tr e35).tr e39)
          · obtain rfl := Option.some.inj H
            exact ((e6.tr e35).tr e39)
      · obtain rfl := Option.some.inj H
        exact e6
set_option maxHeartbeats 4000000 in
set_option maxRecDepth 20000 in
theorem t_X12_not {G : GE} {rc : Nat → HS → Option (Int32 × HS)} {dd : Nat} (hrc : RCX12 G dd rc) (hpc : RPX12 rc) (hB : 2 ≤ dd)  {h : HS} {q : (Int32 × HS)} (hY : LY TM h) (H : g_X12_not rc h = some q) : CE G (dd + 1) yX12_not miX12_not [.ref 60] h (some (.int q.1)) (q.2) := by
  unfold g_X12_not at H
  refine ce_of rfl (by decide) (fun q => by first | rfl | cases q) (Nat.le_of_ble_eq_true rfl) rfl ?_
  refine g_aload_n dX12_not_0 rfl rfl ?_
  refine e_ldc2 (v := (10631 : Int64)) lkX12_349 dX12_not_1 ?_
  replace H := ob H; obtain ⟨q1, c2, H⟩ := H
  refine v1 (hY.t 0 rfl) (by decide) rfl rfl lmX12_301 liX12_isWord lvX12_X12_isWord msX12_isWord dX12_not_4 (t_X12_isWord (dd - 0) hY c2) rfl (Nat.le_of_ble_eq_true rfl) (by omega) ?_
  refine e_ifB_eq (tgt := 44) dX12_not_7 (by decide) (fun c3 => ?_) (fun c3 => ?_)
  · replace H := of_ (nb c3) H
    refine g_aload_n dX12_not_44 rfl rfl ?_
    replace H := ob H; obtain ⟨q4, c5, H⟩ := H
    refine v1 (hY.t 0 rfl) (by decide) rfl rfl lmX12_354 liX12_added lvX12_X12_added msX12_added dX12_not_45 (hrc.X12_added hY c5) rfl (Nat.le_of_ble_eq_true rfl) (Nat.le_refl _) ?_
    have e6 := hpc c5
    have hY7 := hY.pr okM e6
    refine e_istore_n dX12_not_48 (Nat.le_of_ble_eq_true rfl) rfl rfl ?_
    refine g_aload_n dX12_not_49 rfl rfl ?_
    refine e_bipush (v := (60 : Int32)) dX12_not_50 (by decide) ?_
    replace H := ob H; obtain ⟨q8, c9, H⟩ := H
    refine v1 (hY7.t 0 rfl) (by decide) rfl rfl lmX12_327 liX12_isSign lvX12_X12_isSign msX12_isSign dX12_not_52 (t_X12_isSign (dd - 0) hY7 c9) rfl (Nat.le_of_ble_eq_true rfl) (by omega) ?_
    refine e_ifB_ne (tgt := 69) dX12_not_55 (by decide) (fun c10 => ?_) (fun c10 => ?_)
    · replace H := ot c10 H
      refine g_aload_n dX12_not_69 rfl rfl ?_
      refine e_getL (hY7.t 0 rfl) flX12_267_13 dX12_not_70 rfl ?_
      refine e_ldc2 (v := (60 : Int64)) lkX12_357 dX12_not_73 ?_
      replace H := ob H; obtain ⟨q12, c14, H⟩ := H
      have k13 : En G (dd + 1) miX12_not 85 [.ref 60, .int q4.1, dum, dum] [.int q12] q4.2 (some (.int q.1)) (q.2) := by
        refine e_istore_n dX12_not_85 (Nat.le_of_ble_eq_true rfl) rfl rfl ?_
        refine g_aload_n dX12_not_86 rfl rfl ?_
        replace H := ob H; obtain ⟨q15, c16, H⟩ := H
        refine v0 (hY7.t 0 rfl) (by decide) rfl rfl lmX12_296 liX12_next lvX12_X12_next msX12_next dX12_not_87 (t_X12_next (dd - 1) hY7 c16) rfl (Nat.le_of_ble_eq_true rfl) (by omega) ?_
        have e17 := p_X12_next c16
        have hY18 := hY7.pr okM e17
        refine g_aload_n dX12_not_90 rfl rfl ?_
        replace H := ob H; obtain ⟨q19, c20, H⟩ := H
        refine v1 (hY18.t 0 rfl) (by decide) rfl rfl lmX12_354 liX12_added lvX12_X12_added msX12_added dX12_not_91 (hrc.X12_added hY18 c20) rfl (Nat.le_of_ble_eq_true rfl) (Nat.le_refl _) ?_
        have e21 := hpc c20
        have hY22 := hY18.pr okM e21
        refine e_istore_n dX12_not_94 (Nat.le_of_ble_eq_true rfl) rfl rfl ?_
        refine e_iload_n dX12_not_95 rfl ?_
        refine e_if_eq (tgt := 107) dX12_not_96 (by decide) (fun c23 => ?_) (fun c23 => ?_)
        · replace H := ot c23 H
          refine e_iload_n dX12_not_107 rfl ?_
          refine e_iload_n dX12_not_108 rfl ?_
          refine e_icmp_ne (tgt := 116) dX12_not_109 (by decide) (fun c24 => ?_) (fun c24 => ?_)
          · replace H := of_ c24 H
            refine e_iconst (v := (0 : Int32)) dX12_not_116 (by decide) ?_
            obtain rfl := Option.some.inj H
            exact z_iret rfl rfl dX12_not_117 rfl rfl
          · replace H := ot c24 H
            refine e_iconst (v := (1 : Int32)) dX12_not_112 (by decide) ?_
            refine e_goto (tgt := 117) dX12_not_113 (by decide) ?_
            obtain rfl := Option.some.inj H
            exact z_iret rfl rfl dX12_not_117 rfl rfl
        · replace H := of_ c23 H
          refine e_iload_n dX12_not_99 rfl ?_
          refine e_iload_n dX12_not_100 rfl ?_
          refine e_icmp_ge (tgt := 116) dX12_not_101 (by decide) (fun c25 => ?_) (fun c25 => ?_)
          · replace H := ot c25 H
            refine e_iconst (v := (0 : Int32)) dX12_not_116 (by decide) ?_
            obtain rfl := Option.some.inj H
            exact z_iret rfl rfl dX12_not_117 rfl rfl
          · replace H := of_ c25 H
            refine e_goto (tgt := 112) dX12_not_104 (by decide) ?_
            refine e_iconst (v := (1 : Int32)) dX12_not_112 (by decide) ?_
            refine e_goto (tgt := 117) dX12_not_113 (by decide) ?_
            obtain rfl := Option.some.inj H
            exact z_iret rfl rfl dX12_not_117 rfl rfl
      replace H := c14
      refine e_lc_ne (tgt := 84) dX12_not_76 dX12_not_77 (by decide) (fun c11 => ?_) (fun c11 => ?_)
      · replace H := of_ c11 H
        refine e_iconst (v := (0 : Int32)) dX12_not_84 (by decide) ?_
        obtain rfl := Option.some.inj H
        exact e_wk (lk1 (lk1 (lk1 (lk1 lkn)))) k13
      · replace H := ot c11 H
        refine e_iconst (v := (1 : Int32)) dX12_not_80 (by decide) ?_
        refine e_goto (tgt := 85) dX12_not_81 (by decide) ?_
        obtain rfl := Option.some.inj H
        exact e_wk (lk1 (lk1 (lk1 (lk1 lkn)))) k13
    · replace H := of_ (nb c10) H
      refine g_aload_n dX12_not_58 rfl rfl ?_
      refine e_bipush (v := (61 : Int32)) dX12_not_59 (by decide) ?_
      replace H := ob H; obtain ⟨q26, c27, H⟩ := H
      refine v1 (hY7.t 0 rfl) (by decide) rfl rfl lmX12_327 liX12_isSign lvX12_X12_isSign msX12_isSign dX12_not_61 (t_X12_isSign (dd - 0) hY7 c27) rfl (Nat.le_of_ble_eq_true rfl) (by omega) ?_
      refine e_ifB_ne (tgt := 69) dX12_not_64 (by decide) (fun c28 => ?_) (fun c28 => ?_)
      · replace H := ot c28 H
        refine g_aload_n dX12_not_69 rfl rfl ?_
        refine e_getL (hY7.t 0 rfl) flX12_267_13 dX12_not_70 rfl ?_
        refine e_ldc2 (v := (60 : Int64)) lkX12_357 dX12_not_73 ?_
        replace H := ob H; obtain ⟨q30, c32, H⟩ := H
        have k31 : En G (dd + 1) miX12_not 85 [.ref 60, .int q4.1, dum, dum] [.int q30] q4.2 (some (.int q.1)) (q.2) := by
          refine e_istore_n dX12_not_85 (Nat.le_of_ble_eq_true rfl) rfl rfl ?_
          refine g_aload_n dX12_not_86 rfl rfl ?_
          replace H := ob H; obtain ⟨q33, c34, H⟩ := H
          refine v0 (hY7.t 0 rfl) (by decide) rfl rfl lmX12_296 liX12_next lvX12_X12_next msX12_next dX12_not_87 (t_X12_next (dd - 1) hY7 c34) rfl (Nat.le_of_ble_eq_true rfl) (by omega) ?_
          have e35 := p_X12_next c34
          have hY36 := hY7.pr okM e35
          refine g_aload_n dX12_not_90 rfl rfl ?_
          replace H := ob H; obtain ⟨q37, c38, H⟩ := H
          refine v1 (hY36.t 0 rfl) (by decide) rfl rfl lmX12_354 liX12_added lvX12_X12_added msX12_added dX12_not_91 (hrc.X12_added hY36 c38) rfl (Nat.le_of_ble_eq_true rfl) (Nat.le_refl _) ?_
          have e39 := hpc c38
          have hY40 := hY36.pr okM e39
          refine e_istore_n dX12_not_94 (Nat.le_of_ble_eq_true rfl) rfl rfl ?_
          refine e_iload_n dX12_not_95 rfl ?_
          refine e_if_eq (tgt := 107) dX12_not_96 (by decide) (fun c41 => ?_) (fun c41 => ?_)
          · replace H := ot c41 H
            refine e_iload_n dX12_not_107 rfl ?_
            refine e_iload_n dX12_not_108 rfl ?_
            refine e_icmp_ne (tgt := 116) dX12_not_109 (by decide) (fun c42 => ?_) (fun c42 => ?_)
            · replace H := of_ c42 H
              refine e_iconst (v := (0 : Int32)) dX12_not_116 (by decide) ?_
              obtain rfl := Option.some.inj H
              exact z_iret rfl rfl dX12_not_117 rfl rfl
            · replace H := ot c42 H
              refine e_iconst (v := (1 : Int32)) dX12_not_112 (by decide) ?_
              refine e_goto (tgt := 117) dX12_not_113 (by decide) ?_
              obtain rfl := Option.some.inj H
              exact z_iret rfl rfl dX12_not_117 rfl rfl
          · replace H := of_ c41 H
            refine e_iload_n dX12_not_99 rfl ?_
            refine e_iload_n dX12_not_100 rfl ?_
            refine e_icmp_ge (tgt := 116) dX12_not_101 (by decide) (fun c43 => ?_) (fun c43 => ?_)
            · replace H := ot c43 H
              refine e_iconst (v := (0 : Int32)) dX12_not_116 (by decide) ?_
              obtain rfl := Option.some.inj H
              exact z_iret rfl rfl dX12_not_117 rfl rfl
            · replace H := of_ c43 H
              refine e_goto (tgt := 112) dX12_not_104 (by decide) ?_
              refine e_iconst (v := (1 : Int32)) dX12_not_112 (by decide) ?_
              refine e_goto (tgt := 117) dX12_not_113 (by decide) ?_
              obtain rfl := Option.some.inj H
              exact z_iret rfl rfl dX12_not_117 rfl rfl
        replace H := c32
        refine e_lc_ne (tgt := 84) dX12_not_76 dX12_not_77 (by decide) (fun c29 => ?_) (fun c29 => ?_)
        · replace H := of_ c29 H
          refine e_iconst (v := (0 : Int32)) dX12_not_84 (by decide) ?_
          obtain rfl := Option.some.inj H
          exact e_wk (lk1 (lk1 (lk1 (lk1 lkn)))) k31
        · replace H := ot c29 H
          refine e_iconst (v := (1 : Int32)) dX12_not_80 (by decide) ?_
          refine e_goto (tgt := 85) dX12_not_81 (by decide) ?_
          obtain rfl := Option.some.inj H
          exact e_wk (lk1 (lk1 (lk1 (lk1 lkn)))) k31
      · replace H := of_ (nb c28) H
        refine e_iload_n dX12_not_67 rfl ?_
        obtain rfl := Option.some.inj H
        exact z_iret rfl rfl dX12_not_68 rfl rfl
  · replace H := ot c3 H
    refine g_aload_n dX12_not_10 rfl rfl ?_
    replace H := ob H; obtain ⟨q44, c45, H⟩ := H
    refine v1 (hY.t 0 rfl) (by decide) rfl rfl lmX12_330 liX12_opens lvX12_X12_opens msX12_opens dX12_not_11 (t_X12_opens (dd - 2) hY c45) rfl (Nat.le_of_ble_eq_true rfl) (by omega) ?_
    have e46 := p_X12_opens c45
    have hY47 := hY.pr okM e46
    refine e_ifB_ne (tgt := 19) dX12_not_14 (by decide) (fun c48 => ?_) (fun c48 => ?_)
    · replace H := ot c48 H
      refine g_aload_n dX12_not_19 rfl rfl ?_
      replace H := ob H; obtain ⟨q49, c50, H⟩ := H
      refine v1 (hY47.t 0 rfl) (by decide) rfl rfl lmX12_351 liX12_not lvX12_X12_not msX12_not dX12_not_20 (hrc.X12_not hY47 c50) rfl (Nat.le_of_ble_eq_true rfl) (Nat.le_refl _) ?_
      have e51 := hpc c50
      have hY52 := hY47.pr okM e51
      refine e_istore_n dX12_not_23 (Nat.le_of_ble_eq_true rfl) rfl rfl ?_
      refine g_aload_n dX12_not_24 rfl rfl ?_
      refine e_dup dX12_not_25 rfl ?_
      refine e_getI (hY52.t 0 rfl) flX12_290_13 dX12_not_26 rfl ?_
      refine e_iconst (v := (1 : Int32)) dX12_not_29 (by decide) ?_
      refine e_isub dX12_not_30 ?_
      refine e_putI (hY52.t 0 rfl) fpX12_290_13 rfl dX12_not_31 ?_
      refine e_iload_n dX12_not_34 rfl ?_
      refine e_if_ne (tgt := 42) dX12_not_35 (by decide) (fun c53 => ?_) (fun c53 => ?_)
      · replace H := of_ c53 H
        refine e_iconst (v := (0 : Int32)) dX12_not_42 (by decide) ?_
        obtain rfl := Option.some.inj H
        exact z_iret rfl rfl dX12_not_43 rfl rfl
      · replace H := ot c53 H
        refine e_iconst (v := (1 : Int32)) dX12_not_38 (by decide) ?_
        refine e_goto (tgt := 43) dX12_not_39 (by decide) ?_
        obtain rfl := Option.some.inj H
        exact z_iret rfl rfl dX12_not_43 rfl rfl
    · replace H := of_ (nb c48) H
      refine e_iconst (v := (0 : Int32)) dX12_not_17 (by decide) ?_
      obtain rfl := Option.some.inj H
      exact z_iret rfl rfl dX12_not_18 rfl rfl
-- X12_added
def l_X12_added_5 (rc : Nat → HS → Option (Int32 × HS))  : Nat → Int32 → HS → Option (Int32 × HS)
  | 0, _, _ => none
  | n + 1, x1, h => (Option.bind (f_X12_isSign (43 : Int32) h) (fun q37 => (if q37 = true then (Option.bind (if (hL h 60 30) = (43 : Int64) then (some (1 : Int32)) else (some (0 : Int32))) (fun q41 => (Option.bind (f_X12_next h) (fun q44 => (Option.bind (rc 4 q44) (fun q48 => (if q41 = 0 then (l_X12_added_5 rc n (x1 - q48.1) q48.2) else (l_X12_added_5 rc n (x1 + q48.1) q48.2)))))))) else (Option.bind (f_X12_isSign (45 : Int32) h) (fun q53 => (if q53 = true then (Option.bind (if (hL h 60 30) = (43 : Int64) then (some (1 : Int32)) else (some (0 : Int32))) (fun q57 => (Option.bind (f_X12_next h) (fun q60 => (Option.bind (rc 4 q60) (fun q64 => (if q57 = 0 then (l_X12_added_5 rc n (x1 - q64.1) q64.2) else (l_X12_added_5 rc n (x1 + q64.1) q64.2)))))))) else (some (x1, h))))))))
set_option maxHeartbeats 4000000 in
set_option maxRecDepth 20000 in
theorem p_X12_added_5 {rc : Nat → HS → Option (Int32 × HS)} (hpc : RPX12 rc)  : ∀ (n : Nat) {x1 : Int32} {h : HS} {q : (Int32 × HS)}, l_X12_added_5 rc n x1 h = some q → Pr h q.2 := by
  intro n
  induction n with
  | zero => intro x1 h q H; exact nz H
  | succ n ih =>
    intro x1 h q H
    unfold l_X12_added_5 at H
    replace H := ob H; obtain ⟨q37, c38, H⟩ := H
    replace H := oi H; obtain ⟨c39, H⟩ | ⟨c39, H⟩ := H
    · replace H := ob H; obtain ⟨q41, c43, H⟩ := H
      replace H := ob H; obtain ⟨q44, c45, H⟩ := H
      have e46 := p_X12_next c45
      replace H := ob H; obtain ⟨q48, c49, H⟩ := H
      have e50 := hpc c49
      replace H := oi H; obtain ⟨c52, H⟩ | ⟨c52, H⟩ := H
      · exact (e46.tr e50).tr (ih H)
      · exact (e46.tr e50).tr (ih H)
    · replace H := ob H; obtain ⟨q53, c54, H⟩ := H
      replace H := oi H; obtain ⟨c55, H⟩ | ⟨c55, H⟩ := H
      · replace H := ob H; obtain ⟨q57, c59, H⟩ := H
        replace H := ob H; obtain ⟨q60, c61, H⟩ := H
        have e62 := p_X12_next c61
        replace H := ob H; obtain ⟨q64, c65, H⟩ := H
        have e66 := hpc c65
        replace H := oi H; obtain ⟨c68, H⟩ | ⟨c68, H⟩ := H
        · exact (e62.tr e66).tr (ih H)
        · exact (e62.tr e66).tr (ih H)
      · obtain rfl := Option.some.inj H
        exact Pr.rf
set_option maxHeartbeats 4000000 in
set_option maxRecDepth 20000 in
theorem w_X12_added_5 {G : GE} {rc : Nat → HS → Option (Int32 × HS)} {dd : Nat} (hrc : RCX12 G dd rc) (hpc : RPX12 rc) (hB : 2 ≤ dd)  {r : Option Value} {h' : HS}  : ∀ (n : Nat) {x1 : Int32} {h : HS} {q : (Int32 × HS)}, LY TM h → l_X12_added_5 rc n x1 h = some q → En G (dd + 1) miX12_added 66 [dum, .int q.1, dum, dum] [] q.2 r h' → En G (dd + 1) miX12_added 5 [.ref 60, .int x1, dum, dum] [] h r h' := by
  intro n
  induction n with
  | zero => intro x1 h q hYTM H kE; exact nz H
  | succ n ih =>
    intro x1 h q hYTM H kE
    unfold l_X12_added_5 at H
    refine g_aload_n dX12_added_5 rfl rfl ?_
    refine e_bipush (v := (43 : Int32)) dX12_added_6 (by decide) ?_
    replace H := ob H; obtain ⟨q37, c38, H⟩ := H
    refine v1 (hYTM.t 0 rfl) (by decide) rfl rfl lmX12_327 liX12_isSign lvX12_X12_isSign msX12_isSign dX12_added_8 (t_X12_isSign (dd - 0) hYTM c38) rfl (Nat.le_of_ble_eq_true rfl) (by omega) ?_
    refine e_ifB_ne (tgt := 23) dX12_added_11 (by decide) (fun c39 => ?_) (fun c39 => ?_)
    · replace H := ot c39 H
      refine g_aload_n dX12_added_23 rfl rfl ?_
      refine e_getL (hYTM.t 0 rfl) flX12_267_13 dX12_added_24 rfl ?_
      refine e_ldc2 (v := (43 : Int64)) lkX12_347 dX12_added_27 ?_
      replace H := ob H; obtain ⟨q41, c43, H⟩ := H
      have k42 : En G (dd + 1) miX12_added 39 [.ref 60, .int x1, dum, dum] [.int q41] h r h' := by
        refine e_istore_n dX12_added_39 (Nat.le_of_ble_eq_true rfl) rfl rfl ?_
        refine g_aload_n dX12_added_40 rfl rfl ?_
        replace H := ob H; obtain ⟨q44, c45, H⟩ := H
        refine v0 (hYTM.t 0 rfl) (by decide) rfl rfl lmX12_296 liX12_next lvX12_X12_next msX12_next dX12_added_41 (t_X12_next (dd - 1) hYTM c45) rfl (Nat.le_of_ble_eq_true rfl) (by omega) ?_
        have e46 := p_X12_next c45
        have hY47 := hYTM.pr okM e46
        refine g_aload_n dX12_added_44 rfl rfl ?_
        replace H := ob H; obtain ⟨q48, c49, H⟩ := H
        refine v1 (hY47.t 0 rfl) (by decide) rfl rfl lmX12_344 liX12_term lvX12_X12_term msX12_term dX12_added_45 (hrc.X12_term hY47 c49) rfl (Nat.le_of_ble_eq_true rfl) (Nat.le_refl _) ?_
        have e50 := hpc c49
        have hY51 := hY47.pr okM e50
        refine e_istore_n dX12_added_48 (Nat.le_of_ble_eq_true rfl) rfl rfl ?_
        refine e_iload_n dX12_added_49 rfl ?_
        refine e_if_eq (tgt := 59) dX12_added_50 (by decide) (fun c52 => ?_) (fun c52 => ?_)
        · replace H := ot c52 H
          refine e_iload_n dX12_added_59 rfl ?_
          refine e_iload_n dX12_added_60 rfl ?_
          refine e_isub dX12_added_61 ?_
          refine e_istore_n dX12_added_62 (Nat.le_of_ble_eq_true rfl) rfl rfl ?_
          refine e_goto (tgt := 5) dX12_added_63 (by decide) ?_
          exact e_wk (lk1 (lk1 (lk0 (lk0 lkn)))) (ih hY51 H kE)
        · replace H := of_ c52 H
          refine e_iload_n dX12_added_53 rfl ?_
          refine e_iload_n dX12_added_54 rfl ?_
          refine e_iadd dX12_added_55 ?_
          refine e_goto (tgt := 62) dX12_added_56 (by decide) ?_
          refine e_istore_n dX12_added_62 (Nat.le_of_ble_eq_true rfl) rfl rfl ?_
          refine e_goto (tgt := 5) dX12_added_63 (by decide) ?_
          exact e_wk (lk1 (lk1 (lk0 (lk0 lkn)))) (ih hY51 H kE)
      replace H := c43
      refine e_lc_ne (tgt := 38) dX12_added_30 dX12_added_31 (by decide) (fun c40 => ?_) (fun c40 => ?_)
      · replace H := of_ c40 H
        refine e_iconst (v := (0 : Int32)) dX12_added_38 (by decide) ?_
        obtain rfl := Option.some.inj H
        exact e_wk (lk1 (lk1 (lk1 (lk1 lkn)))) k42
      · replace H := ot c40 H
        refine e_iconst (v := (1 : Int32)) dX12_added_34 (by decide) ?_
        refine e_goto (tgt := 39) dX12_added_35 (by decide) ?_
        obtain rfl := Option.some.inj H
        exact e_wk (lk1 (lk1 (lk1 (lk1 lkn)))) k42
    · replace H := of_ (nb c39) H
      refine g_aload_n dX12_added_14 rfl rfl ?_
      refine e_bipush (v := (45 : Int32)) dX12_added_15 (by decide) ?_
      replace H := ob H; obtain ⟨q53, c54, H⟩ := H
      refine v1 (hYTM.t 0 rfl) (by decide) rfl rfl lmX12_327 liX12_isSign lvX12_X12_isSign msX12_isSign dX12_added_17 (t_X12_isSign (dd - 0) hYTM c54) rfl (Nat.le_of_ble_eq_true rfl) (by omega) ?_
      refine e_ifB_eq (tgt := 66) dX12_added_20 (by decide) (fun c55 => ?_) (fun c55 => ?_)
      · replace H := of_ (nb c55) H
        obtain rfl := Option.some.inj H
        exact e_wk (lk0 (lk1 (lk1 (lk1 lkn)))) kE
      · replace H := ot c55 H
        refine g_aload_n dX12_added_23 rfl rfl ?_
        refine e_getL (hYTM.t 0 rfl) flX12_267_13 dX12_added_24 rfl ?_
        refine e_ldc2 (v := (43 : Int64)) lkX12_347 dX12_added_27 ?_
        replace H := ob H; obtain ⟨q57, c59, H⟩ := H
        have k58 : En G (dd + 1) miX12_added 39 [.ref 60, .int x1, dum, dum] [.int q57] h r h' := by
          refine e_istore_n dX12_added_39 (Nat.le_of_ble_eq_true rfl) rfl rfl ?_
          refine g_aload_n dX12_added_40 rfl rfl ?_
          replace H := ob H; obtain ⟨q60, c61, H⟩ := H
          refine v0 (hYTM.t 0 rfl) (by decide) rfl rfl lmX12_296 liX12_next lvX12_X12_next msX12_next dX12_added_41 (t_X12_next (dd - 1) hYTM c61) rfl (Nat.le_of_ble_eq_true rfl) (by omega) ?_
          have e62 := p_X12_next c61
          have hY63 := hYTM.pr okM e62
          refine g_aload_n dX12_added_44 rfl rfl ?_
          replace H := ob H; obtain ⟨q64, c65, H⟩ := H
          refine v1 (hY63.t 0 rfl) (by decide) rfl rfl lmX12_344 liX12_term lvX12_X12_term msX12_term dX12_added_45 (hrc.X12_term hY63 c65) rfl (Nat.le_of_ble_eq_true rfl) (Nat.le_refl _) ?_
          have e66 := hpc c65
          have hY67 := hY63.pr okM e66
          refine e_istore_n dX12_added_48 (Nat.le_of_ble_eq_true rfl) rfl rfl ?_
          refine e_iload_n dX12_added_49 rfl ?_
          refine e_if_eq (tgt := 59) dX12_added_50 (by decide) (fun c68 => ?_) (fun c68 => ?_)
          · replace H := ot c68 H
            refine e_iload_n dX12_added_59 rfl ?_
            refine e_iload_n dX12_added_60 rfl ?_
            refine e_isub dX12_added_61 ?_
            refine e_istore_n dX12_added_62 (Nat.le_of_ble_eq_true rfl) rfl rfl ?_
            refine e_goto (tgt := 5) dX12_added_63 (by decide) ?_
            exact e_wk (lk1 (lk1 (lk0 (lk0 lkn)))) (ih hY67 H kE)
          · replace H := of_ c68 H
            refine e_iload_n dX12_added_53 rfl ?_
            refine e_iload_n dX12_added_54 rfl ?_
            refine e_iadd dX12_added_55 ?_
            refine e_goto (tgt := 62) dX12_added_56 (by decide) ?_
            refine e_istore_n dX12_added_62 (Nat.le_of_ble_eq_true rfl) rfl rfl ?_
            refine e_goto (tgt := 5) dX12_added_63 (by decide) ?_
            exact e_wk (lk1 (lk1 (lk0 (lk0 lkn)))) (ih hY67 H kE)
        replace H := c59
        refine e_lc_ne (tgt := 38) dX12_added_30 dX12_added_31 (by decide) (fun c56 => ?_) (fun c56 => ?_)
        · replace H := of_ c56 H
          refine e_iconst (v := (0 : Int32)) dX12_added_38 (by decide) ?_
          obtain rfl := Option.some.inj H
          exact e_wk (lk1 (lk1 (lk1 (lk1 lkn)))) k58
        · replace H := ot c56 H
          refine e_iconst (v := (1 : Int32)) dX12_added_34 (by decide) ?_
          refine e_goto (tgt := 39) dX12_added_35 (by decide) ?_
          obtain rfl := Option.some.inj H
          exact e_wk (lk1 (lk1 (lk1 (lk1 lkn)))) k58
def g_X12_added (rc : Nat → HS → Option (Int32 × HS))  (h : HS) : Option (Int32 × HS) := (Option.bind (rc 4 h) (fun q1 => (Option.bind (l_X12_added_5 rc 1000 q1.1 q1.2) (fun q69 => (some (q69.1, q69.2))))))
set_option maxHeartbeats 4000000 in
set_option maxRecDepth 20000 in
theorem p_X12_added {rc : Nat → HS → Option (Int32 × HS)} (hpc : RPX12 rc)  {h : HS} {q : (Int32 × HS)} (H : g_X12_added rc h = some q) : Pr h q.2 := by
  unfold g_X12_added at H
  replace H := ob H; obtain ⟨q1, c2, H⟩ := H
  have e3 := hpc c2
  replace H := ob H; obtain ⟨q69, c70, H⟩ := H
  have e71 := p_X12_added_5 hpc 1000 c70
  obtain rfl := Option.some.inj H
  exact (e3.tr e71)
set_option maxHeartbeats 4000000 in
set_option maxRecDepth 20000 in
theorem t_X12_added {G : GE} {rc : Nat → HS → Option (Int32 × HS)} {dd : Nat} (hrc : RCX12 G dd rc) (hpc : RPX12 rc) (hB : 2 ≤ dd)  {h : HS} {q : (Int32 × HS)} (hY : LY TM h) (H : g_X12_added rc h = some q) : CE G (dd + 1) yX12_added miX12_added [.ref 60] h (some (.int q.1)) (q.2) := by
  unfold g_X12_added at H
  refine ce_of rfl (by decide) (fun q => by first | rfl | cases q) (Nat.le_of_ble_eq_true rfl) rfl ?_
  refine g_aload_n dX12_added_0 rfl rfl ?_
  replace H := ob H; obtain ⟨q1, c2, H⟩ := H
  refine v1 (hY.t 0 rfl) (by decide) rfl rfl lmX12_344 liX12_term lvX12_X12_term msX12_term dX12_added_1 (hrc.X12_term hY c2) rfl (Nat.le_of_ble_eq_true rfl) (Nat.le_refl _) ?_
  have e3 := hpc c2
  have hY4 := hY.pr okM e3
  refine e_istore_n dX12_added_4 (Nat.le_of_ble_eq_true rfl) rfl rfl ?_
  replace H := ob H; obtain ⟨q69, c70, H⟩ := H
  have e71 := p_X12_added_5 hpc 1000 c70
  have hY72 := hY4.pr okM e71
  refine e_wk (lk1 (lk1 (lk1 (lk1 lkn)))) (w_X12_added_5 hrc hpc hB 1000 hY4 c70 ?_)
  refine e_iload_n dX12_added_66 rfl ?_
  obtain rfl := Option.some.inj H
  exact z_iret rfl rfl dX12_added_67 rfl rfl
-- X12_term
def l_X12_term_5 (rc : Nat → HS → Option (Int32 × HS))  : Nat → Int32 → HS → Option (Int32 × HS)
  | 0, _, _ => none
  | n + 1, x1, h => (Option.bind (f_X12_isSign (42 : Int32) h) (fun q16 => (if q16 = true then (Option.bind (f_X12_next h) (fun q19 => (Option.bind (rc 5 q19) (fun q23 => (l_X12_term_5 rc n (x1 * q23.1) q23.2))))) else (some (x1, h)))))
set_option maxHeartbeats 4000000 in
set_option maxRecDepth 20000 in
theorem p_X12_term_5 {rc : Nat → HS → Option (Int32 × HS)} (hpc : RPX12 rc)  : ∀ (n : Nat) {x1 : Int32} {h : HS} {q : (Int32 × HS)}, l_X12_term_5 rc n x1 h = some q → Pr h q.2 := by
  intro n
  induction n with
  | zero => intro x1 h q H; exact nz H
  | succ n ih =>
    intro x1 h q H
    unfold l_X12_term_5 at H
    replace H := ob H; obtain ⟨q16, c17, H⟩ := H
    replace H := oi H; obtain ⟨c18, H⟩ | ⟨c18, H⟩ := H
    · replace H := ob H; obtain ⟨q19, c20, H⟩ := H
      have e21 := p_X12_next c20
      replace H := ob H; obtain ⟨q23, c24, H⟩ := H
      have e25 := hpc c24
      exact (e21.tr e25).tr (ih H)
    · obtain rfl := Option.some.inj H
      exact Pr.rf
set_option maxHeartbeats 4000000 in
set_option maxRecDepth 20000 in
theorem w_X12_term_5 {G : GE} {rc : Nat → HS → Option (Int32 × HS)} {dd : Nat} (hrc : RCX12 G dd rc) (hpc : RPX12 rc) (hB : 2 ≤ dd)  {r : Option Value} {h' : HS}  : ∀ (n : Nat) {x1 : Int32} {h : HS} {q : (Int32 × HS)}, LY TM h → l_X12_term_5 rc n x1 h = some q → En G (dd + 1) miX12_term 28 [dum, .int q.1] [] q.2 r h' → En G (dd + 1) miX12_term 5 [.ref 60, .int x1] [] h r h' := by
  intro n
  induction n with
  | zero => intro x1 h q hYTM H kE; exact nz H
  | succ n ih =>
    intro x1 h q hYTM H kE
    unfold l_X12_term_5 at H
    refine g_aload_n dX12_term_5 rfl rfl ?_
    refine e_bipush (v := (42 : Int32)) dX12_term_6 (by decide) ?_
    replace H := ob H; obtain ⟨q16, c17, H⟩ := H
    refine v1 (hYTM.t 0 rfl) (by decide) rfl rfl lmX12_327 liX12_isSign lvX12_X12_isSign msX12_isSign dX12_term_8 (t_X12_isSign (dd - 0) hYTM c17) rfl (Nat.le_of_ble_eq_true rfl) (by omega) ?_
    refine e_ifB_eq (tgt := 28) dX12_term_11 (by decide) (fun c18 => ?_) (fun c18 => ?_)
    · replace H := of_ (nb c18) H
      obtain rfl := Option.some.inj H
      exact e_wk (lk0 (lk1 lkn)) kE
    · replace H := ot c18 H
      refine g_aload_n dX12_term_14 rfl rfl ?_
      replace H := ob H; obtain ⟨q19, c20, H⟩ := H
      refine v0 (hYTM.t 0 rfl) (by decide) rfl rfl lmX12_296 liX12_next lvX12_X12_next msX12_next dX12_term_15 (t_X12_next (dd - 1) hYTM c20) rfl (Nat.le_of_ble_eq_true rfl) (by omega) ?_
      have e21 := p_X12_next c20
      have hY22 := hYTM.pr okM e21
      refine e_iload_n dX12_term_18 rfl ?_
      refine g_aload_n dX12_term_19 rfl rfl ?_
      replace H := ob H; obtain ⟨q23, c24, H⟩ := H
      refine v1 (hY22.t 0 rfl) (by decide) rfl rfl lmX12_334 liX12_one lvX12_X12_one msX12_one dX12_term_20 (hrc.X12_one hY22 c24) rfl (Nat.le_of_ble_eq_true rfl) (Nat.le_refl _) ?_
      have e25 := hpc c24
      have hY26 := hY22.pr okM e25
      refine e_imul dX12_term_23 ?_
      refine e_istore_n dX12_term_24 (Nat.le_of_ble_eq_true rfl) rfl rfl ?_
      refine e_goto (tgt := 5) dX12_term_25 (by decide) ?_
      exact e_wk (lk1 (lk1 lkn)) (ih hY26 H kE)
def g_X12_term (rc : Nat → HS → Option (Int32 × HS))  (h : HS) : Option (Int32 × HS) := (Option.bind (rc 5 h) (fun q1 => (Option.bind (l_X12_term_5 rc 1000 q1.1 q1.2) (fun q27 => (some (q27.1, q27.2))))))
set_option maxHeartbeats 4000000 in
set_option maxRecDepth 20000 in
theorem p_X12_term {rc : Nat → HS → Option (Int32 × HS)} (hpc : RPX12 rc)  {h : HS} {q : (Int32 × HS)} (H : g_X12_term rc h = some q) : Pr h q.2 := by
  unfold g_X12_term at H
  replace H := ob H; obtain ⟨q1, c2, H⟩ := H
  have e3 := hpc c2
  replace H := ob H; obtain ⟨q27, c28, H⟩ := H
  have e29 := p_X12_term_5 hpc 1000 c28
  obtain rfl := Option.some.inj H
  exact (e3.tr e29)
set_option maxHeartbeats 4000000 in
set_option maxRecDepth 20000 in
theorem t_X12_term {G : GE} {rc : Nat → HS → Option (Int32 × HS)} {dd : Nat} (hrc : RCX12 G dd rc) (hpc : RPX12 rc) (hB : 2 ≤ dd)  {h : HS} {q : (Int32 × HS)} (hY : LY TM h) (H : g_X12_term rc h = some q) : CE G (dd + 1) yX12_term miX12_term [.ref 60] h (some (.int q.1)) (q.2) := by
  unfold g_X12_term at H
  refine ce_of rfl (by decide) (fun q => by first | rfl | cases q) (Nat.le_of_ble_eq_true rfl) rfl ?_
  refine g_aload_n dX12_term_0 rfl rfl ?_
  replace H := ob H; obtain ⟨q1, c2, H⟩ := H
  refine v1 (hY.t 0 rfl) (by decide) rfl rfl lmX12_334 liX12_one lvX12_X12_one msX12_one dX12_term_1 (hrc.X12_one hY c2) rfl (Nat.le_of_ble_eq_true rfl) (Nat.le_refl _) ?_
  have e3 := hpc c2
  have hY4 := hY.pr okM e3
  refine e_istore_n dX12_term_4 (Nat.le_of_ble_eq_true rfl) rfl rfl ?_
  replace H := ob H; obtain ⟨q27, c28, H⟩ := H
  have e29 := p_X12_term_5 hpc 1000 c28
  have hY30 := hY4.pr okM e29
  refine e_wk (lk1 (lk1 lkn)) (w_X12_term_5 hrc hpc hB 1000 hY4 c28 ?_)
  refine e_iload_n dX12_term_28 rfl ?_
  obtain rfl := Option.some.inj H
  exact z_iret rfl rfl dX12_term_29 rfl rfl
-- X12_one
def g_X12_one (rc : Nat → HS → Option (Int32 × HS))  (h : HS) : Option (Int32 × HS) := (Option.bind (f_X12_isSign (45 : Int32) h) (fun q1 => (if q1 = true then (Option.bind (f_X12_opens h) (fun q77 => (if q77.1 = true then (Option.bind (rc 5 q77.2) (fun q82 => (some ((-q82.1), (sI q82.2 60 32 ((hI q82.2 60 32) - (1 : Int32))))))) else (some ((0 : Int32), q77.2))))) else (Option.bind (f_X12_isSign (40 : Int32) h) (fun q4 => (if q4 = true then (Option.bind (f_X12_opens h) (fun q51 => (if q51.1 = true then (Option.bind (rc 0 q51.2) (fun q56 => (Option.bind (f_X12_isSign (41 : Int32) q56.2) (fun q60 => (Option.bind (if q60 = true then (some q56.2) else (Option.bind (f_X12_fail q56.2) (fun q65 => (some q65)))) (fun q63 => (if (hI (sI q63 60 32 ((hI q63 60 32) - (1 : Int32))) 60 33) = 0 then (Option.bind (f_X12_next (sI q63 60 32 ((hI q63 60 32) - (1 : Int32)))) (fun q73 => (some (q56.1, q73)))) else (some (q56.1, (sI q63 60 32 ((hI q63 60 32) - (1 : Int32)))))))))))) else (some ((0 : Int32), q51.2))))) else (if (hI h 60 33) = 0 then (if (hI h 60 28) = (2 : Int32) then (Option.bind (f_X12_next h) (fun q47 => (some ((hL h 60 30).toInt32, q47)))) else (if (hI h 60 33) = 0 then (if (hI h 60 28) = (1 : Int32) then (Option.bind (f_X12_name h) (fun q38 => (if (hI q38.2 60 33) = 0 then (Option.bind (f_X12_next q38.2) (fun q43 => (some (q38.1, q43)))) else (some (q38.1, q38.2))))) else (Option.bind (f_X12_fail h) (fun q34 => (some ((0 : Int32), q34))))) else (Option.bind (f_X12_fail h) (fun q29 => (some ((0 : Int32), q29)))))) else (if (hI h 60 33) = 0 then (if (hI h 60 28) = (1 : Int32) then (Option.bind (f_X12_name h) (fun q18 => (if (hI q18.2 60 33) = 0 then (Option.bind (f_X12_next q18.2) (fun q23 => (some (q18.1, q23)))) else (some (q18.1, q18.2))))) else (Option.bind (f_X12_fail h) (fun q14 => (some ((0 : Int32), q14))))) else (Option.bind (f_X12_fail h) (fun q9 => (some ((0 : Int32), q9))))))))))))
set_option maxHeartbeats 4000000 in
set_option maxRecDepth 20000 in
theorem p_X12_one {rc : Nat → HS → Option (Int32 × HS)} (hpc : RPX12 rc)  {h : HS} {q : (Int32 × HS)} (H : g_X12_one rc h = some q) : Pr h q.2 := by
  unfold g_X12_one at H
  replace H := ob H; obtain ⟨q1, c2, H⟩ := H
  replace H := oi H; obtain ⟨c3, H⟩ | ⟨c3, H⟩ := H
  · replace H := ob H; obtain ⟨q77, c78, H⟩ := H
    have e79 := p_X12_opens c78
    replace H := oi H; obtain ⟨c81, H⟩ | ⟨c81, H⟩ := H
    · replace H := ob H; obtain ⟨q82, c83, H⟩ := H
      have e84 := hpc c83
      obtain rfl := Option.some.inj H
      exact ((e79.tr e84).sI)
    · obtain rfl := Option.some.inj H
      exact e79
  · replace H := ob H; obtain ⟨q4, c5, H⟩ := H
    replace H := oi H; obtain ⟨c6, H⟩ | ⟨c6, H⟩ := H
    · replace H := ob H; obtain ⟨q51, c52, H⟩ := H
      have e53 := p_X12_opens c52
      replace H := oi H; obtain ⟨c55, H⟩ | ⟨c55, H⟩ := H
      · replace H := ob H; obtain ⟨q56, c57, H⟩ := H
        have e58 := hpc c57
        replace H := ob H; obtain ⟨q60, c61, H⟩ := H
        replace H := ob H; obtain ⟨q63, c69, H⟩ := H
        have e70 : Pr q56.2 q63 := by
          replace H := c69
          replace H := oi H; obtain ⟨c62, H⟩ | ⟨c62, H⟩ := H
          · obtain rfl := Option.some.inj H
            exact Pr.rf
          · replace H := ob H; obtain ⟨q65, c66, H⟩ := H
            have e67 := p_X12_fail c66
            obtain rfl := Option.some.inj H
            exact e67
        replace H := oi H; obtain ⟨c72, H⟩ | ⟨c72, H⟩ := H
        · replace H := ob H; obtain ⟨q73, c74, H⟩ := H
          have e75 := p_X12_next c74
          obtain rfl := Option.some.inj H
          exact ((((e53.tr e58).tr e70).sI).tr e75)
        · obtain rfl := Option.some.inj H
          exact (((e53.tr e58).tr e70).sI)
      · obtain rfl := Option.some.inj H
        exact e53
    · replace H := oi H; obtain ⟨c7, H⟩ | ⟨c7, H⟩ := H
      · replace H := oi H; obtain ⟨c27, H⟩ | ⟨c27, H⟩ := H
        · replace H := ob H; obtain ⟨q47, c48, H⟩ := H
          have e49 := p_X12_next c48
          obtain rfl := Option.some.inj H
          exact e49
        · replace H := oi H; obtain ⟨c28, H⟩ | ⟨c28, H⟩ := H
          · replace H := oi H; obtain ⟨c33, H⟩ | ⟨c33, H⟩ := H
            · replace H := ob H; obtain ⟨q38, c39, H⟩ := H
              have e40 := p_X12_name c39
              replace H := oi H; obtain ⟨c42, H⟩ | ⟨c42, H⟩ := H
              · replace H := ob H; obtain ⟨q43, c44, H⟩ := H
                have e45 := p_X12_next c44
                obtain rfl := Option.some.inj H
                exact (e40.tr e45)
              · obtain rfl := Option.some.inj H
                exact e40
            · replace H := ob H; obtain ⟨q34, c35, H⟩ := H
              have e36 := p_X12_fail c35
              obtain rfl := Option.some.inj H
              exact e36
          · replace H := ob H; obtain ⟨q29, c30, H⟩ := H
            have e31 := p_X12_fail c30
            obtain rfl := Option.some.inj H
            exact e31
      · replace H := oi H; obtain ⟨c8, H⟩ | ⟨c8, H⟩ := H
        · replace H := oi H; obtain ⟨c13, H⟩ | ⟨c13, H⟩ := H
          · replace H := ob H; obtain ⟨q18, c19, H⟩ := H
            have e20 := p_X12_name c19
            replace H := oi H; obtain ⟨c22, H⟩ | ⟨c22, H⟩ := H
            · replace H := ob H; obtain ⟨q23, c24, H⟩ := H
              have e25 := p_X12_next c24
              obtain rfl := Option.some.inj H
              exact (e20.tr e25)
            · obtain rfl := Option.some.inj H
              exact e20
          · replace H := ob H; obtain ⟨q14, c15, H⟩ := H
            have e16 := p_X12_fail c15
            obtain rfl := Option.some.inj H
            exact e16
        · replace H := ob H; obtain ⟨q9, c10, H⟩ := H
          have e11 := p_X12_fail c10
          obtain rfl := Option.some.inj H
          exact e11
set_option maxHeartbeats 4000000 in
set_option maxRecDepth 20000 in
theorem t_X12_one {G : GE} {rc : Nat → HS → Option (Int32 × HS)} {dd : Nat} (hrc : RCX12 G dd rc) (hpc : RPX12 rc) (hB : 2 ≤ dd)  {h : HS} {q : (Int32 × HS)} (hY : LY TM h) (H : g_X12_one rc h = some q) : CE G (dd + 1) yX12_one miX12_one [.ref 60] h (some (.int q.1)) (q.2) := by
  unfold g_X12_one at H
  refine ce_of rfl (by decide) (fun q => by first | rfl | cases q) (Nat.le_of_ble_eq_true rfl) rfl ?_
  refine e_iconst (v := (0 : Int32)) dX12_one_0 (by decide) ?_
  refine e_istore_n dX12_one_1 (Nat.le_of_ble_eq_true rfl) rfl rfl ?_
  refine g_aload_n dX12_one_2 rfl rfl ?_
  refine e_bipush (v := (45 : Int32)) dX12_one_3 (by decide) ?_
  replace H := ob H; obtain ⟨q1, c2, H⟩ := H
  refine v1 (hY.t 0 rfl) (by decide) rfl rfl lmX12_327 liX12_isSign lvX12_X12_isSign msX12_isSign dX12_one_5 (t_X12_isSign (dd - 0) hY c2) rfl (Nat.le_of_ble_eq_true rfl) (by omega) ?_
  refine e_ifB_eq (tgt := 37) dX12_one_8 (by decide) (fun c3 => ?_) (fun c3 => ?_)
  · replace H := of_ (nb c3) H
    refine g_aload_n dX12_one_37 rfl rfl ?_
    refine e_bipush (v := (40 : Int32)) dX12_one_38 (by decide) ?_
    replace H := ob H; obtain ⟨q4, c5, H⟩ := H
    refine v1 (hY.t 0 rfl) (by decide) rfl rfl lmX12_327 liX12_isSign lvX12_X12_isSign msX12_isSign dX12_one_40 (t_X12_isSign (dd - 0) hY c5) rfl (Nat.le_of_ble_eq_true rfl) (by omega) ?_
    refine e_ifB_eq (tgt := 95) dX12_one_43 (by decide) (fun c6 => ?_) (fun c6 => ?_)
    · replace H := of_ (nb c6) H
      refine g_aload_n dX12_one_95 rfl rfl ?_
      refine e_getI (hY.t 0 rfl) flX12_283_13 dX12_one_96 rfl ?_
      refine e_if_ne (tgt := 123) dX12_one_99 (by decide) (fun c7 => ?_) (fun c7 => ?_)
      · replace H := of_ c7 H
        refine g_aload_n dX12_one_123 rfl rfl ?_
        refine e_getI (hY.t 0 rfl) flX12_283_13 dX12_one_124 rfl ?_
        refine e_if_ne (tgt := 157) dX12_one_127 (by decide) (fun c8 => ?_) (fun c8 => ?_)
        · replace H := of_ c8 H
          refine g_aload_n dX12_one_157 rfl rfl ?_
          replace H := ob H; obtain ⟨q9, c10, H⟩ := H
          refine v0 (hY.t 0 rfl) (by decide) rfl rfl lmX12_293 liX12_fail lvX12_X12_fail msX12_fail dX12_one_158 (t_X12_fail (dd - 0) hY c10) rfl (Nat.le_of_ble_eq_true rfl) (by omega) ?_
          have e11 := p_X12_fail c10
          have hY12 := hY.pr okM e11
          refine e_iload_n dX12_one_161 rfl ?_
          obtain rfl := Option.some.inj H
          exact z_iret rfl rfl dX12_one_162 rfl rfl
        · replace H := ot c8 H
          refine g_aload_n dX12_one_130 rfl rfl ?_
          refine e_getI (hY.t 0 rfl) flX12_260_13 dX12_one_131 rfl ?_
          refine e_iconst (v := (1 : Int32)) dX12_one_134 (by decide) ?_
          refine e_icmp_ne (tgt := 157) dX12_one_135 (by decide) (fun c13 => ?_) (fun c13 => ?_)
          · replace H := of_ c13 H
            refine g_aload_n dX12_one_157 rfl rfl ?_
            replace H := ob H; obtain ⟨q14, c15, H⟩ := H
            refine v0 (hY.t 0 rfl) (by decide) rfl rfl lmX12_293 liX12_fail lvX12_X12_fail msX12_fail dX12_one_158 (t_X12_fail (dd - 0) hY c15) rfl (Nat.le_of_ble_eq_true rfl) (by omega) ?_
            have e16 := p_X12_fail c15
            have hY17 := hY.pr okM e16
            refine e_iload_n dX12_one_161 rfl ?_
            obtain rfl := Option.some.inj H
            exact z_iret rfl rfl dX12_one_162 rfl rfl
          · replace H := ot c13 H
            refine g_aload_n dX12_one_138 rfl rfl ?_
            replace H := ob H; obtain ⟨q18, c19, H⟩ := H
            refine v1 (hY.t 0 rfl) (by decide) rfl rfl lmX12_341 liX12_name lvX12_X12_name msX12_name dX12_one_139 (t_X12_name (dd - 1) hY c19) rfl (Nat.le_of_ble_eq_true rfl) (by omega) ?_
            have e20 := p_X12_name c19
            have hY21 := hY.pr okM e20
            refine e_istore_n dX12_one_142 (Nat.le_of_ble_eq_true rfl) rfl rfl ?_
            refine g_aload_n dX12_one_143 rfl rfl ?_
            refine e_getI (hY21.t 0 rfl) flX12_283_13 dX12_one_144 rfl ?_
            refine e_if_ne (tgt := 161) dX12_one_147 (by decide) (fun c22 => ?_) (fun c22 => ?_)
            · replace H := of_ c22 H
              refine e_iload_n dX12_one_161 rfl ?_
              obtain rfl := Option.some.inj H
              exact z_iret rfl rfl dX12_one_162 rfl rfl
            · replace H := ot c22 H
              refine g_aload_n dX12_one_150 rfl rfl ?_
              replace H := ob H; obtain ⟨q23, c24, H⟩ := H
              refine v0 (hY21.t 0 rfl) (by decide) rfl rfl lmX12_296 liX12_next lvX12_X12_next msX12_next dX12_one_151 (t_X12_next (dd - 1) hY21 c24) rfl (Nat.le_of_ble_eq_true rfl) (by omega) ?_
              have e25 := p_X12_next c24
              have hY26 := hY21.pr okM e25
              refine e_goto (tgt := 161) dX12_one_154 (by decide) ?_
              refine e_iload_n dX12_one_161 rfl ?_
              obtain rfl := Option.some.inj H
              exact z_iret rfl rfl dX12_one_162 rfl rfl
      · replace H := ot c7 H
        refine g_aload_n dX12_one_102 rfl rfl ?_
        refine e_getI (hY.t 0 rfl) flX12_260_13 dX12_one_103 rfl ?_
        refine e_iconst (v := (2 : Int32)) dX12_one_106 (by decide) ?_
        refine e_icmp_ne (tgt := 123) dX12_one_107 (by decide) (fun c27 => ?_) (fun c27 => ?_)
        · replace H := of_ c27 H
          refine g_aload_n dX12_one_123 rfl rfl ?_
          refine e_getI (hY.t 0 rfl) flX12_283_13 dX12_one_124 rfl ?_
          refine e_if_ne (tgt := 157) dX12_one_127 (by decide) (fun c28 => ?_) (fun c28 => ?_)
          · replace H := of_ c28 H
            refine g_aload_n dX12_one_157 rfl rfl ?_
            replace H := ob H; obtain ⟨q29, c30, H⟩ := H
            refine v0 (hY.t 0 rfl) (by decide) rfl rfl lmX12_293 liX12_fail lvX12_X12_fail msX12_fail dX12_one_158 (t_X12_fail (dd - 0) hY c30) rfl (Nat.le_of_ble_eq_true rfl) (by omega) ?_
            have e31 := p_X12_fail c30
            have hY32 := hY.pr okM e31
            refine e_iload_n dX12_one_161 rfl ?_
            obtain rfl := Option.some.inj H
            exact z_iret rfl rfl dX12_one_162 rfl rfl
          · replace H := ot c28 H
            refine g_aload_n dX12_one_130 rfl rfl ?_
            refine e_getI (hY.t 0 rfl) flX12_260_13 dX12_one_131 rfl ?_
            refine e_iconst (v := (1 : Int32)) dX12_one_134 (by decide) ?_
            refine e_icmp_ne (tgt := 157) dX12_one_135 (by decide) (fun c33 => ?_) (fun c33 => ?_)
            · replace H := of_ c33 H
              refine g_aload_n dX12_one_157 rfl rfl ?_
              replace H := ob H; obtain ⟨q34, c35, H⟩ := H
              refine v0 (hY.t 0 rfl) (by decide) rfl rfl lmX12_293 liX12_fail lvX12_X12_fail msX12_fail dX12_one_158 (t_X12_fail (dd - 0) hY c35) rfl (Nat.le_of_ble_eq_true rfl) (by omega) ?_
              have e36 := p_X12_fail c35
              have hY37 := hY.pr okM e36
              refine e_iload_n dX12_one_161 rfl ?_
              obtain rfl := Option.some.inj H
              exact z_iret rfl rfl dX12_one_162 rfl rfl
            · replace H := ot c33 H
              refine g_aload_n dX12_one_138 rfl rfl ?_
              replace H := ob H; obtain ⟨q38, c39, H⟩ := H
              refine v1 (hY.t 0 rfl) (by decide) rfl rfl lmX12_341 liX12_name lvX12_X12_name msX12_name dX12_one_139 (t_X12_name (dd - 1) hY c39) rfl (Nat.le_of_ble_eq_true rfl) (by omega) ?_
              have e40 := p_X12_name c39
              have hY41 := hY.pr okM e40
              refine e_istore_n dX12_one_142 (Nat.le_of_ble_eq_true rfl) rfl rfl ?_
              refine g_aload_n dX12_one_143 rfl rfl ?_
              refine e_getI (hY41.t 0 rfl) flX12_283_13 dX12_one_144 rfl ?_
              refine e_if_ne (tgt := 161) dX12_one_147 (by decide) (fun c42 => ?_) (fun c42 => ?_)
              · replace H := of_ c42 H
                refine e_iload_n dX12_one_161 rfl ?_
                obtain rfl := Option.some.inj H
                exact z_iret rfl rfl dX12_one_162 rfl rfl
              · replace H := ot c42 H
                refine g_aload_n dX12_one_150 rfl rfl ?_
                replace H := ob H; obtain ⟨q43, c44, H⟩ := H
                refine v0 (hY41.t 0 rfl) (by decide) rfl rfl lmX12_296 liX12_next lvX12_X12_next msX12_next dX12_one_151 (t_X12_next (dd - 1) hY41 c44) rfl (Nat.le_of_ble_eq_true rfl) (by omega) ?_
                have e45 := p_X12_next c44
                have hY46 := hY41.pr okM e45
                refine e_goto (tgt := 161) dX12_one_154 (by decide) ?_
                refine e_iload_n dX12_one_161 rfl ?_
                obtain rfl := Option.some.inj H
                exact z_iret rfl rfl dX12_one_162 rfl rfl
        · replace H := ot c27 H
          refine g_aload_n dX12_one_110 rfl rfl ?_
          refine e_getL (hY.t 0 rfl) flX12_267_13 dX12_one_111 rfl ?_
          refine e_l2i dX12_one_114 ?_
          refine e_istore_n dX12_one_115 (Nat.le_of_ble_eq_true rfl) rfl rfl ?_
          refine g_aload_n dX12_one_116 rfl rfl ?_
          replace H := ob H; obtain ⟨q47, c48, H⟩ := H
          refine v0 (hY.t 0 rfl) (by decide) rfl rfl lmX12_296 liX12_next lvX12_X12_next msX12_next dX12_one_117 (t_X12_next (dd - 1) hY c48) rfl (Nat.le_of_ble_eq_true rfl) (by omega) ?_
          have e49 := p_X12_next c48
          have hY50 := hY.pr okM e49
          refine e_goto (tgt := 161) dX12_one_120 (by decide) ?_
          refine e_iload_n dX12_one_161 rfl ?_
          obtain rfl := Option.some.inj H
          exact z_iret rfl rfl dX12_one_162 rfl rfl
    · replace H := ot c6 H
      refine g_aload_n dX12_one_46 rfl rfl ?_
      replace H := ob H; obtain ⟨q51, c52, H⟩ := H
      refine v1 (hY.t 0 rfl) (by decide) rfl rfl lmX12_330 liX12_opens lvX12_X12_opens msX12_opens dX12_one_47 (t_X12_opens (dd - 2) hY c52) rfl (Nat.le_of_ble_eq_true rfl) (by omega) ?_
      have e53 := p_X12_opens c52
      have hY54 := hY.pr okM e53
      refine e_ifB_eq (tgt := 161) dX12_one_50 (by decide) (fun c55 => ?_) (fun c55 => ?_)
      · replace H := of_ (nb c55) H
        refine e_iload_n dX12_one_161 rfl ?_
        obtain rfl := Option.some.inj H
        exact z_iret rfl rfl dX12_one_162 rfl rfl
      · replace H := ot c55 H
        refine g_aload_n dX12_one_53 rfl rfl ?_
        replace H := ob H; obtain ⟨q56, c57, H⟩ := H
        refine v1 (hY54.t 0 rfl) (by decide) rfl rfl lmX12_338 liX12_either lvX12_X12_either msX12_either dX12_one_54 (hrc.X12_either hY54 c57) rfl (Nat.le_of_ble_eq_true rfl) (Nat.le_refl _) ?_
        have e58 := hpc c57
        have hY59 := hY54.pr okM e58
        refine e_istore_n dX12_one_57 (Nat.le_of_ble_eq_true rfl) rfl rfl ?_
        refine g_aload_n dX12_one_58 rfl rfl ?_
        refine e_bipush (v := (41 : Int32)) dX12_one_59 (by decide) ?_
        replace H := ob H; obtain ⟨q60, c61, H⟩ := H
        refine v1 (hY59.t 0 rfl) (by decide) rfl rfl lmX12_327 liX12_isSign lvX12_X12_isSign msX12_isSign dX12_one_61 (t_X12_isSign (dd - 0) hY59 c61) rfl (Nat.le_of_ble_eq_true rfl) (by omega) ?_
        replace H := ob H; obtain ⟨q63, c69, H⟩ := H
        have e70 : Pr q56.2 q63 := by
          replace H := c69
          replace H := oi H; obtain ⟨c62, H⟩ | ⟨c62, H⟩ := H
          · obtain rfl := Option.some.inj H
            exact Pr.rf
          · replace H := ob H; obtain ⟨q65, c66, H⟩ := H
            have e67 := p_X12_fail c66
            obtain rfl := Option.some.inj H
            exact e67
        have hY71 := hY59.pr okM e70
        have k64 : En G (dd + 1) miX12_one 71 [.ref 60, .int q56.1] [] q63 (some (.int q.1)) (q.2) := by
          refine g_aload_n dX12_one_71 rfl rfl ?_
          refine e_dup dX12_one_72 rfl ?_
          refine e_getI (hY71.t 0 rfl) flX12_290_13 dX12_one_73 rfl ?_
          refine e_iconst (v := (1 : Int32)) dX12_one_76 (by decide) ?_
          refine e_isub dX12_one_77 ?_
          refine e_putI (hY71.t 0 rfl) fpX12_290_13 rfl dX12_one_78 ?_
          refine g_aload_n dX12_one_81 rfl rfl ?_
          refine e_getI ((hY71.sI).t 0 rfl) flX12_283_13 dX12_one_82 rfl ?_
          refine e_if_ne (tgt := 161) dX12_one_85 (by decide) (fun c72 => ?_) (fun c72 => ?_)
          · replace H := of_ c72 H
            refine e_iload_n dX12_one_161 rfl ?_
            obtain rfl := Option.some.inj H
            exact z_iret rfl rfl dX12_one_162 rfl rfl
          · replace H := ot c72 H
            refine g_aload_n dX12_one_88 rfl rfl ?_
            replace H := ob H; obtain ⟨q73, c74, H⟩ := H
            refine v0 ((hY71.sI).t 0 rfl) (by decide) rfl rfl lmX12_296 liX12_next lvX12_X12_next msX12_next dX12_one_89 (t_X12_next (dd - 1) (hY71.sI) c74) rfl (Nat.le_of_ble_eq_true rfl) (by omega) ?_
            have e75 := p_X12_next c74
            have hY76 := (hY71.sI).pr okM e75
            refine e_goto (tgt := 161) dX12_one_92 (by decide) ?_
            refine e_iload_n dX12_one_161 rfl ?_
            obtain rfl := Option.some.inj H
            exact z_iret rfl rfl dX12_one_162 rfl rfl
        replace H := c69
        refine e_ifB_ne (tgt := 71) dX12_one_64 (by decide) (fun c62 => ?_) (fun c62 => ?_)
        · replace H := ot c62 H
          obtain rfl := Option.some.inj H
          exact e_wk (lk1 (lk1 lkn)) k64
        · replace H := of_ (nb c62) H
          refine g_aload_n dX12_one_67 rfl rfl ?_
          replace H := ob H; obtain ⟨q65, c66, H⟩ := H
          refine v0 (hY59.t 0 rfl) (by decide) rfl rfl lmX12_293 liX12_fail lvX12_X12_fail msX12_fail dX12_one_68 (t_X12_fail (dd - 0) hY59 c66) rfl (Nat.le_of_ble_eq_true rfl) (by omega) ?_
          have e67 := p_X12_fail c66
          have hY68 := hY59.pr okM e67
          obtain rfl := Option.some.inj H
          exact e_wk (lk1 (lk1 lkn)) k64
  · replace H := ot c3 H
    refine g_aload_n dX12_one_11 rfl rfl ?_
    replace H := ob H; obtain ⟨q77, c78, H⟩ := H
    refine v1 (hY.t 0 rfl) (by decide) rfl rfl lmX12_330 liX12_opens lvX12_X12_opens msX12_opens dX12_one_12 (t_X12_opens (dd - 2) hY c78) rfl (Nat.le_of_ble_eq_true rfl) (by omega) ?_
    have e79 := p_X12_opens c78
    have hY80 := hY.pr okM e79
    refine e_ifB_eq (tgt := 161) dX12_one_15 (by decide) (fun c81 => ?_) (fun c81 => ?_)
    · replace H := of_ (nb c81) H
      refine e_iload_n dX12_one_161 rfl ?_
      obtain rfl := Option.some.inj H
      exact z_iret rfl rfl dX12_one_162 rfl rfl
    · replace H := ot c81 H
      refine g_aload_n dX12_one_18 rfl rfl ?_
      replace H := ob H; obtain ⟨q82, c83, H⟩ := H
      refine v1 (hY80.t 0 rfl) (by decide) rfl rfl lmX12_334 liX12_one lvX12_X12_one msX12_one dX12_one_19 (hrc.X12_one hY80 c83) rfl (Nat.le_of_ble_eq_true rfl) (Nat.le_refl _) ?_
      have e84 := hpc c83
      have hY85 := hY80.pr okM e84
      refine e_ineg dX12_one_22 ?_
      refine e_istore_n dX12_one_23 (Nat.le_of_ble_eq_true rfl) rfl rfl ?_
      refine g_aload_n dX12_one_24 rfl rfl ?_
      refine e_dup dX12_one_25 rfl ?_
      refine e_getI (hY85.t 0 rfl) flX12_290_13 dX12_one_26 rfl ?_
      refine e_iconst (v := (1 : Int32)) dX12_one_29 (by decide) ?_
      refine e_isub dX12_one_30 ?_
      refine e_putI (hY85.t 0 rfl) fpX12_290_13 rfl dX12_one_31 ?_
      refine e_goto (tgt := 161) dX12_one_34 (by decide) ?_
      refine e_iload_n dX12_one_161 rfl ?_
      obtain rfl := Option.some.inj H
      exact z_iret rfl rfl dX12_one_162 rfl rfl
-- X12rec
def r_X12 : Nat → Nat → HS → Option (Int32 × HS)
  | 0, _, _ => none
  | n + 1, m, h => if m = 0 then g_X12_either (r_X12 n) h else if m = 1 then g_X12_both (r_X12 n) h else if m = 2 then g_X12_not (r_X12 n) h else if m = 3 then g_X12_added (r_X12 n) h else if m = 4 then g_X12_term (r_X12 n) h else if m = 5 then g_X12_one (r_X12 n) h else none
theorem p_rX12 : ∀ n, RPX12 (r_X12 n) := by
  intro n
  induction n with
  | zero => intro m h q H; exact nz H
  | succ n ih =>
    intro m h q H
    unfold r_X12 at H
    replace H := oi H; obtain ⟨-, H⟩ | ⟨-, H⟩ := H
    · exact p_X12_either ih H
    replace H := oi H; obtain ⟨-, H⟩ | ⟨-, H⟩ := H
    · exact p_X12_both ih H
    replace H := oi H; obtain ⟨-, H⟩ | ⟨-, H⟩ := H
    · exact p_X12_not ih H
    replace H := oi H; obtain ⟨-, H⟩ | ⟨-, H⟩ := H
    · exact p_X12_added ih H
    replace H := oi H; obtain ⟨-, H⟩ | ⟨-, H⟩ := H
    · exact p_X12_term ih H
    replace H := oi H; obtain ⟨-, H⟩ | ⟨-, H⟩ := H
    · exact p_X12_one ih H
    exact nz H
theorem t_rX12 {G : GE} (d : Nat) : ∀ n, RCX12 G (d + (2 + n)) (r_X12 n) := by
  intro n
  induction n with
  | zero => intro h q hY; exact ⟨fun c => nz c, fun c => nz c, fun c => nz c, fun c => nz c, fun c => nz c, fun c => nz c⟩
  | succ n ih => intro h q hY; exact ⟨fun c => t_X12_either ih (p_rX12 n) (by omega) hY c, fun c => t_X12_both ih (p_rX12 n) (by omega) hY c, fun c => t_X12_not ih (p_rX12 n) (by omega) hY c, fun c => t_X12_added ih (p_rX12 n) (by omega) hY c, fun c => t_X12_term ih (p_rX12 n) (by omega) hY c, fun c => t_X12_one ih (p_rX12 n) (by omega) hY c⟩
theorem p_E_X12_either {h : HS} {q : Int32 × HS} (H : r_X12 60 0 h = some q) : Pr h q.2 := p_rX12 60 H
theorem t_E_X12_either {G : GE} (d : Nat) {h : HS} {q : Int32 × HS} (hY : LY TM h) (H : r_X12 60 0 h = some q) : CE G (d + 62) yX12_either miX12_either [.ref 60] h (some (.int q.1)) q.2 := RCX12.X12_either (t_rX12 d 60) hY H
theorem p_E_X12_both {h : HS} {q : Int32 × HS} (H : r_X12 60 1 h = some q) : Pr h q.2 := p_rX12 60 H
theorem t_E_X12_both {G : GE} (d : Nat) {h : HS} {q : Int32 × HS} (hY : LY TM h) (H : r_X12 60 1 h = some q) : CE G (d + 62) yX12_both miX12_both [.ref 60] h (some (.int q.1)) q.2 := RCX12.X12_both (t_rX12 d 60) hY H
theorem p_E_X12_not {h : HS} {q : Int32 × HS} (H : r_X12 60 2 h = some q) : Pr h q.2 := p_rX12 60 H
theorem t_E_X12_not {G : GE} (d : Nat) {h : HS} {q : Int32 × HS} (hY : LY TM h) (H : r_X12 60 2 h = some q) : CE G (d + 62) yX12_not miX12_not [.ref 60] h (some (.int q.1)) q.2 := RCX12.X12_not (t_rX12 d 60) hY H
theorem p_E_X12_added {h : HS} {q : Int32 × HS} (H : r_X12 60 3 h = some q) : Pr h q.2 := p_rX12 60 H
theorem t_E_X12_added {G : GE} (d : Nat) {h : HS} {q : Int32 × HS} (hY : LY TM h) (H : r_X12 60 3 h = some q) : CE G (d + 62) yX12_added miX12_added [.ref 60] h (some (.int q.1)) q.2 := RCX12.X12_added (t_rX12 d 60) hY H
theorem p_E_X12_term {h : HS} {q : Int32 × HS} (H : r_X12 60 4 h = some q) : Pr h q.2 := p_rX12 60 H
theorem t_E_X12_term {G : GE} (d : Nat) {h : HS} {q : Int32 × HS} (hY : LY TM h) (H : r_X12 60 4 h = some q) : CE G (d + 62) yX12_term miX12_term [.ref 60] h (some (.int q.1)) q.2 := RCX12.X12_term (t_rX12 d 60) hY H
theorem p_E_X12_one {h : HS} {q : Int32 × HS} (H : r_X12 60 5 h = some q) : Pr h q.2 := p_rX12 60 H
theorem t_E_X12_one {G : GE} (d : Nat) {h : HS} {q : Int32 × HS} (hY : LY TM h) (H : r_X12 60 5 h = some q) : CE G (d + 62) yX12_one miX12_one [.ref 60] h (some (.int q.1)) q.2 := RCX12.X12_one (t_rX12 d 60) hY H
-- X12_part
def f_X12_part (p1 : Int64) (h : HS) : Option (Int32 × HS) := (Option.bind (f_X12_isWord p1 h) (fun q1 => (Option.bind (if q1 = true then (some h) else (Option.bind (f_X12_fail h) (fun q6 => (some q6)))) (fun q4 => (Option.bind (if (hI q4 60 33) = 0 then (Option.bind (f_X12_next q4) (fun q16 => (some q16))) else (some q4)) (fun q14 => (Option.bind (if (hI q14 60 33) = 0 then (Option.bind (r_X12 60 0 q14) (fun q26 => (some (q26.1, q26.2)))) else (some ((0 : Int32), q14))) (fun q24 => (Option.bind (f_X12_isSign (59 : Int32) q24.2) (fun q33 => (Option.bind (if q33 = true then (some q24.2) else (Option.bind (f_X12_fail q24.2) (fun q38 => (some q38)))) (fun q36 => (if (hI q36 60 33) = 0 then (Option.bind (f_X12_next q36) (fun q46 => (some (q24.1, q46)))) else (some (q24.1, q36)))))))))))))))
set_option maxHeartbeats 4000000 in
set_option maxRecDepth 20000 in
theorem p_X12_part {p1 : Int64} {h : HS} {q : (Int32 × HS)} (H : f_X12_part p1 h = some q) : Pr h q.2 := by
  unfold f_X12_part at H
  replace H := ob H; obtain ⟨q1, c2, H⟩ := H
  replace H := ob H; obtain ⟨q4, c10, H⟩ := H
  have e11 : Pr h q4 := by
    replace H := c10
    replace H := oi H; obtain ⟨c3, H⟩ | ⟨c3, H⟩ := H
    · obtain rfl := Option.some.inj H
      exact Pr.rf
    · replace H := ob H; obtain ⟨q6, c7, H⟩ := H
      have e8 := p_X12_fail c7
      obtain rfl := Option.some.inj H
      exact e8
  replace H := ob H; obtain ⟨q14, c20, H⟩ := H
  have e21 : Pr q4 q14 := by
    replace H := c20
    replace H := oi H; obtain ⟨c13, H⟩ | ⟨c13, H⟩ := H
    · replace H := ob H; obtain ⟨q16, c17, H⟩ := H
      have e18 := p_X12_next c17
      obtain rfl := Option.some.inj H
      exact e18
    · obtain rfl := Option.some.inj H
      exact Pr.rf
  replace H := ob H; obtain ⟨q24, c30, H⟩ := H
  have e31 : Pr q14 q24.2 := by
    replace H := c30
    replace H := oi H; obtain ⟨c23, H⟩ | ⟨c23, H⟩ := H
    · replace H := ob H; obtain ⟨q26, c27, H⟩ := H
      have e28 := p_E_X12_either c27
      obtain rfl := Option.some.inj H
      exact e28
    · obtain rfl := Option.some.inj H
      exact Pr.rf
  replace H := ob H; obtain ⟨q33, c34, H⟩ := H
  replace H := ob H; obtain ⟨q36, c42, H⟩ := H
  have e43 : Pr q24.2 q36 := by
    replace H := c42
    replace H := oi H; obtain ⟨c35, H⟩ | ⟨c35, H⟩ := H
    · obtain rfl := Option.some.inj H
      exact Pr.rf
    · replace H := ob H; obtain ⟨q38, c39, H⟩ := H
      have e40 := p_X12_fail c39
      obtain rfl := Option.some.inj H
      exact e40
  replace H := oi H; obtain ⟨c45, H⟩ | ⟨c45, H⟩ := H
  · replace H := ob H; obtain ⟨q46, c47, H⟩ := H
    have e48 := p_X12_next c47
    obtain rfl := Option.some.inj H
    exact ((((e11.tr e21).tr e31).tr e43).tr e48)
  · obtain rfl := Option.some.inj H
    exact (((e11.tr e21).tr e31).tr e43)
set_option maxHeartbeats 4000000 in
set_option maxRecDepth 20000 in
theorem t_X12_part {G : GE} (d : Nat) {p1 : Int64} {h : HS} {q : (Int32 × HS)} (hY : LY TM h) (H : f_X12_part p1 h = some q) : CE G (d + 63) yX12_part miX12_part [.ref 60, .long p1] h (some (.int q.1)) (q.2) := by
  unfold f_X12_part at H
  refine ce_of rfl (by decide) (fun q => by first | rfl | cases q) (Nat.le_of_ble_eq_true rfl) rfl ?_
  refine g_aload_n dX12_part_0 rfl rfl ?_
  refine e_lload_n dX12_part_1 rfl ?_
  replace H := ob H; obtain ⟨q1, c2, H⟩ := H
  refine v1 (hY.t 0 rfl) (by decide) rfl rfl lmX12_301 liX12_isWord lvX12_X12_isWord msX12_isWord dX12_part_2 (t_X12_isWord (d + 62) hY c2) rfl (Nat.le_of_ble_eq_true rfl) (Nat.le_refl _) ?_
  replace H := ob H; obtain ⟨q4, c10, H⟩ := H
  have e11 : Pr h q4 := by
    replace H := c10
    replace H := oi H; obtain ⟨c3, H⟩ | ⟨c3, H⟩ := H
    · obtain rfl := Option.some.inj H
      exact Pr.rf
    · replace H := ob H; obtain ⟨q6, c7, H⟩ := H
      have e8 := p_X12_fail c7
      obtain rfl := Option.some.inj H
      exact e8
  have hY12 := hY.pr okM e11
  have k5 : En G (d + 63) miX12_part 12 [.ref 60, dum, dum, dum] [] q4 (some (.int q.1)) (q.2) := by
    refine g_aload_n dX12_part_12 rfl rfl ?_
    refine e_getI (hY12.t 0 rfl) flX12_283_13 dX12_part_13 rfl ?_
    replace H := ob H; obtain ⟨q14, c20, H⟩ := H
    have e21 : Pr q4 q14 := by
      replace H := c20
      replace H := oi H; obtain ⟨c13, H⟩ | ⟨c13, H⟩ := H
      · replace H := ob H; obtain ⟨q16, c17, H⟩ := H
        have e18 := p_X12_next c17
        obtain rfl := Option.some.inj H
        exact e18
      · obtain rfl := Option.some.inj H
        exact Pr.rf
    have hY22 := hY12.pr okM e21
    have k15 : En G (d + 63) miX12_part 23 [.ref 60, dum, dum, dum] [] q14 (some (.int q.1)) (q.2) := by
      refine g_aload_n dX12_part_23 rfl rfl ?_
      refine e_getI (hY22.t 0 rfl) flX12_283_13 dX12_part_24 rfl ?_
      replace H := ob H; obtain ⟨q24, c30, H⟩ := H
      have e31 : Pr q14 q24.2 := by
        replace H := c30
        replace H := oi H; obtain ⟨c23, H⟩ | ⟨c23, H⟩ := H
        · replace H := ob H; obtain ⟨q26, c27, H⟩ := H
          have e28 := p_E_X12_either c27
          obtain rfl := Option.some.inj H
          exact e28
        · obtain rfl := Option.some.inj H
          exact Pr.rf
      have hY32 := hY22.pr okM e31
      have k25 : En G (d + 63) miX12_part 38 [.ref 60, dum, dum, dum] [.int q24.1] q24.2 (some (.int q.1)) (q.2) := by
        refine e_istore_n dX12_part_38 (Nat.le_of_ble_eq_true rfl) rfl rfl ?_
        refine g_aload_n dX12_part_39 rfl rfl ?_
        refine e_bipush (v := (59 : Int32)) dX12_part_40 (by decide) ?_
        replace H := ob H; obtain ⟨q33, c34, H⟩ := H
        refine v1 (hY32.t 0 rfl) (by decide) rfl rfl lmX12_327 liX12_isSign lvX12_X12_isSign msX12_isSign dX12_part_42 (t_X12_isSign (d + 62) hY32 c34) rfl (Nat.le_of_ble_eq_true rfl) (Nat.le_refl _) ?_
        replace H := ob H; obtain ⟨q36, c42, H⟩ := H
        have e43 : Pr q24.2 q36 := by
          replace H := c42
          replace H := oi H; obtain ⟨c35, H⟩ | ⟨c35, H⟩ := H
          · obtain rfl := Option.some.inj H
            exact Pr.rf
          · replace H := ob H; obtain ⟨q38, c39, H⟩ := H
            have e40 := p_X12_fail c39
            obtain rfl := Option.some.inj H
            exact e40
        have hY44 := hY32.pr okM e43
        have k37 : En G (d + 63) miX12_part 52 [.ref 60, dum, dum, .int q24.1] [] q36 (some (.int q.1)) (q.2) := by
          refine g_aload_n dX12_part_52 rfl rfl ?_
          refine e_getI (hY44.t 0 rfl) flX12_283_13 dX12_part_53 rfl ?_
          refine e_if_ne (tgt := 63) dX12_part_56 (by decide) (fun c45 => ?_) (fun c45 => ?_)
          · replace H := of_ c45 H
            refine e_iload_n dX12_part_63 rfl ?_
            obtain rfl := Option.some.inj H
            exact z_iret rfl rfl dX12_part_64 rfl rfl
          · replace H := ot c45 H
            refine g_aload_n dX12_part_59 rfl rfl ?_
            replace H := ob H; obtain ⟨q46, c47, H⟩ := H
            refine v0 (hY44.t 0 rfl) (by decide) rfl rfl lmX12_296 liX12_next lvX12_X12_next msX12_next dX12_part_60 (t_X12_next (d + 61) hY44 c47) rfl (Nat.le_of_ble_eq_true rfl) (Nat.le_refl _) ?_
            have e48 := p_X12_next c47
            have hY49 := hY44.pr okM e48
            refine e_iload_n dX12_part_63 rfl ?_
            obtain rfl := Option.some.inj H
            exact z_iret rfl rfl dX12_part_64 rfl rfl
        replace H := c42
        refine e_ifB_ne (tgt := 52) dX12_part_45 (by decide) (fun c35 => ?_) (fun c35 => ?_)
        · replace H := ot c35 H
          obtain rfl := Option.some.inj H
          exact e_wk (lk1 (lk1 (lk1 (lk1 lkn)))) k37
        · replace H := of_ (nb c35) H
          refine g_aload_n dX12_part_48 rfl rfl ?_
          replace H := ob H; obtain ⟨q38, c39, H⟩ := H
          refine v0 (hY32.t 0 rfl) (by decide) rfl rfl lmX12_293 liX12_fail lvX12_X12_fail msX12_fail dX12_part_49 (t_X12_fail (d + 62) hY32 c39) rfl (Nat.le_of_ble_eq_true rfl) (Nat.le_refl _) ?_
          have e40 := p_X12_fail c39
          have hY41 := hY32.pr okM e40
          obtain rfl := Option.some.inj H
          exact e_wk (lk1 (lk1 (lk1 (lk1 lkn)))) k37
      replace H := c30
      refine e_if_eq (tgt := 34) dX12_part_27 (by decide) (fun c23 => ?_) (fun c23 => ?_)
      · replace H := ot c23 H
        refine g_aload_n dX12_part_34 rfl rfl ?_
        replace H := ob H; obtain ⟨q26, c27, H⟩ := H
        refine v1 (hY22.t 0 rfl) (by decide) rfl rfl lmX12_338 liX12_either lvX12_X12_either msX12_either dX12_part_35 (t_E_X12_either (d + 0) hY22 c27) rfl (Nat.le_of_ble_eq_true rfl) (Nat.le_refl _) ?_
        have e28 := p_E_X12_either c27
        have hY29 := hY22.pr okM e28
        obtain rfl := Option.some.inj H
        exact e_wk (lk1 (lk1 (lk1 (lk1 lkn)))) k25
      · replace H := of_ c23 H
        refine e_iconst (v := (0 : Int32)) dX12_part_30 (by decide) ?_
        refine e_goto (tgt := 38) dX12_part_31 (by decide) ?_
        obtain rfl := Option.some.inj H
        exact e_wk (lk1 (lk1 (lk1 (lk1 lkn)))) k25
    replace H := c20
    refine e_if_ne (tgt := 23) dX12_part_16 (by decide) (fun c13 => ?_) (fun c13 => ?_)
    · replace H := of_ c13 H
      obtain rfl := Option.some.inj H
      exact e_wk (lk1 (lk1 (lk1 (lk1 lkn)))) k15
    · replace H := ot c13 H
      refine g_aload_n dX12_part_19 rfl rfl ?_
      replace H := ob H; obtain ⟨q16, c17, H⟩ := H
      refine v0 (hY12.t 0 rfl) (by decide) rfl rfl lmX12_296 liX12_next lvX12_X12_next msX12_next dX12_part_20 (t_X12_next (d + 61) hY12 c17) rfl (Nat.le_of_ble_eq_true rfl) (Nat.le_refl _) ?_
      have e18 := p_X12_next c17
      have hY19 := hY12.pr okM e18
      obtain rfl := Option.some.inj H
      exact e_wk (lk1 (lk1 (lk1 (lk1 lkn)))) k15
  replace H := c10
  refine e_ifB_ne (tgt := 12) dX12_part_5 (by decide) (fun c3 => ?_) (fun c3 => ?_)
  · replace H := ot c3 H
    obtain rfl := Option.some.inj H
    exact e_wk (lk1 (lk0 (lk1 (lk1 lkn)))) k5
  · replace H := of_ (nb c3) H
    refine g_aload_n dX12_part_8 rfl rfl ?_
    replace H := ob H; obtain ⟨q6, c7, H⟩ := H
    refine v0 (hY.t 0 rfl) (by decide) rfl rfl lmX12_293 liX12_fail lvX12_X12_fail msX12_fail dX12_part_9 (t_X12_fail (d + 62) hY c7) rfl (Nat.le_of_ble_eq_true rfl) (Nat.le_refl _) ?_
    have e8 := p_X12_fail c7
    have hY9 := hY.pr okM e8
    obtain rfl := Option.some.inj H
    exact e_wk (lk1 (lk0 (lk1 (lk1 lkn)))) k5
-- X12_read
def f_X12_read (p1 : Int32) (p2 : Int32) (p3 : Int32) (p4 : Int32) (p5 : Int32) (p6 : Int32) (h : HS) : Option (Int32 × HS) := (if ixb p1 6 = true then (bh (sI (sI (sI (sI (sI (sI h 60 35 p2) 60 36 p3) 60 37 p4) 60 38 p5) 60 26 ((160 : Int32) * p1)) 60 27 (hI (sI (sI (sI (sI (sI h 60 35 p2) 60 36 p3) 60 37 p4) 60 38 p5) 60 26 ((160 : Int32) * p1)) 62 p1.toNatClampNeg)) (fun h2 => (Option.bind (f_X12_next (sI (sI (sI h2 60 31 (0 : Int32)) 60 32 (0 : Int32)) 60 33 (0 : Int32))) (fun q5 => (Option.bind (f_X12_part (323728 : Int64) q5) (fun q9 => (Option.bind (if (hI q9.2 60 33) = 0 then (Option.bind (f_X12_part (10320789 : Int64) q9.2) (fun q16 => (some (q16.1, q16.2)))) else (some ((0 : Int32), q9.2))) (fun q14 => (Option.bind (if (hI q14.2 60 33) = 0 then (Option.bind (f_X12_part (6477035 : Int64) q14.2) (fun q26 => (some (q26.1, q26.2)))) else (some ((0 : Int32), q14.2))) (fun q24 => (Option.bind (if (hI q24.2 60 33) = 0 then (if (hI q24.2 60 28) = 0 then (some q24.2) else (Option.bind (f_X12_fail q24.2) (fun q37 => (some q37)))) else (some q24.2)) (fun q34 => (if p6 = 0 then (some (q9.1, q34)) else (if p6 = (1 : Int32) then (some (q14.1, q34)) else (some (q24.1, q34)))))))))))))))) else none)
set_option maxHeartbeats 4000000 in
set_option maxRecDepth 20000 in
theorem p_X12_read {p1 : Int32} {p2 : Int32} {p3 : Int32} {p4 : Int32} {p5 : Int32} {p6 : Int32} {h : HS} {q : (Int32 × HS)} (H : f_X12_read p1 p2 p3 p4 p5 p6 h = some q) : Pr h q.2 := by
  unfold f_X12_read at H
  replace H := og H; obtain ⟨g1, H⟩ := H
  replace H := obh H; obtain ⟨h2, e3, H⟩ := H
  replace H := ob H; obtain ⟨q5, c6, H⟩ := H
  have e7 := p_X12_next c6
  replace H := ob H; obtain ⟨q9, c10, H⟩ := H
  have e11 := p_X12_part c10
  replace H := ob H; obtain ⟨q14, c20, H⟩ := H
  have e21 : Pr q9.2 q14.2 := by
    replace H := c20
    replace H := oi H; obtain ⟨c13, H⟩ | ⟨c13, H⟩ := H
    · replace H := ob H; obtain ⟨q16, c17, H⟩ := H
      have e18 := p_X12_part c17
      obtain rfl := Option.some.inj H
      exact e18
    · obtain rfl := Option.some.inj H
      exact Pr.rf
  replace H := ob H; obtain ⟨q24, c30, H⟩ := H
  have e31 : Pr q14.2 q24.2 := by
    replace H := c30
    replace H := oi H; obtain ⟨c23, H⟩ | ⟨c23, H⟩ := H
    · replace H := ob H; obtain ⟨q26, c27, H⟩ := H
      have e28 := p_X12_part c27
      obtain rfl := Option.some.inj H
      exact e28
    · obtain rfl := Option.some.inj H
      exact Pr.rf
  replace H := ob H; obtain ⟨q34, c41, H⟩ := H
  have e42 : Pr q24.2 q34 := by
    replace H := c41
    replace H := oi H; obtain ⟨c33, H⟩ | ⟨c33, H⟩ := H
    · replace H := oi H; obtain ⟨c36, H⟩ | ⟨c36, H⟩ := H
      · obtain rfl := Option.some.inj H
        exact Pr.rf
      · replace H := ob H; obtain ⟨q37, c38, H⟩ := H
        have e39 := p_X12_fail c38
        obtain rfl := Option.some.inj H
        exact e39
    · obtain rfl := Option.some.inj H
      exact Pr.rf
  replace H := oi H; obtain ⟨c44, H⟩ | ⟨c44, H⟩ := H
  · obtain rfl := Option.some.inj H
    exact (((((((((kP e3 ((((((Pr.rf.sI).sI).sI).sI).sI).sI)).sI).sI).sI).tr e7).tr e11).tr e21).tr e31).tr e42)
  · replace H := oi H; obtain ⟨c45, H⟩ | ⟨c45, H⟩ := H
    · obtain rfl := Option.some.inj H
      exact (((((((((kP e3 ((((((Pr.rf.sI).sI).sI).sI).sI).sI)).sI).sI).sI).tr e7).tr e11).tr e21).tr e31).tr e42)
    · obtain rfl := Option.some.inj H
      exact (((((((((kP e3 ((((((Pr.rf.sI).sI).sI).sI).sI).sI)).sI).sI).sI).tr e7).tr e11).tr e21).tr e31).tr e42)
set_option maxHeartbeats 4000000 in
set_option maxRecDepth 20000 in
theorem t_X12_read {G : GE} (d : Nat) {p1 : Int32} {p2 : Int32} {p3 : Int32} {p4 : Int32} {p5 : Int32} {p6 : Int32} {h : HS} {q : (Int32 × HS)} (hY : LY TM h) (H : f_X12_read p1 p2 p3 p4 p5 p6 h = some q) : CE G (d + 64) yX12_read miX12_read [.ref 60, .int p1, .int p2, .int p3, .int p4, .int p5, .int p6] h (some (.int q.1)) (q.2) := by
  unfold f_X12_read at H
  refine ce_of rfl (by decide) (fun q => by first | rfl | cases q) (Nat.le_of_ble_eq_true rfl) rfl ?_
  refine g_aload_n dX12_read_0 rfl rfl ?_
  refine e_iload_n dX12_read_1 rfl ?_
  refine e_putI (hY.t 0 rfl) fpX12_310_13 rfl dX12_read_2 ?_
  refine g_aload_n dX12_read_5 rfl rfl ?_
  refine e_iload_n dX12_read_6 rfl ?_
  refine e_putI ((hY.sI).t 0 rfl) fpX12_305_13 rfl dX12_read_7 ?_
  refine g_aload_n dX12_read_10 rfl rfl ?_
  refine e_iload dX12_read_11 rfl ?_
  refine e_putI (((hY.sI).sI).t 0 rfl) fpX12_319_13 rfl dX12_read_13 ?_
  refine g_aload_n dX12_read_16 rfl rfl ?_
  refine e_iload dX12_read_17 rfl ?_
  refine e_putI ((((hY.sI).sI).sI).t 0 rfl) fpX12_324_13 rfl dX12_read_19 ?_
  refine g_aload_n dX12_read_22 rfl rfl ?_
  refine e_sipush (v := (160 : Int32)) dX12_read_23 (by decide) ?_
  refine e_iload_n dX12_read_26 rfl ?_
  refine e_imul dX12_read_27 ?_
  refine e_putI (((((hY.sI).sI).sI).sI).t 0 rfl) fpX12_248_13 rfl dX12_read_28 ?_
  refine g_aload_n dX12_read_31 rfl rfl ?_
  refine g_aload_n dX12_read_32 rfl rfl ?_
  refine e_getR ((((((hY.sI).sI).sI).sI).sI).t 0 rfl) flX12_17_13 dX12_read_33 rfl ((((((hY.sI).sI).sI).sI).sI).r 1 rfl) ?_
  refine e_iload_n dX12_read_36 rfl ?_
  replace H := og H; obtain ⟨g1, H⟩ := H
  refine e_iald ((((((hY.sI).sI).sI).sI).sI).t 2 rfl) (ixb_y ((((((hY.sI).sI).sI).sI).sI).n 2 rfl) g1) dX12_read_37 ?_
  refine e_putI ((((((hY.sI).sI).sI).sI).sI).t 0 rfl) fpX12_245_13 rfl dX12_read_38 ?_
  replace H := obh H; obtain ⟨h2, e3, H⟩ := H
  refine e_hq e3 ?_
  have hY4 := kY e3 ((((((hY.sI).sI).sI).sI).sI).sI)
  refine g_aload_n dX12_read_41 rfl rfl ?_
  refine e_iconst (v := (0 : Int32)) dX12_read_42 (by decide) ?_
  refine e_putI (hY4.t 0 rfl) fpX12_251_13 rfl dX12_read_43 ?_
  refine g_aload_n dX12_read_46 rfl rfl ?_
  refine e_iconst (v := (0 : Int32)) dX12_read_47 (by decide) ?_
  refine e_putI ((hY4.sI).t 0 rfl) fpX12_290_13 rfl dX12_read_48 ?_
  refine g_aload_n dX12_read_51 rfl rfl ?_
  refine e_iconst (v := (0 : Int32)) dX12_read_52 (by decide) ?_
  refine e_putZ (((hY4.sI).sI).t 0 rfl) fpX12_283_13 rfl (Or.inl rfl) dX12_read_53 ?_
  refine g_aload_n dX12_read_56 rfl rfl ?_
  replace H := ob H; obtain ⟨q5, c6, H⟩ := H
  refine v0 ((((hY4.sI).sI).sI).t 0 rfl) (by decide) rfl rfl lmX12_296 liX12_next lvX12_X12_next msX12_next dX12_read_57 (t_X12_next (d + 62) (((hY4.sI).sI).sI) c6) rfl (Nat.le_of_ble_eq_true rfl) (Nat.le_refl _) ?_
  have e7 := p_X12_next c6
  have hY8 := (((hY4.sI).sI).sI).pr okM e7
  refine g_aload_n dX12_read_60 rfl rfl ?_
  refine e_ldc2 (v := (323728 : Int64)) lkX12_366 dX12_read_61 ?_
  replace H := ob H; obtain ⟨q9, c10, H⟩ := H
  refine v1 (hY8.t 0 rfl) (by decide) rfl rfl lmX12_368 liX12_part lvX12_X12_part msX12_part dX12_read_64 (t_X12_part (d + 0) hY8 c10) rfl (Nat.le_of_ble_eq_true rfl) (Nat.le_refl _) ?_
  have e11 := p_X12_part c10
  have hY12 := hY8.pr okM e11
  refine e_istore dX12_read_67 (Nat.le_of_ble_eq_true rfl) rfl rfl ?_
  refine g_aload_n dX12_read_69 rfl rfl ?_
  refine e_getI (hY12.t 0 rfl) flX12_283_13 dX12_read_70 rfl ?_
  replace H := ob H; obtain ⟨q14, c20, H⟩ := H
  have e21 : Pr q9.2 q14.2 := by
    replace H := c20
    replace H := oi H; obtain ⟨c13, H⟩ | ⟨c13, H⟩ := H
    · replace H := ob H; obtain ⟨q16, c17, H⟩ := H
      have e18 := p_X12_part c17
      obtain rfl := Option.some.inj H
      exact e18
    · obtain rfl := Option.some.inj H
      exact Pr.rf
  have hY22 := hY12.pr okM e21
  have k15 : En G (d + 64) miX12_read 87 [.ref 60, dum, dum, dum, dum, dum, .int p6, .int q9.1, dum, dum] [.int q14.1] q14.2 (some (.int q.1)) (q.2) := by
    refine e_istore dX12_read_87 (Nat.le_of_ble_eq_true rfl) rfl rfl ?_
    refine g_aload_n dX12_read_89 rfl rfl ?_
    refine e_getI (hY22.t 0 rfl) flX12_283_13 dX12_read_90 rfl ?_
    replace H := ob H; obtain ⟨q24, c30, H⟩ := H
    have e31 : Pr q14.2 q24.2 := by
      replace H := c30
      replace H := oi H; obtain ⟨c23, H⟩ | ⟨c23, H⟩ := H
      · replace H := ob H; obtain ⟨q26, c27, H⟩ := H
        have e28 := p_X12_part c27
        obtain rfl := Option.some.inj H
        exact e28
      · obtain rfl := Option.some.inj H
        exact Pr.rf
    have hY32 := hY22.pr okM e31
    have k25 : En G (d + 64) miX12_read 107 [.ref 60, dum, dum, dum, dum, dum, .int p6, .int q9.1, .int q14.1, dum] [.int q24.1] q24.2 (some (.int q.1)) (q.2) := by
      refine e_istore dX12_read_107 (Nat.le_of_ble_eq_true rfl) rfl rfl ?_
      refine g_aload_n dX12_read_109 rfl rfl ?_
      refine e_getI (hY32.t 0 rfl) flX12_283_13 dX12_read_110 rfl ?_
      replace H := ob H; obtain ⟨q34, c41, H⟩ := H
      have e42 : Pr q24.2 q34 := by
        replace H := c41
        replace H := oi H; obtain ⟨c33, H⟩ | ⟨c33, H⟩ := H
        · replace H := oi H; obtain ⟨c36, H⟩ | ⟨c36, H⟩ := H
          · obtain rfl := Option.some.inj H
            exact Pr.rf
          · replace H := ob H; obtain ⟨q37, c38, H⟩ := H
            have e39 := p_X12_fail c38
            obtain rfl := Option.some.inj H
            exact e39
        · obtain rfl := Option.some.inj H
          exact Pr.rf
      have hY43 := hY32.pr okM e42
      have k35 : En G (d + 64) miX12_read 127 [dum, dum, dum, dum, dum, dum, .int p6, .int q9.1, .int q14.1, .int q24.1] [] q34 (some (.int q.1)) (q.2) := by
        refine e_iload dX12_read_127 rfl ?_
        refine e_if_ne (tgt := 137) dX12_read_129 (by decide) (fun c44 => ?_) (fun c44 => ?_)
        · replace H := of_ c44 H
          refine e_iload dX12_read_137 rfl ?_
          refine e_iconst (v := (1 : Int32)) dX12_read_139 (by decide) ?_
          refine e_icmp_ne (tgt := 148) dX12_read_140 (by decide) (fun c45 => ?_) (fun c45 => ?_)
          · replace H := of_ c45 H
            refine e_iload dX12_read_148 rfl ?_
            obtain rfl := Option.some.inj H
            exact z_iret rfl rfl dX12_read_150 rfl rfl
          · replace H := ot c45 H
            refine e_iload dX12_read_143 rfl ?_
            refine e_goto (tgt := 150) dX12_read_145 (by decide) ?_
            obtain rfl := Option.some.inj H
            exact z_iret rfl rfl dX12_read_150 rfl rfl
        · replace H := ot c44 H
          refine e_iload dX12_read_132 rfl ?_
          refine e_goto (tgt := 150) dX12_read_134 (by decide) ?_
          obtain rfl := Option.some.inj H
          exact z_iret rfl rfl dX12_read_150 rfl rfl
      replace H := c41
      refine e_if_ne (tgt := 127) dX12_read_113 (by decide) (fun c33 => ?_) (fun c33 => ?_)
      · replace H := of_ c33 H
        obtain rfl := Option.some.inj H
        exact e_wk (lk0 (lk1 (lk1 (lk1 (lk1 (lk1 (lk1 (lk1 (lk1 (lk1 lkn)))))))))) k35
      · replace H := ot c33 H
        refine g_aload_n dX12_read_116 rfl rfl ?_
        refine e_getI (hY32.t 0 rfl) flX12_260_13 dX12_read_117 rfl ?_
        refine e_if_eq (tgt := 127) dX12_read_120 (by decide) (fun c36 => ?_) (fun c36 => ?_)
        · replace H := ot c36 H
          obtain rfl := Option.some.inj H
          exact e_wk (lk0 (lk1 (lk1 (lk1 (lk1 (lk1 (lk1 (lk1 (lk1 (lk1 lkn)))))))))) k35
        · replace H := of_ c36 H
          refine g_aload_n dX12_read_123 rfl rfl ?_
          replace H := ob H; obtain ⟨q37, c38, H⟩ := H
          refine v0 (hY32.t 0 rfl) (by decide) rfl rfl lmX12_293 liX12_fail lvX12_X12_fail msX12_fail dX12_read_124 (t_X12_fail (d + 63) hY32 c38) rfl (Nat.le_of_ble_eq_true rfl) (Nat.le_refl _) ?_
          have e39 := p_X12_fail c38
          have hY40 := hY32.pr okM e39
          obtain rfl := Option.some.inj H
          exact e_wk (lk0 (lk1 (lk1 (lk1 (lk1 (lk1 (lk1 (lk1 (lk1 (lk1 lkn)))))))))) k35
    replace H := c30
    refine e_if_eq (tgt := 100) dX12_read_93 (by decide) (fun c23 => ?_) (fun c23 => ?_)
    · replace H := ot c23 H
      refine g_aload_n dX12_read_100 rfl rfl ?_
      refine e_ldc2 (v := (6477035 : Int64)) lkX12_374 dX12_read_101 ?_
      replace H := ob H; obtain ⟨q26, c27, H⟩ := H
      refine v1 (hY22.t 0 rfl) (by decide) rfl rfl lmX12_368 liX12_part lvX12_X12_part msX12_part dX12_read_104 (t_X12_part (d + 0) hY22 c27) rfl (Nat.le_of_ble_eq_true rfl) (Nat.le_refl _) ?_
      have e28 := p_X12_part c27
      have hY29 := hY22.pr okM e28
      obtain rfl := Option.some.inj H
      exact e_wk (lk1 (lk1 (lk1 (lk1 (lk1 (lk1 (lk1 (lk1 (lk1 (lk1 lkn)))))))))) k25
    · replace H := of_ c23 H
      refine e_iconst (v := (0 : Int32)) dX12_read_96 (by decide) ?_
      refine e_goto (tgt := 107) dX12_read_97 (by decide) ?_
      obtain rfl := Option.some.inj H
      exact e_wk (lk1 (lk1 (lk1 (lk1 (lk1 (lk1 (lk1 (lk1 (lk1 (lk1 lkn)))))))))) k25
  replace H := c20
  refine e_if_eq (tgt := 80) dX12_read_73 (by decide) (fun c13 => ?_) (fun c13 => ?_)
  · replace H := ot c13 H
    refine g_aload_n dX12_read_80 rfl rfl ?_
    refine e_ldc2 (v := (10320789 : Int64)) lkX12_372 dX12_read_81 ?_
    replace H := ob H; obtain ⟨q16, c17, H⟩ := H
    refine v1 (hY12.t 0 rfl) (by decide) rfl rfl lmX12_368 liX12_part lvX12_X12_part msX12_part dX12_read_84 (t_X12_part (d + 0) hY12 c17) rfl (Nat.le_of_ble_eq_true rfl) (Nat.le_refl _) ?_
    have e18 := p_X12_part c17
    have hY19 := hY12.pr okM e18
    obtain rfl := Option.some.inj H
    exact e_wk (lk1 (lk0 (lk0 (lk0 (lk0 (lk0 (lk1 (lk1 (lk1 (lk1 lkn)))))))))) k15
  · replace H := of_ c13 H
    refine e_iconst (v := (0 : Int32)) dX12_read_76 (by decide) ?_
    refine e_goto (tgt := 87) dX12_read_77 (by decide) ?_
    obtain rfl := Option.some.inj H
    exact e_wk (lk1 (lk0 (lk0 (lk0 (lk0 (lk0 (lk1 (lk1 (lk1 (lk1 lkn)))))))))) k15
