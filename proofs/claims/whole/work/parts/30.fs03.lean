-- X6_write
def f_X6_write (p1 : Int32) (h : HS) : Option HS := (if (hI h 39 7) < 0 then (some h) else (if (160 : Int32) ≤ (hI h 39 7) then (some h) else (if ixb (hI h 39 7) 160 = true then (some (sI (sI h 43 (hI h 39 7).toNatClampNeg p1) 39 7 ((hI (sI h 43 (hI h 39 7).toNatClampNeg p1) 39 7) + (1 : Int32)))) else none)))
set_option maxHeartbeats 4000000 in
set_option maxRecDepth 20000 in
theorem p_X6_write {p1 : Int32} {h : HS} {q : HS} (H : f_X6_write p1 h = some q) : Pr h q := by
  unfold f_X6_write at H
  replace H := oi H; obtain ⟨c1, H⟩ | ⟨c1, H⟩ := H
  · obtain rfl := Option.some.inj H
    exact Pr.rf
  · replace H := oi H; obtain ⟨c2, H⟩ | ⟨c2, H⟩ := H
    · obtain rfl := Option.some.inj H
      exact Pr.rf
    · replace H := og H; obtain ⟨g3, H⟩ := H
      obtain rfl := Option.some.inj H
      exact ((Pr.rf.sI).sI)
set_option maxHeartbeats 4000000 in
set_option maxRecDepth 20000 in
theorem t_X6_write {G : GE} (d : Nat) {p1 : Int32} {h : HS} {q : HS} (hY : LY TX h) (H : f_X6_write p1 h = some q) : CE G (d + 0) yX6_write miX6_write [.ref 39, .int p1] h (none) (q) := by
  unfold f_X6_write at H
  refine ce_of rfl (by decide) (fun q => by first | rfl | cases q) (Nat.le_of_ble_eq_true rfl) rfl ?_
  refine g_aload_n dX6_write_0 rfl rfl ?_
  refine e_getI (hY.t 7 rfl) flX6_34_7 dX6_write_1 rfl ?_
  refine e_if_lt (tgt := 37) dX6_write_4 (by decide) (fun c1 => ?_) (fun c1 => ?_)
  · replace H := ot c1 H
    obtain rfl := Option.some.inj H
    exact z_vret rfl dX6_write_37 rfl rfl
  · replace H := of_ c1 H
    refine g_aload_n dX6_write_7 rfl rfl ?_
    refine e_getI (hY.t 7 rfl) flX6_34_7 dX6_write_8 rfl ?_
    refine e_sipush (v := (160 : Int32)) dX6_write_11 (by decide) ?_
    refine e_icmp_ge (tgt := 37) dX6_write_14 (by decide) (fun c2 => ?_) (fun c2 => ?_)
    · replace H := ot c2 H
      obtain rfl := Option.some.inj H
      exact z_vret rfl dX6_write_37 rfl rfl
    · replace H := of_ c2 H
      refine g_aload_n dX6_write_17 rfl rfl ?_
      refine e_getR (hY.t 7 rfl) flX6_31_7 dX6_write_18 rfl (hY.r 20 rfl) ?_
      refine g_aload_n dX6_write_21 rfl rfl ?_
      refine e_getI (hY.t 7 rfl) flX6_34_7 dX6_write_22 rfl ?_
      refine e_iload_n dX6_write_25 rfl ?_
      replace H := og H; obtain ⟨g3, H⟩ := H
      refine e_iast (hY.t 11 rfl) (ixb_y (hY.n 11 rfl) g3) dX6_write_26 ?_
      refine g_aload_n dX6_write_27 rfl rfl ?_
      refine e_dup dX6_write_28 rfl ?_
      refine e_getI ((hY.sI).t 7 rfl) flX6_34_7 dX6_write_29 rfl ?_
      refine e_iconst (v := (1 : Int32)) dX6_write_32 (by decide) ?_
      refine e_iadd dX6_write_33 ?_
      refine e_putI ((hY.sI).t 7 rfl) fpX6_34_7 rfl dX6_write_34 ?_
      obtain rfl := Option.some.inj H
      exact z_vret rfl dX6_write_37 rfl rfl
-- X6_isValue
def f_X6_isValue (p0 : Int32) : Option Bool := (if p0 < (10000 : Int32) then (some true) else (if p0 < (10200 : Int32) then (some false) else (if (10206 : Int32) ≤ p0 then (some false) else (some true))))
set_option maxHeartbeats 4000000 in
set_option maxRecDepth 20000 in
theorem t_X6_isValue {G : GE} (d : Nat) {p0 : Int32} {h : HS} {q : Bool} (H : f_X6_isValue p0 = some q) : CE G (d + 0) yX6_isValue miX6_isValue [.int p0] h (some (.int (b2i q))) (h) := by
  unfold f_X6_isValue at H
  refine ce_of rfl (by decide) (fun q => by first | rfl | cases q) (Nat.le_of_ble_eq_true rfl) rfl ?_
  refine e_iload_n dX6_isValue_0 rfl ?_
  refine e_sipush (v := (10000 : Int32)) dX6_isValue_1 (by decide) ?_
  refine e_icmp_lt (tgt := 21) dX6_isValue_4 (by decide) (fun c1 => ?_) (fun c1 => ?_)
  · replace H := ot c1 H
    refine e_iconst (v := (1 : Int32)) dX6_isValue_21 (by decide) ?_
    refine e_goto (tgt := 26) dX6_isValue_22 (by decide) ?_
    obtain rfl := Option.some.inj H
    exact z_iret rfl rfl dX6_isValue_26 rfl rfl
  · replace H := of_ c1 H
    refine e_iload_n dX6_isValue_7 rfl ?_
    refine e_sipush (v := (10200 : Int32)) dX6_isValue_8 (by decide) ?_
    refine e_icmp_lt (tgt := 25) dX6_isValue_11 (by decide) (fun c2 => ?_) (fun c2 => ?_)
    · replace H := ot c2 H
      refine e_iconst (v := (0 : Int32)) dX6_isValue_25 (by decide) ?_
      obtain rfl := Option.some.inj H
      exact z_iret rfl rfl dX6_isValue_26 rfl rfl
    · replace H := of_ c2 H
      refine e_iload_n dX6_isValue_14 rfl ?_
      refine e_sipush (v := (10206 : Int32)) dX6_isValue_15 (by decide) ?_
      refine e_icmp_ge (tgt := 25) dX6_isValue_18 (by decide) (fun c3 => ?_) (fun c3 => ?_)
      · replace H := ot c3 H
        refine e_iconst (v := (0 : Int32)) dX6_isValue_25 (by decide) ?_
        obtain rfl := Option.some.inj H
        exact z_iret rfl rfl dX6_isValue_26 rfl rfl
      · replace H := of_ c3 H
        refine e_iconst (v := (1 : Int32)) dX6_isValue_21 (by decide) ?_
        refine e_goto (tgt := 26) dX6_isValue_22 (by decide) ?_
        obtain rfl := Option.some.inj H
        exact z_iret rfl rfl dX6_isValue_26 rfl rfl
-- X6rc
abbrev RPX6 (rc : Nat → Int32 → HS → Option HS) : Prop := ∀ {m : Nat} {o : Int32} {h : HS} {q : HS}, rc m o h = some q → Pr h q
def RCX6 (G : GE) (dd : Nat) (rc : Nat → Int32 → HS → Option HS) : Prop := ∀ {o : Int32} {h : HS} {q : HS}, LY TX h → (rc 0 o h = some q → CE G dd yX6_readAny miX6_readAny [.ref 39, .int o] h none q) ∧ (rc 1 o h = some q → CE G dd yX6_readEach miX6_readEach [.ref 39, .int o] h none q) ∧ (rc 2 o h = some q → CE G dd yX6_readNot miX6_readNot [.ref 39, .int o] h none q) ∧ (rc 3 o h = some q → CE G dd yX6_readSum miX6_readSum [.ref 39, .int o] h none q) ∧ (rc 4 o h = some q → CE G dd yX6_readTerm miX6_readTerm [.ref 39, .int o] h none q) ∧ (rc 5 o h = some q → CE G dd yX6_readOne miX6_readOne [.ref 39, .int o] h none q)
theorem RCX6.X6_readAny {G : GE} {dd : Nat} {rc : Nat → Int32 → HS → Option HS} (hrc : RCX6 G dd rc) {o : Int32} {h : HS} {q : HS} (hY : LY TX h) (c : rc 0 o h = some q) : CE G dd yX6_readAny miX6_readAny [.ref 39, .int o] h none q := (hrc hY).1 c
theorem RCX6.X6_readEach {G : GE} {dd : Nat} {rc : Nat → Int32 → HS → Option HS} (hrc : RCX6 G dd rc) {o : Int32} {h : HS} {q : HS} (hY : LY TX h) (c : rc 1 o h = some q) : CE G dd yX6_readEach miX6_readEach [.ref 39, .int o] h none q := (hrc hY).2.1 c
theorem RCX6.X6_readNot {G : GE} {dd : Nat} {rc : Nat → Int32 → HS → Option HS} (hrc : RCX6 G dd rc) {o : Int32} {h : HS} {q : HS} (hY : LY TX h) (c : rc 2 o h = some q) : CE G dd yX6_readNot miX6_readNot [.ref 39, .int o] h none q := (hrc hY).2.2.1 c
theorem RCX6.X6_readSum {G : GE} {dd : Nat} {rc : Nat → Int32 → HS → Option HS} (hrc : RCX6 G dd rc) {o : Int32} {h : HS} {q : HS} (hY : LY TX h) (c : rc 3 o h = some q) : CE G dd yX6_readSum miX6_readSum [.ref 39, .int o] h none q := (hrc hY).2.2.2.1 c
theorem RCX6.X6_readTerm {G : GE} {dd : Nat} {rc : Nat → Int32 → HS → Option HS} (hrc : RCX6 G dd rc) {o : Int32} {h : HS} {q : HS} (hY : LY TX h) (c : rc 4 o h = some q) : CE G dd yX6_readTerm miX6_readTerm [.ref 39, .int o] h none q := (hrc hY).2.2.2.2.1 c
theorem RCX6.X6_readOne {G : GE} {dd : Nat} {rc : Nat → Int32 → HS → Option HS} (hrc : RCX6 G dd rc) {o : Int32} {h : HS} {q : HS} (hY : LY TX h) (c : rc 5 o h = some q) : CE G dd yX6_readOne miX6_readOne [.ref 39, .int o] h none q := (hrc hY).2.2.2.2.2 c
-- X6_readAny
def l_X6_readAny_7 (rc : Nat → Int32 → HS → Option HS) (y1 : Int32)  : Nat → Int32 → HS → Option HS
  | 0, _, _ => none
  | n + 1, x2, h => (if (160 : Int32) ≤ x2 then (some h) else (Option.bind (f_X6_takes (10210 : Int32) h) (fun q20 => (if q20.1 = true then (Option.bind (rc 1 y1 q20.2) (fun q25 => (Option.bind (f_X6_write (10210 : Int32) q25) (fun q29 => (l_X6_readAny_7 rc y1 n (x2 + (1 : Int32)) q29))))) else (some q20.2)))))
set_option maxHeartbeats 4000000 in
set_option maxRecDepth 20000 in
theorem p_X6_readAny_7 {rc : Nat → Int32 → HS → Option HS} (hpc : RPX6 rc) {y1 : Int32} : ∀ (n : Nat) {x2 : Int32} {h : HS} {q : HS}, l_X6_readAny_7 rc y1 n x2 h = some q → Pr h q := by
  intro n
  induction n with
  | zero => intro x2 h q H; exact nz H
  | succ n ih =>
    intro x2 h q H
    unfold l_X6_readAny_7 at H
    replace H := oi H; obtain ⟨c19, H⟩ | ⟨c19, H⟩ := H
    · obtain rfl := Option.some.inj H
      exact Pr.rf
    · replace H := ob H; obtain ⟨q20, c21, H⟩ := H
      have e22 := p_X6_takes c21
      replace H := oi H; obtain ⟨c24, H⟩ | ⟨c24, H⟩ := H
      · replace H := ob H; obtain ⟨q25, c26, H⟩ := H
        have e27 := hpc c26
        replace H := ob H; obtain ⟨q29, c30, H⟩ := H
        have e31 := p_X6_write c30
        exact ((e22.tr e27).tr e31).tr (ih H)
      · obtain rfl := Option.some.inj H
        exact e22
set_option maxHeartbeats 4000000 in
set_option maxRecDepth 20000 in
theorem w_X6_readAny_7 {G : GE} {rc : Nat → Int32 → HS → Option HS} {dd : Nat} (hrc : RCX6 G dd rc) (hpc : RPX6 rc) (hB : 2 ≤ dd) {y1 : Int32} {r : Option Value} {h' : HS}  : ∀ (n : Nat) {x2 : Int32} {h : HS} {q : HS}, LY TX h → l_X6_readAny_7 rc y1 n x2 h = some q → En G (dd + 1) miX6_readAny 42 [dum, dum, dum] [] q r h' → En G (dd + 1) miX6_readAny 7 [.ref 39, .int y1, .int x2] [] h r h' := by
  intro n
  induction n with
  | zero => intro x2 h q hYTX H kE; exact nz H
  | succ n ih =>
    intro x2 h q hYTX H kE
    unfold l_X6_readAny_7 at H
    refine e_iload_n dX6_readAny_7 rfl ?_
    refine e_sipush (v := (160 : Int32)) dX6_readAny_8 (by decide) ?_
    refine e_icmp_ge (tgt := 42) dX6_readAny_11 (by decide) (fun c19 => ?_) (fun c19 => ?_)
    · replace H := ot c19 H
      obtain rfl := Option.some.inj H
      exact e_wk (lk0 (lk0 (lk0 lkn))) kE
    · replace H := of_ c19 H
      refine g_aload_n dX6_readAny_14 rfl rfl ?_
      refine e_sipush (v := (10210 : Int32)) dX6_readAny_15 (by decide) ?_
      replace H := ob H; obtain ⟨q20, c21, H⟩ := H
      refine v1 (hYTX.t 7 rfl) (by decide) rfl rfl lmX6_140 liX6_takes lvX6_X6_takes msX6_takes dX6_readAny_18 (t_X6_takes (dd - 1) hYTX c21) rfl (Nat.le_of_ble_eq_true rfl) (by omega) ?_
      have e22 := p_X6_takes c21
      have hY23 := hYTX.pr okX e22
      refine e_ifB_eq (tgt := 42) dX6_readAny_21 (by decide) (fun c24 => ?_) (fun c24 => ?_)
      · replace H := of_ (nb c24) H
        obtain rfl := Option.some.inj H
        exact e_wk (lk0 (lk0 (lk0 lkn))) kE
      · replace H := ot c24 H
        refine g_aload_n dX6_readAny_24 rfl rfl ?_
        refine e_iload_n dX6_readAny_25 rfl ?_
        replace H := ob H; obtain ⟨q25, c26, H⟩ := H
        refine v0 (hY23.t 7 rfl) (by decide) rfl rfl lmX6_137 liX6_readEach lvX6_X6_readEach msX6_readEach dX6_readAny_26 (hrc.X6_readEach hY23 c26) rfl (Nat.le_of_ble_eq_true rfl) (Nat.le_refl _) ?_
        have e27 := hpc c26
        have hY28 := hY23.pr okX e27
        refine g_aload_n dX6_readAny_29 rfl rfl ?_
        refine e_sipush (v := (10210 : Int32)) dX6_readAny_30 (by decide) ?_
        replace H := ob H; obtain ⟨q29, c30, H⟩ := H
        refine v0 (hY28.t 7 rfl) (by decide) rfl rfl lmX6_143 liX6_write lvX6_X6_write msX6_write dX6_readAny_33 (t_X6_write (dd - 0) hY28 c30) rfl (Nat.le_of_ble_eq_true rfl) (by omega) ?_
        have e31 := p_X6_write c30
        have hY32 := hY28.pr okX e31
        refine e_iinc dX6_readAny_36 rfl (ii_ (by decide : Int32.ofInt (1) = (1 : Int32))) (Nat.le_of_ble_eq_true rfl) rfl rfl ?_
        refine e_goto (tgt := 7) dX6_readAny_39 (by decide) ?_
        exact e_wk (lk1 (lk1 (lk1 lkn))) (ih hY32 H kE)
def g_X6_readAny (rc : Nat → Int32 → HS → Option HS) (p1 : Int32) (h : HS) : Option HS := (Option.bind (rc 1 p1 h) (fun q1 => (Option.bind (l_X6_readAny_7 rc p1 1000 (0 : Int32) q1) (fun q33 => (some q33)))))
set_option maxHeartbeats 4000000 in
set_option maxRecDepth 20000 in
theorem p_X6_readAny {rc : Nat → Int32 → HS → Option HS} (hpc : RPX6 rc) {p1 : Int32} {h : HS} {q : HS} (H : g_X6_readAny rc p1 h = some q) : Pr h q := by
  unfold g_X6_readAny at H
  replace H := ob H; obtain ⟨q1, c2, H⟩ := H
  have e3 := hpc c2
  replace H := ob H; obtain ⟨q33, c34, H⟩ := H
  have e35 := p_X6_readAny_7 hpc 1000 c34
  obtain rfl := Option.some.inj H
  exact (e3.tr e35)
set_option maxHeartbeats 4000000 in
set_option maxRecDepth 20000 in
theorem t_X6_readAny {G : GE} {rc : Nat → Int32 → HS → Option HS} {dd : Nat} (hrc : RCX6 G dd rc) (hpc : RPX6 rc) (hB : 2 ≤ dd) {p1 : Int32} {h : HS} {q : HS} (hY : LY TX h) (H : g_X6_readAny rc p1 h = some q) : CE G (dd + 1) yX6_readAny miX6_readAny [.ref 39, .int p1] h (none) (q) := by
  unfold g_X6_readAny at H
  refine ce_of rfl (by decide) (fun q => by first | rfl | cases q) (Nat.le_of_ble_eq_true rfl) rfl ?_
  refine g_aload_n dX6_readAny_0 rfl rfl ?_
  refine e_iload_n dX6_readAny_1 rfl ?_
  replace H := ob H; obtain ⟨q1, c2, H⟩ := H
  refine v0 (hY.t 7 rfl) (by decide) rfl rfl lmX6_137 liX6_readEach lvX6_X6_readEach msX6_readEach dX6_readAny_2 (hrc.X6_readEach hY c2) rfl (Nat.le_of_ble_eq_true rfl) (Nat.le_refl _) ?_
  have e3 := hpc c2
  have hY4 := hY.pr okX e3
  refine e_iconst (v := (0 : Int32)) dX6_readAny_5 (by decide) ?_
  refine e_istore_n dX6_readAny_6 (Nat.le_of_ble_eq_true rfl) rfl rfl ?_
  replace H := ob H; obtain ⟨q33, c34, H⟩ := H
  have e35 := p_X6_readAny_7 hpc 1000 c34
  have hY36 := hY4.pr okX e35
  refine e_wk (lk1 (lk1 (lk1 lkn))) (w_X6_readAny_7 hrc hpc hB 1000 hY4 c34 ?_)
  obtain rfl := Option.some.inj H
  exact z_vret rfl dX6_readAny_42 rfl rfl
-- X6_readEach
def l_X6_readEach_7 (rc : Nat → Int32 → HS → Option HS) (y1 : Int32)  : Nat → Int32 → HS → Option HS
  | 0, _, _ => none
  | n + 1, x2, h => (if (160 : Int32) ≤ x2 then (some h) else (Option.bind (f_X6_takes (10211 : Int32) h) (fun q20 => (if q20.1 = true then (Option.bind (rc 2 y1 q20.2) (fun q25 => (Option.bind (f_X6_write (10211 : Int32) q25) (fun q29 => (l_X6_readEach_7 rc y1 n (x2 + (1 : Int32)) q29))))) else (some q20.2)))))
set_option maxHeartbeats 4000000 in
set_option maxRecDepth 20000 in
theorem p_X6_readEach_7 {rc : Nat → Int32 → HS → Option HS} (hpc : RPX6 rc) {y1 : Int32} : ∀ (n : Nat) {x2 : Int32} {h : HS} {q : HS}, l_X6_readEach_7 rc y1 n x2 h = some q → Pr h q := by
  intro n
  induction n with
  | zero => intro x2 h q H; exact nz H
  | succ n ih =>
    intro x2 h q H
    unfold l_X6_readEach_7 at H
    replace H := oi H; obtain ⟨c19, H⟩ | ⟨c19, H⟩ := H
    · obtain rfl := Option.some.inj H
      exact Pr.rf
    · replace H := ob H; obtain ⟨q20, c21, H⟩ := H
      have e22 := p_X6_takes c21
      replace H := oi H; obtain ⟨c24, H⟩ | ⟨c24, H⟩ := H
      · replace H := ob H; obtain ⟨q25, c26, H⟩ := H
        have e27 := hpc c26
        replace H := ob H; obtain ⟨q29, c30, H⟩ := H
        have e31 := p_X6_write c30
        exact ((e22.tr e27).tr e31).tr (ih H)
      · obtain rfl := Option.some.inj H
        exact e22
set_option maxHeartbeats 4000000 in
set_option maxRecDepth 20000 in
theorem w_X6_readEach_7 {G : GE} {rc : Nat → Int32 → HS → Option HS} {dd : Nat} (hrc : RCX6 G dd rc) (hpc : RPX6 rc) (hB : 2 ≤ dd) {y1 : Int32} {r : Option Value} {h' : HS}  : ∀ (n : Nat) {x2 : Int32} {h : HS} {q : HS}, LY TX h → l_X6_readEach_7 rc y1 n x2 h = some q → En G (dd + 1) miX6_readEach 42 [dum, dum, dum] [] q r h' → En G (dd + 1) miX6_readEach 7 [.ref 39, .int y1, .int x2] [] h r h' := by
  intro n
  induction n with
  | zero => intro x2 h q hYTX H kE; exact nz H
  | succ n ih =>
    intro x2 h q hYTX H kE
    unfold l_X6_readEach_7 at H
    refine e_iload_n dX6_readEach_7 rfl ?_
    refine e_sipush (v := (160 : Int32)) dX6_readEach_8 (by decide) ?_
    refine e_icmp_ge (tgt := 42) dX6_readEach_11 (by decide) (fun c19 => ?_) (fun c19 => ?_)
    · replace H := ot c19 H
      obtain rfl := Option.some.inj H
      exact e_wk (lk0 (lk0 (lk0 lkn))) kE
    · replace H := of_ c19 H
      refine g_aload_n dX6_readEach_14 rfl rfl ?_
      refine e_sipush (v := (10211 : Int32)) dX6_readEach_15 (by decide) ?_
      replace H := ob H; obtain ⟨q20, c21, H⟩ := H
      refine v1 (hYTX.t 7 rfl) (by decide) rfl rfl lmX6_140 liX6_takes lvX6_X6_takes msX6_takes dX6_readEach_18 (t_X6_takes (dd - 1) hYTX c21) rfl (Nat.le_of_ble_eq_true rfl) (by omega) ?_
      have e22 := p_X6_takes c21
      have hY23 := hYTX.pr okX e22
      refine e_ifB_eq (tgt := 42) dX6_readEach_21 (by decide) (fun c24 => ?_) (fun c24 => ?_)
      · replace H := of_ (nb c24) H
        obtain rfl := Option.some.inj H
        exact e_wk (lk0 (lk0 (lk0 lkn))) kE
      · replace H := ot c24 H
        refine g_aload_n dX6_readEach_24 rfl rfl ?_
        refine e_iload_n dX6_readEach_25 rfl ?_
        replace H := ob H; obtain ⟨q25, c26, H⟩ := H
        refine v0 (hY23.t 7 rfl) (by decide) rfl rfl lmX6_146 liX6_readNot lvX6_X6_readNot msX6_readNot dX6_readEach_26 (hrc.X6_readNot hY23 c26) rfl (Nat.le_of_ble_eq_true rfl) (Nat.le_refl _) ?_
        have e27 := hpc c26
        have hY28 := hY23.pr okX e27
        refine g_aload_n dX6_readEach_29 rfl rfl ?_
        refine e_sipush (v := (10211 : Int32)) dX6_readEach_30 (by decide) ?_
        replace H := ob H; obtain ⟨q29, c30, H⟩ := H
        refine v0 (hY28.t 7 rfl) (by decide) rfl rfl lmX6_143 liX6_write lvX6_X6_write msX6_write dX6_readEach_33 (t_X6_write (dd - 0) hY28 c30) rfl (Nat.le_of_ble_eq_true rfl) (by omega) ?_
        have e31 := p_X6_write c30
        have hY32 := hY28.pr okX e31
        refine e_iinc dX6_readEach_36 rfl (ii_ (by decide : Int32.ofInt (1) = (1 : Int32))) (Nat.le_of_ble_eq_true rfl) rfl rfl ?_
        refine e_goto (tgt := 7) dX6_readEach_39 (by decide) ?_
        exact e_wk (lk1 (lk1 (lk1 lkn))) (ih hY32 H kE)
def g_X6_readEach (rc : Nat → Int32 → HS → Option HS) (p1 : Int32) (h : HS) : Option HS := (Option.bind (rc 2 p1 h) (fun q1 => (Option.bind (l_X6_readEach_7 rc p1 1000 (0 : Int32) q1) (fun q33 => (some q33)))))
set_option maxHeartbeats 4000000 in
set_option maxRecDepth 20000 in
theorem p_X6_readEach {rc : Nat → Int32 → HS → Option HS} (hpc : RPX6 rc) {p1 : Int32} {h : HS} {q : HS} (H : g_X6_readEach rc p1 h = some q) : Pr h q := by
  unfold g_X6_readEach at H
  replace H := ob H; obtain ⟨q1, c2, H⟩ := H
  have e3 := hpc c2
  replace H := ob H; obtain ⟨q33, c34, H⟩ := H
  have e35 := p_X6_readEach_7 hpc 1000 c34
  obtain rfl := Option.some.inj H
  exact (e3.tr e35)
set_option maxHeartbeats 4000000 in
set_option maxRecDepth 20000 in
theorem t_X6_readEach {G : GE} {rc : Nat → Int32 → HS → Option HS} {dd : Nat} (hrc : RCX6 G dd rc) (hpc : RPX6 rc) (hB : 2 ≤ dd) {p1 : Int32} {h : HS} {q : HS} (hY : LY TX h) (H : g_X6_readEach rc p1 h = some q) : CE G (dd + 1) yX6_readEach miX6_readEach [.ref 39, .int p1] h (none) (q) := by
  unfold g_X6_readEach at H
  refine ce_of rfl (by decide) (fun q => by first | rfl | cases q) (Nat.le_of_ble_eq_true rfl) rfl ?_
  refine g_aload_n dX6_readEach_0 rfl rfl ?_
  refine e_iload_n dX6_readEach_1 rfl ?_
  replace H := ob H; obtain ⟨q1, c2, H⟩ := H
  refine v0 (hY.t 7 rfl) (by decide) rfl rfl lmX6_146 liX6_readNot lvX6_X6_readNot msX6_readNot dX6_readEach_2 (hrc.X6_readNot hY c2) rfl (Nat.le_of_ble_eq_true rfl) (Nat.le_refl _) ?_
  have e3 := hpc c2
  have hY4 := hY.pr okX e3
  refine e_iconst (v := (0 : Int32)) dX6_readEach_5 (by decide) ?_
  refine e_istore_n dX6_readEach_6 (Nat.le_of_ble_eq_true rfl) rfl rfl ?_
  replace H := ob H; obtain ⟨q33, c34, H⟩ := H
  have e35 := p_X6_readEach_7 hpc 1000 c34
  have hY36 := hY4.pr okX e35
  refine e_wk (lk1 (lk1 (lk1 lkn))) (w_X6_readEach_7 hrc hpc hB 1000 hY4 c34 ?_)
  obtain rfl := Option.some.inj H
  exact z_vret rfl dX6_readEach_42 rfl rfl
-- X6_readNot
def g_X6_readNot (rc : Nat → Int32 → HS → Option HS) (p1 : Int32) (h : HS) : Option HS := (if (5 : Int32) ≤ p1 then (Option.bind (rc 3 p1 h) (fun q2 => (Option.bind (f_X6_token q2) (fun q6 => (Option.bind (f_X6_takes (10060 : Int32) q2) (fun q8 => (if q8.1 = true then (Option.bind (rc 3 p1 q8.2) (fun q13 => (Option.bind (f_X6_write q6 q13) (fun q17 => (some q17))))) else (Option.bind (f_X6_takes (10061 : Int32) q8.2) (fun q21 => (if q21.1 = true then (Option.bind (rc 3 p1 q21.2) (fun q26 => (Option.bind (f_X6_write q6 q26) (fun q30 => (some q30))))) else (some q21.2))))))))))) else (Option.bind (f_X6_takes (10212 : Int32) h) (fun q34 => (if q34.1 = true then (Option.bind (rc 2 (p1 + (1 : Int32)) q34.2) (fun q71 => (Option.bind (f_X6_write (10212 : Int32) q71) (fun q75 => (some q75))))) else (Option.bind (rc 3 p1 q34.2) (fun q39 => (Option.bind (f_X6_token q39) (fun q43 => (Option.bind (f_X6_takes (10060 : Int32) q39) (fun q45 => (if q45.1 = true then (Option.bind (rc 3 p1 q45.2) (fun q50 => (Option.bind (f_X6_write q43 q50) (fun q54 => (some q54))))) else (Option.bind (f_X6_takes (10061 : Int32) q45.2) (fun q58 => (if q58.1 = true then (Option.bind (rc 3 p1 q58.2) (fun q63 => (Option.bind (f_X6_write q43 q63) (fun q67 => (some q67))))) else (some q58.2)))))))))))))))
set_option maxHeartbeats 4000000 in
set_option maxRecDepth 20000 in
theorem p_X6_readNot {rc : Nat → Int32 → HS → Option HS} (hpc : RPX6 rc) {p1 : Int32} {h : HS} {q : HS} (H : g_X6_readNot rc p1 h = some q) : Pr h q := by
  unfold g_X6_readNot at H
  replace H := oi H; obtain ⟨c1, H⟩ | ⟨c1, H⟩ := H
  · replace H := ob H; obtain ⟨q2, c3, H⟩ := H
    have e4 := hpc c3
    replace H := ob H; obtain ⟨q6, c7, H⟩ := H
    replace H := ob H; obtain ⟨q8, c9, H⟩ := H
    have e10 := p_X6_takes c9
    replace H := oi H; obtain ⟨c12, H⟩ | ⟨c12, H⟩ := H
    · replace H := ob H; obtain ⟨q13, c14, H⟩ := H
      have e15 := hpc c14
      replace H := ob H; obtain ⟨q17, c18, H⟩ := H
      have e19 := p_X6_write c18
      obtain rfl := Option.some.inj H
      exact (((e4.tr e10).tr e15).tr e19)
    · replace H := ob H; obtain ⟨q21, c22, H⟩ := H
      have e23 := p_X6_takes c22
      replace H := oi H; obtain ⟨c25, H⟩ | ⟨c25, H⟩ := H
      · replace H := ob H; obtain ⟨q26, c27, H⟩ := H
        have e28 := hpc c27
        replace H := ob H; obtain ⟨q30, c31, H⟩ := H
        have e32 := p_X6_write c31
        obtain rfl := Option.some.inj H
        exact ((((e4.tr e10).tr e23).tr e28).tr e32)
      · obtain rfl := Option.some.inj H
        exact ((e4.tr e10).tr e23)
  · replace H := ob H; obtain ⟨q34, c35, H⟩ := H
    have e36 := p_X6_takes c35
    replace H := oi H; obtain ⟨c38, H⟩ | ⟨c38, H⟩ := H
    · replace H := ob H; obtain ⟨q71, c72, H⟩ := H
      have e73 := hpc c72
      replace H := ob H; obtain ⟨q75, c76, H⟩ := H
      have e77 := p_X6_write c76
      obtain rfl := Option.some.inj H
      exact ((e36.tr e73).tr e77)
    · replace H := ob H; obtain ⟨q39, c40, H⟩ := H
      have e41 := hpc c40
      replace H := ob H; obtain ⟨q43, c44, H⟩ := H
      replace H := ob H; obtain ⟨q45, c46, H⟩ := H
      have e47 := p_X6_takes c46
      replace H := oi H; obtain ⟨c49, H⟩ | ⟨c49, H⟩ := H
      · replace H := ob H; obtain ⟨q50, c51, H⟩ := H
        have e52 := hpc c51
        replace H := ob H; obtain ⟨q54, c55, H⟩ := H
        have e56 := p_X6_write c55
        obtain rfl := Option.some.inj H
        exact ((((e36.tr e41).tr e47).tr e52).tr e56)
      · replace H := ob H; obtain ⟨q58, c59, H⟩ := H
        have e60 := p_X6_takes c59
        replace H := oi H; obtain ⟨c62, H⟩ | ⟨c62, H⟩ := H
        · replace H := ob H; obtain ⟨q63, c64, H⟩ := H
          have e65 := hpc c64
          replace H := ob H; obtain ⟨q67, c68, H⟩ := H
          have e69 := p_X6_write c68
          obtain rfl := Option.some.inj H
          exact (((((e36.tr e41).tr e47).tr e60).tr e65).tr e69)
        · obtain rfl := Option.some.inj H
          exact (((e36.tr e41).tr e47).tr e60)
set_option maxHeartbeats 4000000 in
set_option maxRecDepth 20000 in
theorem t_X6_readNot {G : GE} {rc : Nat → Int32 → HS → Option HS} {dd : Nat} (hrc : RCX6 G dd rc) (hpc : RPX6 rc) (hB : 2 ≤ dd) {p1 : Int32} {h : HS} {q : HS} (hY : LY TX h) (H : g_X6_readNot rc p1 h = some q) : CE G (dd + 1) yX6_readNot miX6_readNot [.ref 39, .int p1] h (none) (q) := by
  unfold g_X6_readNot at H
  refine ce_of rfl (by decide) (fun q => by first | rfl | cases q) (Nat.le_of_ble_eq_true rfl) rfl ?_
  refine e_iload_n dX6_readNot_0 rfl ?_
  refine e_iconst (v := (5 : Int32)) dX6_readNot_1 (by decide) ?_
  refine e_icmp_ge (tgt := 30) dX6_readNot_2 (by decide) (fun c1 => ?_) (fun c1 => ?_)
  · replace H := ot c1 H
    refine g_aload_n dX6_readNot_30 rfl rfl ?_
    refine e_iload_n dX6_readNot_31 rfl ?_
    replace H := ob H; obtain ⟨q2, c3, H⟩ := H
    refine v0 (hY.t 7 rfl) (by decide) rfl rfl lmX6_149 liX6_readSum lvX6_X6_readSum msX6_readSum dX6_readNot_32 (hrc.X6_readSum hY c3) rfl (Nat.le_of_ble_eq_true rfl) (Nat.le_refl _) ?_
    have e4 := hpc c3
    have hY5 := hY.pr okX e4
    refine g_aload_n dX6_readNot_35 rfl rfl ?_
    replace H := ob H; obtain ⟨q6, c7, H⟩ := H
    refine v1 (hY5.t 7 rfl) (by decide) rfl rfl lmX6_152 liX6_token lvX6_X6_token msX6_token dX6_readNot_36 (t_X6_token (dd - 0) hY5 c7) rfl (Nat.le_of_ble_eq_true rfl) (by omega) ?_
    refine e_istore_n dX6_readNot_39 (Nat.le_of_ble_eq_true rfl) rfl rfl ?_
    refine g_aload_n dX6_readNot_40 rfl rfl ?_
    refine e_sipush (v := (10060 : Int32)) dX6_readNot_41 (by decide) ?_
    replace H := ob H; obtain ⟨q8, c9, H⟩ := H
    refine v1 (hY5.t 7 rfl) (by decide) rfl rfl lmX6_140 liX6_takes lvX6_X6_takes msX6_takes dX6_readNot_44 (t_X6_takes (dd - 1) hY5 c9) rfl (Nat.le_of_ble_eq_true rfl) (by omega) ?_
    have e10 := p_X6_takes c9
    have hY11 := hY5.pr okX e10
    refine e_ifB_ne (tgt := 60) dX6_readNot_47 (by decide) (fun c12 => ?_) (fun c12 => ?_)
    · replace H := ot c12 H
      refine g_aload_n dX6_readNot_60 rfl rfl ?_
      refine e_iload_n dX6_readNot_61 rfl ?_
      replace H := ob H; obtain ⟨q13, c14, H⟩ := H
      refine v0 (hY11.t 7 rfl) (by decide) rfl rfl lmX6_149 liX6_readSum lvX6_X6_readSum msX6_readSum dX6_readNot_62 (hrc.X6_readSum hY11 c14) rfl (Nat.le_of_ble_eq_true rfl) (Nat.le_refl _) ?_
      have e15 := hpc c14
      have hY16 := hY11.pr okX e15
      refine g_aload_n dX6_readNot_65 rfl rfl ?_
      refine e_iload_n dX6_readNot_66 rfl ?_
      replace H := ob H; obtain ⟨q17, c18, H⟩ := H
      refine v0 (hY16.t 7 rfl) (by decide) rfl rfl lmX6_143 liX6_write lvX6_X6_write msX6_write dX6_readNot_67 (t_X6_write (dd - 0) hY16 c18) rfl (Nat.le_of_ble_eq_true rfl) (by omega) ?_
      have e19 := p_X6_write c18
      have hY20 := hY16.pr okX e19
      obtain rfl := Option.some.inj H
      exact z_vret rfl dX6_readNot_70 rfl rfl
    · replace H := of_ (nb c12) H
      refine g_aload_n dX6_readNot_50 rfl rfl ?_
      refine e_sipush (v := (10061 : Int32)) dX6_readNot_51 (by decide) ?_
      replace H := ob H; obtain ⟨q21, c22, H⟩ := H
      refine v1 (hY11.t 7 rfl) (by decide) rfl rfl lmX6_140 liX6_takes lvX6_X6_takes msX6_takes dX6_readNot_54 (t_X6_takes (dd - 1) hY11 c22) rfl (Nat.le_of_ble_eq_true rfl) (by omega) ?_
      have e23 := p_X6_takes c22
      have hY24 := hY11.pr okX e23
      refine e_ifB_eq (tgt := 70) dX6_readNot_57 (by decide) (fun c25 => ?_) (fun c25 => ?_)
      · replace H := of_ (nb c25) H
        obtain rfl := Option.some.inj H
        exact z_vret rfl dX6_readNot_70 rfl rfl
      · replace H := ot c25 H
        refine g_aload_n dX6_readNot_60 rfl rfl ?_
        refine e_iload_n dX6_readNot_61 rfl ?_
        replace H := ob H; obtain ⟨q26, c27, H⟩ := H
        refine v0 (hY24.t 7 rfl) (by decide) rfl rfl lmX6_149 liX6_readSum lvX6_X6_readSum msX6_readSum dX6_readNot_62 (hrc.X6_readSum hY24 c27) rfl (Nat.le_of_ble_eq_true rfl) (Nat.le_refl _) ?_
        have e28 := hpc c27
        have hY29 := hY24.pr okX e28
        refine g_aload_n dX6_readNot_65 rfl rfl ?_
        refine e_iload_n dX6_readNot_66 rfl ?_
        replace H := ob H; obtain ⟨q30, c31, H⟩ := H
        refine v0 (hY29.t 7 rfl) (by decide) rfl rfl lmX6_143 liX6_write lvX6_X6_write msX6_write dX6_readNot_67 (t_X6_write (dd - 0) hY29 c31) rfl (Nat.le_of_ble_eq_true rfl) (by omega) ?_
        have e32 := p_X6_write c31
        have hY33 := hY29.pr okX e32
        obtain rfl := Option.some.inj H
        exact z_vret rfl dX6_readNot_70 rfl rfl
  · replace H := of_ c1 H
    refine g_aload_n dX6_readNot_5 rfl rfl ?_
    refine e_sipush (v := (10212 : Int32)) dX6_readNot_6 (by decide) ?_
    replace H := ob H; obtain ⟨q34, c35, H⟩ := H
    refine v1 (hY.t 7 rfl) (by decide) rfl rfl lmX6_140 liX6_takes lvX6_X6_takes msX6_takes dX6_readNot_9 (t_X6_takes (dd - 1) hY c35) rfl (Nat.le_of_ble_eq_true rfl) (by omega) ?_
    have e36 := p_X6_takes c35
    have hY37 := hY.pr okX e36
    refine e_ifB_eq (tgt := 30) dX6_readNot_12 (by decide) (fun c38 => ?_) (fun c38 => ?_)
    · replace H := of_ (nb c38) H
      refine g_aload_n dX6_readNot_30 rfl rfl ?_
      refine e_iload_n dX6_readNot_31 rfl ?_
      replace H := ob H; obtain ⟨q39, c40, H⟩ := H
      refine v0 (hY37.t 7 rfl) (by decide) rfl rfl lmX6_149 liX6_readSum lvX6_X6_readSum msX6_readSum dX6_readNot_32 (hrc.X6_readSum hY37 c40) rfl (Nat.le_of_ble_eq_true rfl) (Nat.le_refl _) ?_
      have e41 := hpc c40
      have hY42 := hY37.pr okX e41
      refine g_aload_n dX6_readNot_35 rfl rfl ?_
      replace H := ob H; obtain ⟨q43, c44, H⟩ := H
      refine v1 (hY42.t 7 rfl) (by decide) rfl rfl lmX6_152 liX6_token lvX6_X6_token msX6_token dX6_readNot_36 (t_X6_token (dd - 0) hY42 c44) rfl (Nat.le_of_ble_eq_true rfl) (by omega) ?_
      refine e_istore_n dX6_readNot_39 (Nat.le_of_ble_eq_true rfl) rfl rfl ?_
      refine g_aload_n dX6_readNot_40 rfl rfl ?_
      refine e_sipush (v := (10060 : Int32)) dX6_readNot_41 (by decide) ?_
      replace H := ob H; obtain ⟨q45, c46, H⟩ := H
      refine v1 (hY42.t 7 rfl) (by decide) rfl rfl lmX6_140 liX6_takes lvX6_X6_takes msX6_takes dX6_readNot_44 (t_X6_takes (dd - 1) hY42 c46) rfl (Nat.le_of_ble_eq_true rfl) (by omega) ?_
      have e47 := p_X6_takes c46
      have hY48 := hY42.pr okX e47
      refine e_ifB_ne (tgt := 60) dX6_readNot_47 (by decide) (fun c49 => ?_) (fun c49 => ?_)
      · replace H := ot c49 H
        refine g_aload_n dX6_readNot_60 rfl rfl ?_
        refine e_iload_n dX6_readNot_61 rfl ?_
        replace H := ob H; obtain ⟨q50, c51, H⟩ := H
        refine v0 (hY48.t 7 rfl) (by decide) rfl rfl lmX6_149 liX6_readSum lvX6_X6_readSum msX6_readSum dX6_readNot_62 (hrc.X6_readSum hY48 c51) rfl (Nat.le_of_ble_eq_true rfl) (Nat.le_refl _) ?_
        have e52 := hpc c51
        have hY53 := hY48.pr okX e52
        refine g_aload_n dX6_readNot_65 rfl rfl ?_
        refine e_iload_n dX6_readNot_66 rfl ?_
        replace H := ob H; obtain ⟨q54, c55, H⟩ := H
        refine v0 (hY53.t 7 rfl) (by decide) rfl rfl lmX6_143 liX6_write lvX6_X6_write msX6_write dX6_readNot_67 (t_X6_write (dd - 0) hY53 c55) rfl (Nat.le_of_ble_eq_true rfl) (by omega) ?_
        have e56 := p_X6_write c55
        have hY57 := hY53.pr okX e56
        obtain rfl := Option.some.inj H
        exact z_vret rfl dX6_readNot_70 rfl rfl
      · replace H := of_ (nb c49) H
        refine g_aload_n dX6_readNot_50 rfl rfl ?_
        refine e_sipush (v := (10061 : Int32)) dX6_readNot_51 (by decide) ?_
        replace H := ob H; obtain ⟨q58, c59, H⟩ := H
        refine v1 (hY48.t 7 rfl) (by decide) rfl rfl lmX6_140 liX6_takes lvX6_X6_takes msX6_takes dX6_readNot_54 (t_X6_takes (dd - 1) hY48 c59) rfl (Nat.le_of_ble_eq_true rfl) (by omega) ?_
        have e60 := p_X6_takes c59
        have hY61 := hY48.pr okX e60
        refine e_ifB_eq (tgt := 70) dX6_readNot_57 (by decide) (fun c62 => ?_) (fun c62 => ?_)
        · replace H := of_ (nb c62) H
          obtain rfl := Option.some.inj H
          exact z_vret rfl dX6_readNot_70 rfl rfl
        · replace H := ot c62 H
          refine g_aload_n dX6_readNot_60 rfl rfl ?_
          refine e_iload_n dX6_readNot_61 rfl ?_
          replace H := ob H; obtain ⟨q63, c64, H⟩ := H
          refine v0 (hY61.t 7 rfl) (by decide) rfl rfl lmX6_149 liX6_readSum lvX6_X6_readSum msX6_readSum dX6_readNot_62 (hrc.X6_readSum hY61 c64) rfl (Nat.le_of_ble_eq_true rfl) (Nat.le_refl _) ?_
          have e65 := hpc c64
          have hY66 := hY61.pr okX e65
          refine g_aload_n dX6_readNot_65 rfl rfl ?_
          refine e_iload_n dX6_readNot_66 rfl ?_
          replace H := ob H; obtain ⟨q67, c68, H⟩ := H
          refine v0 (hY66.t 7 rfl) (by decide) rfl rfl lmX6_143 liX6_write lvX6_X6_write msX6_write dX6_readNot_67 (t_X6_write (dd - 0) hY66 c68) rfl (Nat.le_of_ble_eq_true rfl) (by omega) ?_
          have e69 := p_X6_write c68
          have hY70 := hY66.pr okX e69
          obtain rfl := Option.some.inj H
          exact z_vret rfl dX6_readNot_70 rfl rfl
    · replace H := ot c38 H
      refine g_aload_n dX6_readNot_15 rfl rfl ?_
      refine e_iload_n dX6_readNot_16 rfl ?_
      refine e_iconst (v := (1 : Int32)) dX6_readNot_17 (by decide) ?_
      refine e_iadd dX6_readNot_18 ?_
      replace H := ob H; obtain ⟨q71, c72, H⟩ := H
      refine v0 (hY37.t 7 rfl) (by decide) rfl rfl lmX6_146 liX6_readNot lvX6_X6_readNot msX6_readNot dX6_readNot_19 (hrc.X6_readNot hY37 c72) rfl (Nat.le_of_ble_eq_true rfl) (Nat.le_refl _) ?_
      have e73 := hpc c72
      have hY74 := hY37.pr okX e73
      refine g_aload_n dX6_readNot_22 rfl rfl ?_
      refine e_sipush (v := (10212 : Int32)) dX6_readNot_23 (by decide) ?_
      replace H := ob H; obtain ⟨q75, c76, H⟩ := H
      refine v0 (hY74.t 7 rfl) (by decide) rfl rfl lmX6_143 liX6_write lvX6_X6_write msX6_write dX6_readNot_26 (t_X6_write (dd - 0) hY74 c76) rfl (Nat.le_of_ble_eq_true rfl) (by omega) ?_
      have e77 := p_X6_write c76
      have hY78 := hY74.pr okX e77
      obtain rfl := Option.some.inj H
      exact z_vret rfl dX6_readNot_29 rfl rfl
-- X6_readSum
def l_X6_readSum_12 (rc : Nat → Int32 → HS → Option HS) (y1 : Int32)  : Nat → Int32 → Int32 → HS → Option HS
  | 0, _, _, _ => none
  | n + 1, x2, x3, h => (if (160 : Int32) ≤ x3 then (some h) else (Option.bind (f_X6_takes (10043 : Int32) h) (fun q39 => (if q39.1 = true then (Option.bind (rc 4 y1 q39.2) (fun q44 => (Option.bind (f_X6_write x2 q44) (fun q48 => (Option.bind (f_X6_token q48) (fun q52 => (l_X6_readSum_12 rc y1 n q52 (x3 + (1 : Int32)) q48))))))) else (Option.bind (f_X6_takes (10045 : Int32) q39.2) (fun q54 => (if q54.1 = true then (Option.bind (rc 4 y1 q54.2) (fun q59 => (Option.bind (f_X6_write x2 q59) (fun q63 => (Option.bind (f_X6_token q63) (fun q67 => (l_X6_readSum_12 rc y1 n q67 (x3 + (1 : Int32)) q63))))))) else (some q54.2))))))))
set_option maxHeartbeats 4000000 in
set_option maxRecDepth 20000 in
theorem p_X6_readSum_12 {rc : Nat → Int32 → HS → Option HS} (hpc : RPX6 rc) {y1 : Int32} : ∀ (n : Nat) {x2 : Int32} {x3 : Int32} {h : HS} {q : HS}, l_X6_readSum_12 rc y1 n x2 x3 h = some q → Pr h q := by
  intro n
  induction n with
  | zero => intro x2 x3 h q H; exact nz H
  | succ n ih =>
    intro x2 x3 h q H
    unfold l_X6_readSum_12 at H
    replace H := oi H; obtain ⟨c38, H⟩ | ⟨c38, H⟩ := H
    · obtain rfl := Option.some.inj H
      exact Pr.rf
    · replace H := ob H; obtain ⟨q39, c40, H⟩ := H
      have e41 := p_X6_takes c40
      replace H := oi H; obtain ⟨c43, H⟩ | ⟨c43, H⟩ := H
      · replace H := ob H; obtain ⟨q44, c45, H⟩ := H
        have e46 := hpc c45
        replace H := ob H; obtain ⟨q48, c49, H⟩ := H
        have e50 := p_X6_write c49
        replace H := ob H; obtain ⟨q52, c53, H⟩ := H
        exact ((e41.tr e46).tr e50).tr (ih H)
      · replace H := ob H; obtain ⟨q54, c55, H⟩ := H
        have e56 := p_X6_takes c55
        replace H := oi H; obtain ⟨c58, H⟩ | ⟨c58, H⟩ := H
        · replace H := ob H; obtain ⟨q59, c60, H⟩ := H
          have e61 := hpc c60
          replace H := ob H; obtain ⟨q63, c64, H⟩ := H
          have e65 := p_X6_write c64
          replace H := ob H; obtain ⟨q67, c68, H⟩ := H
          exact (((e41.tr e56).tr e61).tr e65).tr (ih H)
        · obtain rfl := Option.some.inj H
          exact (e41.tr e56)
set_option maxHeartbeats 4000000 in
set_option maxRecDepth 20000 in
theorem w_X6_readSum_12 {G : GE} {rc : Nat → Int32 → HS → Option HS} {dd : Nat} (hrc : RCX6 G dd rc) (hpc : RPX6 rc) (hB : 2 ≤ dd) {y1 : Int32} {r : Option Value} {h' : HS}  : ∀ (n : Nat) {x2 : Int32} {x3 : Int32} {h : HS} {q : HS}, LY TX h → l_X6_readSum_12 rc y1 n x2 x3 h = some q → En G (dd + 1) miX6_readSum 60 [dum, dum, dum, dum] [] q r h' → En G (dd + 1) miX6_readSum 12 [.ref 39, .int y1, .int x2, .int x3] [] h r h' := by
  intro n
  induction n with
  | zero => intro x2 x3 h q hYTX H kE; exact nz H
  | succ n ih =>
    intro x2 x3 h q hYTX H kE
    unfold l_X6_readSum_12 at H
    refine e_iload_n dX6_readSum_12 rfl ?_
    refine e_sipush (v := (160 : Int32)) dX6_readSum_13 (by decide) ?_
    refine e_icmp_ge (tgt := 60) dX6_readSum_16 (by decide) (fun c38 => ?_) (fun c38 => ?_)
    · replace H := ot c38 H
      obtain rfl := Option.some.inj H
      exact e_wk (lk0 (lk0 (lk0 (lk0 lkn)))) kE
    · replace H := of_ c38 H
      refine g_aload_n dX6_readSum_19 rfl rfl ?_
      refine e_sipush (v := (10043 : Int32)) dX6_readSum_20 (by decide) ?_
      replace H := ob H; obtain ⟨q39, c40, H⟩ := H
      refine v1 (hYTX.t 7 rfl) (by decide) rfl rfl lmX6_140 liX6_takes lvX6_X6_takes msX6_takes dX6_readSum_23 (t_X6_takes (dd - 1) hYTX c40) rfl (Nat.le_of_ble_eq_true rfl) (by omega) ?_
      have e41 := p_X6_takes c40
      have hY42 := hYTX.pr okX e41
      refine e_ifB_ne (tgt := 39) dX6_readSum_26 (by decide) (fun c43 => ?_) (fun c43 => ?_)
      · replace H := ot c43 H
        refine g_aload_n dX6_readSum_39 rfl rfl ?_
        refine e_iload_n dX6_readSum_40 rfl ?_
        replace H := ob H; obtain ⟨q44, c45, H⟩ := H
        refine v0 (hY42.t 7 rfl) (by decide) rfl rfl lmX6_155 liX6_readTerm lvX6_X6_readTerm msX6_readTerm dX6_readSum_41 (hrc.X6_readTerm hY42 c45) rfl (Nat.le_of_ble_eq_true rfl) (Nat.le_refl _) ?_
        have e46 := hpc c45
        have hY47 := hY42.pr okX e46
        refine g_aload_n dX6_readSum_44 rfl rfl ?_
        refine e_iload_n dX6_readSum_45 rfl ?_
        replace H := ob H; obtain ⟨q48, c49, H⟩ := H
        refine v0 (hY47.t 7 rfl) (by decide) rfl rfl lmX6_143 liX6_write lvX6_X6_write msX6_write dX6_readSum_46 (t_X6_write (dd - 0) hY47 c49) rfl (Nat.le_of_ble_eq_true rfl) (by omega) ?_
        have e50 := p_X6_write c49
        have hY51 := hY47.pr okX e50
        refine g_aload_n dX6_readSum_49 rfl rfl ?_
        replace H := ob H; obtain ⟨q52, c53, H⟩ := H
        refine v1 (hY51.t 7 rfl) (by decide) rfl rfl lmX6_152 liX6_token lvX6_X6_token msX6_token dX6_readSum_50 (t_X6_token (dd - 0) hY51 c53) rfl (Nat.le_of_ble_eq_true rfl) (by omega) ?_
        refine e_istore_n dX6_readSum_53 (Nat.le_of_ble_eq_true rfl) rfl rfl ?_
        refine e_iinc dX6_readSum_54 rfl (ii_ (by decide : Int32.ofInt (1) = (1 : Int32))) (Nat.le_of_ble_eq_true rfl) rfl rfl ?_
        refine e_goto (tgt := 12) dX6_readSum_57 (by decide) ?_
        exact e_wk (lk1 (lk1 (lk1 (lk1 lkn)))) (ih hY51 H kE)
      · replace H := of_ (nb c43) H
        refine g_aload_n dX6_readSum_29 rfl rfl ?_
        refine e_sipush (v := (10045 : Int32)) dX6_readSum_30 (by decide) ?_
        replace H := ob H; obtain ⟨q54, c55, H⟩ := H
        refine v1 (hY42.t 7 rfl) (by decide) rfl rfl lmX6_140 liX6_takes lvX6_X6_takes msX6_takes dX6_readSum_33 (t_X6_takes (dd - 1) hY42 c55) rfl (Nat.le_of_ble_eq_true rfl) (by omega) ?_
        have e56 := p_X6_takes c55
        have hY57 := hY42.pr okX e56
        refine e_ifB_eq (tgt := 60) dX6_readSum_36 (by decide) (fun c58 => ?_) (fun c58 => ?_)
        · replace H := of_ (nb c58) H
          obtain rfl := Option.some.inj H
          exact e_wk (lk0 (lk0 (lk0 (lk0 lkn)))) kE
        · replace H := ot c58 H
          refine g_aload_n dX6_readSum_39 rfl rfl ?_
          refine e_iload_n dX6_readSum_40 rfl ?_
          replace H := ob H; obtain ⟨q59, c60, H⟩ := H
          refine v0 (hY57.t 7 rfl) (by decide) rfl rfl lmX6_155 liX6_readTerm lvX6_X6_readTerm msX6_readTerm dX6_readSum_41 (hrc.X6_readTerm hY57 c60) rfl (Nat.le_of_ble_eq_true rfl) (Nat.le_refl _) ?_
          have e61 := hpc c60
          have hY62 := hY57.pr okX e61
          refine g_aload_n dX6_readSum_44 rfl rfl ?_
          refine e_iload_n dX6_readSum_45 rfl ?_
          replace H := ob H; obtain ⟨q63, c64, H⟩ := H
          refine v0 (hY62.t 7 rfl) (by decide) rfl rfl lmX6_143 liX6_write lvX6_X6_write msX6_write dX6_readSum_46 (t_X6_write (dd - 0) hY62 c64) rfl (Nat.le_of_ble_eq_true rfl) (by omega) ?_
          have e65 := p_X6_write c64
          have hY66 := hY62.pr okX e65
          refine g_aload_n dX6_readSum_49 rfl rfl ?_
          replace H := ob H; obtain ⟨q67, c68, H⟩ := H
          refine v1 (hY66.t 7 rfl) (by decide) rfl rfl lmX6_152 liX6_token lvX6_X6_token msX6_token dX6_readSum_50 (t_X6_token (dd - 0) hY66 c68) rfl (Nat.le_of_ble_eq_true rfl) (by omega) ?_
          refine e_istore_n dX6_readSum_53 (Nat.le_of_ble_eq_true rfl) rfl rfl ?_
          refine e_iinc dX6_readSum_54 rfl (ii_ (by decide : Int32.ofInt (1) = (1 : Int32))) (Nat.le_of_ble_eq_true rfl) rfl rfl ?_
          refine e_goto (tgt := 12) dX6_readSum_57 (by decide) ?_
          exact e_wk (lk1 (lk1 (lk1 (lk1 lkn)))) (ih hY66 H kE)
def g_X6_readSum (rc : Nat → Int32 → HS → Option HS) (p1 : Int32) (h : HS) : Option HS := (Option.bind (rc 4 p1 h) (fun q1 => (Option.bind (f_X6_token q1) (fun q5 => (Option.bind (l_X6_readSum_12 rc p1 1000 q5 (0 : Int32) q1) (fun q69 => (some q69)))))))
set_option maxHeartbeats 4000000 in
set_option maxRecDepth 20000 in
theorem p_X6_readSum {rc : Nat → Int32 → HS → Option HS} (hpc : RPX6 rc) {p1 : Int32} {h : HS} {q : HS} (H : g_X6_readSum rc p1 h = some q) : Pr h q := by
  unfold g_X6_readSum at H
  replace H := ob H; obtain ⟨q1, c2, H⟩ := H
  have e3 := hpc c2
  replace H := ob H; obtain ⟨q5, c6, H⟩ := H
  replace H := ob H; obtain ⟨q69, c70, H⟩ := H
  have e71 := p_X6_readSum_12 hpc 1000 c70
  obtain rfl := Option.some.inj H
  exact (e3.tr e71)
set_option maxHeartbeats 4000000 in
set_option maxRecDepth 20000 in
theorem t_X6_readSum {G : GE} {rc : Nat → Int32 → HS → Option HS} {dd : Nat} (hrc : RCX6 G dd rc) (hpc : RPX6 rc) (hB : 2 ≤ dd) {p1 : Int32} {h : HS} {q : HS} (hY : LY TX h) (H : g_X6_readSum rc p1 h = some q) : CE G (dd + 1) yX6_readSum miX6_readSum [.ref 39, .int p1] h (none) (q) := by
  unfold g_X6_readSum at H
  refine ce_of rfl (by decide) (fun q => by first | rfl | cases q) (Nat.le_of_ble_eq_true rfl) rfl ?_
  refine g_aload_n dX6_readSum_0 rfl rfl ?_
  refine e_iload_n dX6_readSum_1 rfl ?_
  replace H := ob H; obtain ⟨q1, c2, H⟩ := H
  refine v0 (hY.t 7 rfl) (by decide) rfl rfl lmX6_155 liX6_readTerm lvX6_X6_readTerm msX6_readTerm dX6_readSum_2 (hrc.X6_readTerm hY c2) rfl (Nat.le_of_ble_eq_true rfl) (Nat.le_refl _) ?_
  have e3 := hpc c2
  have hY4 := hY.pr okX e3
  refine g_aload_n dX6_readSum_5 rfl rfl ?_
  replace H := ob H; obtain ⟨q5, c6, H⟩ := H
  refine v1 (hY4.t 7 rfl) (by decide) rfl rfl lmX6_152 liX6_token lvX6_X6_token msX6_token dX6_readSum_6 (t_X6_token (dd - 0) hY4 c6) rfl (Nat.le_of_ble_eq_true rfl) (by omega) ?_
  refine e_istore_n dX6_readSum_9 (Nat.le_of_ble_eq_true rfl) rfl rfl ?_
  refine e_iconst (v := (0 : Int32)) dX6_readSum_10 (by decide) ?_
  refine e_istore_n dX6_readSum_11 (Nat.le_of_ble_eq_true rfl) rfl rfl ?_
  replace H := ob H; obtain ⟨q69, c70, H⟩ := H
  have e71 := p_X6_readSum_12 hpc 1000 c70
  have hY72 := hY4.pr okX e71
  refine e_wk (lk1 (lk1 (lk1 (lk1 lkn)))) (w_X6_readSum_12 hrc hpc hB 1000 hY4 c70 ?_)
  obtain rfl := Option.some.inj H
  exact z_vret rfl dX6_readSum_60 rfl rfl
-- X6_readTerm
def l_X6_readTerm_7 (rc : Nat → Int32 → HS → Option HS) (y1 : Int32)  : Nat → Int32 → HS → Option HS
  | 0, _, _ => none
  | n + 1, x2, h => (if (160 : Int32) ≤ x2 then (some h) else (Option.bind (f_X6_takes (10042 : Int32) h) (fun q20 => (if q20.1 = true then (Option.bind (rc 5 y1 q20.2) (fun q25 => (Option.bind (f_X6_write (10042 : Int32) q25) (fun q29 => (l_X6_readTerm_7 rc y1 n (x2 + (1 : Int32)) q29))))) else (some q20.2)))))
set_option maxHeartbeats 4000000 in
set_option maxRecDepth 20000 in
theorem p_X6_readTerm_7 {rc : Nat → Int32 → HS → Option HS} (hpc : RPX6 rc) {y1 : Int32} : ∀ (n : Nat) {x2 : Int32} {h : HS} {q : HS}, l_X6_readTerm_7 rc y1 n x2 h = some q → Pr h q := by
  intro n
  induction n with
  | zero => intro x2 h q H; exact nz H
  | succ n ih =>
    intro x2 h q H
    unfold l_X6_readTerm_7 at H
    replace H := oi H; obtain ⟨c19, H⟩ | ⟨c19, H⟩ := H
    · obtain rfl := Option.some.inj H
      exact Pr.rf
    · replace H := ob H; obtain ⟨q20, c21, H⟩ := H
      have e22 := p_X6_takes c21
      replace H := oi H; obtain ⟨c24, H⟩ | ⟨c24, H⟩ := H
      · replace H := ob H; obtain ⟨q25, c26, H⟩ := H
        have e27 := hpc c26
        replace H := ob H; obtain ⟨q29, c30, H⟩ := H
        have e31 := p_X6_write c30
        exact ((e22.tr e27).tr e31).tr (ih H)
      · obtain rfl := Option.some.inj H
        exact e22
set_option maxHeartbeats 4000000 in
set_option maxRecDepth 20000 in
theorem w_X6_readTerm_7 {G : GE} {rc : Nat → Int32 → HS → Option HS} {dd : Nat} (hrc : RCX6 G dd rc) (hpc : RPX6 rc) (hB : 2 ≤ dd) {y1 : Int32} {r : Option Value} {h' : HS}  : ∀ (n : Nat) {x2 : Int32} {h : HS} {q : HS}, LY TX h → l_X6_readTerm_7 rc y1 n x2 h = some q → En G (dd + 1) miX6_readTerm 42 [dum, dum, dum] [] q r h' → En G (dd + 1) miX6_readTerm 7 [.ref 39, .int y1, .int x2] [] h r h' := by
  intro n
  induction n with
  | zero => intro x2 h q hYTX H kE; exact nz H
  | succ n ih =>
    intro x2 h q hYTX H kE
    unfold l_X6_readTerm_7 at H
    refine e_iload_n dX6_readTerm_7 rfl ?_
    refine e_sipush (v := (160 : Int32)) dX6_readTerm_8 (by decide) ?_
    refine e_icmp_ge (tgt := 42) dX6_readTerm_11 (by decide) (fun c19 => ?_) (fun c19 => ?_)
    · replace H := ot c19 H
      obtain rfl := Option.some.inj H
      exact e_wk (lk0 (lk0 (lk0 lkn))) kE
    · replace H := of_ c19 H
      refine g_aload_n dX6_readTerm_14 rfl rfl ?_
      refine e_sipush (v := (10042 : Int32)) dX6_readTerm_15 (by decide) ?_
      replace H := ob H; obtain ⟨q20, c21, H⟩ := H
      refine v1 (hYTX.t 7 rfl) (by decide) rfl rfl lmX6_140 liX6_takes lvX6_X6_takes msX6_takes dX6_readTerm_18 (t_X6_takes (dd - 1) hYTX c21) rfl (Nat.le_of_ble_eq_true rfl) (by omega) ?_
      have e22 := p_X6_takes c21
      have hY23 := hYTX.pr okX e22
      refine e_ifB_eq (tgt := 42) dX6_readTerm_21 (by decide) (fun c24 => ?_) (fun c24 => ?_)
      · replace H := of_ (nb c24) H
        obtain rfl := Option.some.inj H
        exact e_wk (lk0 (lk0 (lk0 lkn))) kE
      · replace H := ot c24 H
        refine g_aload_n dX6_readTerm_24 rfl rfl ?_
        refine e_iload_n dX6_readTerm_25 rfl ?_
        replace H := ob H; obtain ⟨q25, c26, H⟩ := H
        refine v0 (hY23.t 7 rfl) (by decide) rfl rfl lmX6_158 liX6_readOne lvX6_X6_readOne msX6_readOne dX6_readTerm_26 (hrc.X6_readOne hY23 c26) rfl (Nat.le_of_ble_eq_true rfl) (Nat.le_refl _) ?_
        have e27 := hpc c26
        have hY28 := hY23.pr okX e27
        refine g_aload_n dX6_readTerm_29 rfl rfl ?_
        refine e_sipush (v := (10042 : Int32)) dX6_readTerm_30 (by decide) ?_
        replace H := ob H; obtain ⟨q29, c30, H⟩ := H
        refine v0 (hY28.t 7 rfl) (by decide) rfl rfl lmX6_143 liX6_write lvX6_X6_write msX6_write dX6_readTerm_33 (t_X6_write (dd - 0) hY28 c30) rfl (Nat.le_of_ble_eq_true rfl) (by omega) ?_
        have e31 := p_X6_write c30
        have hY32 := hY28.pr okX e31
        refine e_iinc dX6_readTerm_36 rfl (ii_ (by decide : Int32.ofInt (1) = (1 : Int32))) (Nat.le_of_ble_eq_true rfl) rfl rfl ?_
        refine e_goto (tgt := 7) dX6_readTerm_39 (by decide) ?_
        exact e_wk (lk1 (lk1 (lk1 lkn))) (ih hY32 H kE)
def g_X6_readTerm (rc : Nat → Int32 → HS → Option HS) (p1 : Int32) (h : HS) : Option HS := (Option.bind (rc 5 p1 h) (fun q1 => (Option.bind (l_X6_readTerm_7 rc p1 1000 (0 : Int32) q1) (fun q33 => (some q33)))))
set_option maxHeartbeats 4000000 in
set_option maxRecDepth 20000 in
theorem p_X6_readTerm {rc : Nat → Int32 → HS → Option HS} (hpc : RPX6 rc) {p1 : Int32} {h : HS} {q : HS} (H : g_X6_readTerm rc p1 h = some q) : Pr h q := by
  unfold g_X6_readTerm at H
  replace H := ob H; obtain ⟨q1, c2, H⟩ := H
  have e3 := hpc c2
  replace H := ob H; obtain ⟨q33, c34, H⟩ := H
  have e35 := p_X6_readTerm_7 hpc 1000 c34
  obtain rfl := Option.some.inj H
  exact (e3.tr e35)
set_option maxHeartbeats 4000000 in
set_option maxRecDepth 20000 in
theorem t_X6_readTerm {G : GE} {rc : Nat → Int32 → HS → Option HS} {dd : Nat} (hrc : RCX6 G dd rc) (hpc : RPX6 rc) (hB : 2 ≤ dd) {p1 : Int32} {h : HS} {q : HS} (hY : LY TX h) (H : g_X6_readTerm rc p1 h = some q) : CE G (dd + 1) yX6_readTerm miX6_readTerm [.ref 39, .int p1] h (none) (q) := by
  unfold g_X6_readTerm at H
  refine ce_of rfl (by decide) (fun q => by first | rfl | cases q) (Nat.le_of_ble_eq_true rfl) rfl ?_
  refine g_aload_n dX6_readTerm_0 rfl rfl ?_
  refine e_iload_n dX6_readTerm_1 rfl ?_
  replace H := ob H; obtain ⟨q1, c2, H⟩ := H
  refine v0 (hY.t 7 rfl) (by decide) rfl rfl lmX6_158 liX6_readOne lvX6_X6_readOne msX6_readOne dX6_readTerm_2 (hrc.X6_readOne hY c2) rfl (Nat.le_of_ble_eq_true rfl) (Nat.le_refl _) ?_
  have e3 := hpc c2
  have hY4 := hY.pr okX e3
  refine e_iconst (v := (0 : Int32)) dX6_readTerm_5 (by decide) ?_
  refine e_istore_n dX6_readTerm_6 (Nat.le_of_ble_eq_true rfl) rfl rfl ?_
  replace H := ob H; obtain ⟨q33, c34, H⟩ := H
  have e35 := p_X6_readTerm_7 hpc 1000 c34
  have hY36 := hY4.pr okX e35
  refine e_wk (lk1 (lk1 (lk1 lkn))) (w_X6_readTerm_7 hrc hpc hB 1000 hY4 c34 ?_)
  obtain rfl := Option.some.inj H
  exact z_vret rfl dX6_readTerm_42 rfl rfl
-- X6_readOne
def g_X6_readOne (rc : Nat → Int32 → HS → Option HS) (p1 : Int32) (h : HS) : Option HS := (Option.bind (f_X6_token h) (fun q1 => (Option.bind (f_X6_isValue q1) (fun q3 => (if q3 = true then (Option.bind (f_X6_takes q1 h) (fun q64 => (if q64.1 = true then (Option.bind (f_X6_write q1 q64.2) (fun q127 => (some q127))) else (if (5 : Int32) ≤ p1 then (if (5 : Int32) ≤ p1 then (Option.bind (f_X6_refuse q64.2) (fun q71 => (some q71))) else (Option.bind (f_X6_takes (10040 : Int32) q64.2) (fun q75 => (if q75.1 = true then (Option.bind (rc 0 (p1 + (1 : Int32)) q75.2) (fun q84 => (Option.bind (f_X6_ask (10041 : Int32) q84) (fun q88 => (some q88))))) else (Option.bind (f_X6_refuse q75.2) (fun q80 => (some q80))))))) else (Option.bind (f_X6_takes (10045 : Int32) q64.2) (fun q92 => (if q92.1 = true then (Option.bind (rc 5 (p1 + (1 : Int32)) q92.2) (fun q119 => (Option.bind (f_X6_write (10001 : Int32) q119) (fun q123 => (some q123))))) else (if (5 : Int32) ≤ p1 then (Option.bind (f_X6_refuse q92.2) (fun q98 => (some q98))) else (Option.bind (f_X6_takes (10040 : Int32) q92.2) (fun q102 => (if q102.1 = true then (Option.bind (rc 0 (p1 + (1 : Int32)) q102.2) (fun q111 => (Option.bind (f_X6_ask (10041 : Int32) q111) (fun q115 => (some q115))))) else (Option.bind (f_X6_refuse q102.2) (fun q107 => (some q107)))))))))))))) else (if (5 : Int32) ≤ p1 then (if (5 : Int32) ≤ p1 then (Option.bind (f_X6_refuse h) (fun q8 => (some q8))) else (Option.bind (f_X6_takes (10040 : Int32) h) (fun q12 => (if q12.1 = true then (Option.bind (rc 0 (p1 + (1 : Int32)) q12.2) (fun q21 => (Option.bind (f_X6_ask (10041 : Int32) q21) (fun q25 => (some q25))))) else (Option.bind (f_X6_refuse q12.2) (fun q17 => (some q17))))))) else (Option.bind (f_X6_takes (10045 : Int32) h) (fun q29 => (if q29.1 = true then (Option.bind (rc 5 (p1 + (1 : Int32)) q29.2) (fun q56 => (Option.bind (f_X6_write (10001 : Int32) q56) (fun q60 => (some q60))))) else (if (5 : Int32) ≤ p1 then (Option.bind (f_X6_refuse q29.2) (fun q35 => (some q35))) else (Option.bind (f_X6_takes (10040 : Int32) q29.2) (fun q39 => (if q39.1 = true then (Option.bind (rc 0 (p1 + (1 : Int32)) q39.2) (fun q48 => (Option.bind (f_X6_ask (10041 : Int32) q48) (fun q52 => (some q52))))) else (Option.bind (f_X6_refuse q39.2) (fun q44 => (some q44))))))))))))))))
set_option maxHeartbeats 4000000 in
set_option maxRecDepth 20000 in
theorem p_X6_readOne {rc : Nat → Int32 → HS → Option HS} (hpc : RPX6 rc) {p1 : Int32} {h : HS} {q : HS} (H : g_X6_readOne rc p1 h = some q) : Pr h q := by
  unfold g_X6_readOne at H
  replace H := ob H; obtain ⟨q1, c2, H⟩ := H
  replace H := ob H; obtain ⟨q3, c4, H⟩ := H
  replace H := oi H; obtain ⟨c5, H⟩ | ⟨c5, H⟩ := H
  · replace H := ob H; obtain ⟨q64, c65, H⟩ := H
    have e66 := p_X6_takes c65
    replace H := oi H; obtain ⟨c68, H⟩ | ⟨c68, H⟩ := H
    · replace H := ob H; obtain ⟨q127, c128, H⟩ := H
      have e129 := p_X6_write c128
      obtain rfl := Option.some.inj H
      exact (e66.tr e129)
    · replace H := oi H; obtain ⟨c69, H⟩ | ⟨c69, H⟩ := H
      · replace H := oi H; obtain ⟨c70, H⟩ | ⟨c70, H⟩ := H
        · replace H := ob H; obtain ⟨q71, c72, H⟩ := H
          have e73 := p_X6_refuse c72
          obtain rfl := Option.some.inj H
          exact (e66.tr e73)
        · replace H := ob H; obtain ⟨q75, c76, H⟩ := H
          have e77 := p_X6_takes c76
          replace H := oi H; obtain ⟨c79, H⟩ | ⟨c79, H⟩ := H
          · replace H := ob H; obtain ⟨q84, c85, H⟩ := H
            have e86 := hpc c85
            replace H := ob H; obtain ⟨q88, c89, H⟩ := H
            have e90 := p_X6_ask c89
            obtain rfl := Option.some.inj H
            exact (((e66.tr e77).tr e86).tr e90)
          · replace H := ob H; obtain ⟨q80, c81, H⟩ := H
            have e82 := p_X6_refuse c81
            obtain rfl := Option.some.inj H
            exact ((e66.tr e77).tr e82)
      · replace H := ob H; obtain ⟨q92, c93, H⟩ := H
        have e94 := p_X6_takes c93
        replace H := oi H; obtain ⟨c96, H⟩ | ⟨c96, H⟩ := H
        · replace H := ob H; obtain ⟨q119, c120, H⟩ := H
          have e121 := hpc c120
          replace H := ob H; obtain ⟨q123, c124, H⟩ := H
          have e125 := p_X6_write c124
          obtain rfl := Option.some.inj H
          exact (((e66.tr e94).tr e121).tr e125)
        · replace H := oi H; obtain ⟨c97, H⟩ | ⟨c97, H⟩ := H
          · replace H := ob H; obtain ⟨q98, c99, H⟩ := H
            have e100 := p_X6_refuse c99
            obtain rfl := Option.some.inj H
            exact ((e66.tr e94).tr e100)
          · replace H := ob H; obtain ⟨q102, c103, H⟩ := H
            have e104 := p_X6_takes c103
            replace H := oi H; obtain ⟨c106, H⟩ | ⟨c106, H⟩ := H
            · replace H := ob H; obtain ⟨q111, c112, H⟩ := H
              have e113 := hpc c112
              replace H := ob H; obtain ⟨q115, c116, H⟩ := H
              have e117 := p_X6_ask c116
              obtain rfl := Option.some.inj H
              exact ((((e66.tr e94).tr e104).tr e113).tr e117)
            · replace H := ob H; obtain ⟨q107, c108, H⟩ := H
              have e109 := p_X6_refuse c108
              obtain rfl := Option.some.inj H
              exact (((e66.tr e94).tr e104).tr e109)
  · replace H := oi H; obtain ⟨c6, H⟩ | ⟨c6, H⟩ := H
    · replace H := oi H; obtain ⟨c7, H⟩ | ⟨c7, H⟩ := H
      · replace H := ob H; obtain ⟨q8, c9, H⟩ := H
        have e10 := p_X6_refuse c9
        obtain rfl := Option.some.inj H
        exact e10
      · replace H := ob H; obtain ⟨q12, c13, H⟩ := H
        have e14 := p_X6_takes c13
        replace H := oi H; obtain ⟨c16, H⟩ | ⟨c16, H⟩ := H
        · replace H := ob H; obtain ⟨q21, c22, H⟩ := H
          have e23 := hpc c22
          replace H := ob H; obtain ⟨q25, c26, H⟩ := H
          have e27 := p_X6_ask c26
          obtain rfl := Option.some.inj H
          exact ((e14.tr e23).tr e27)
        · replace H := ob H; obtain ⟨q17, c18, H⟩ := H
          have e19 := p_X6_refuse c18
          obtain rfl := Option.some.inj H
          exact (e14.tr e19)
    · replace H := ob H; obtain ⟨q29, c30, H⟩ := H
      have e31 := p_X6_takes c30
      replace H := oi H; obtain ⟨c33, H⟩ | ⟨c33, H⟩ := H
      · replace H := ob H; obtain ⟨q56, c57, H⟩ := H
        have e58 := hpc c57
        replace H := ob H; obtain ⟨q60, c61, H⟩ := H
        have e62 := p_X6_write c61
        obtain rfl := Option.some.inj H
        exact ((e31.tr e58).tr e62)
      · replace H := oi H; obtain ⟨c34, H⟩ | ⟨c34, H⟩ := H
        · replace H := ob H; obtain ⟨q35, c36, H⟩ := H
          have e37 := p_X6_refuse c36
          obtain rfl := Option.some.inj H
          exact (e31.tr e37)
        · replace H := ob H; obtain ⟨q39, c40, H⟩ := H
          have e41 := p_X6_takes c40
          replace H := oi H; obtain ⟨c43, H⟩ | ⟨c43, H⟩ := H
          · replace H := ob H; obtain ⟨q48, c49, H⟩ := H
            have e50 := hpc c49
            replace H := ob H; obtain ⟨q52, c53, H⟩ := H
            have e54 := p_X6_ask c53
            obtain rfl := Option.some.inj H
            exact (((e31.tr e41).tr e50).tr e54)
          · replace H := ob H; obtain ⟨q44, c45, H⟩ := H
            have e46 := p_X6_refuse c45
            obtain rfl := Option.some.inj H
            exact ((e31.tr e41).tr e46)
set_option maxHeartbeats 4000000 in
set_option maxRecDepth 20000 in
theorem t_X6_readOne {G : GE} {rc : Nat → Int32 → HS → Option HS} {dd : Nat} (hrc : RCX6 G dd rc) (hpc : RPX6 rc) (hB : 2 ≤ dd) {p1 : Int32} {h : HS} {q : HS} (hY : LY TX h) (H : g_X6_readOne rc p1 h = some q) : CE G (dd + 1) yX6_readOne miX6_readOne [.ref 39, .int p1] h (none) (q) := by
  unfold g_X6_readOne at H
  refine ce_of rfl (by decide) (fun q => by first | rfl | cases q) (Nat.le_of_ble_eq_true rfl) rfl ?_
  refine g_aload_n dX6_readOne_0 rfl rfl ?_
  replace H := ob H; obtain ⟨q1, c2, H⟩ := H
  refine v1 (hY.t 7 rfl) (by decide) rfl rfl lmX6_152 liX6_token lvX6_X6_token msX6_token dX6_readOne_1 (t_X6_token (dd - 0) hY c2) rfl (Nat.le_of_ble_eq_true rfl) (by omega) ?_
  refine e_istore_n dX6_readOne_4 (Nat.le_of_ble_eq_true rfl) rfl rfl ?_
  refine e_iload_n dX6_readOne_5 rfl ?_
  replace H := ob H; obtain ⟨q3, c4, H⟩ := H
  refine s1 lmX6_161 lsX6_isValue msX6_isValue dX6_readOne_6 (t_X6_isValue (dd - 0) c4) rfl (Nat.le_of_ble_eq_true rfl) (by omega) ?_
  refine e_ifB_eq (tgt := 28) dX6_readOne_9 (by decide) (fun c5 => ?_) (fun c5 => ?_)
  · replace H := of_ (nb c5) H
    refine e_iload_n dX6_readOne_28 rfl ?_
    refine e_iconst (v := (5 : Int32)) dX6_readOne_29 (by decide) ?_
    refine e_icmp_ge (tgt := 60) dX6_readOne_30 (by decide) (fun c6 => ?_) (fun c6 => ?_)
    · replace H := ot c6 H
      refine e_iload_n dX6_readOne_60 rfl ?_
      refine e_iconst (v := (5 : Int32)) dX6_readOne_61 (by decide) ?_
      refine e_icmp_ge (tgt := 92) dX6_readOne_62 (by decide) (fun c7 => ?_) (fun c7 => ?_)
      · replace H := ot c7 H
        refine g_aload_n dX6_readOne_92 rfl rfl ?_
        replace H := ob H; obtain ⟨q8, c9, H⟩ := H
        refine v0 (hY.t 7 rfl) (by decide) rfl rfl lmX6_164 liX6_refuse lvX6_X6_refuse msX6_refuse dX6_readOne_93 (t_X6_refuse (dd - 0) hY c9) rfl (Nat.le_of_ble_eq_true rfl) (by omega) ?_
        have e10 := p_X6_refuse c9
        have hY11 := hY.pr okX e10
        obtain rfl := Option.some.inj H
        exact z_vret rfl dX6_readOne_96 rfl rfl
      · replace H := of_ c7 H
        refine g_aload_n dX6_readOne_65 rfl rfl ?_
        refine e_sipush (v := (10040 : Int32)) dX6_readOne_66 (by decide) ?_
        replace H := ob H; obtain ⟨q12, c13, H⟩ := H
        refine v1 (hY.t 7 rfl) (by decide) rfl rfl lmX6_140 liX6_takes lvX6_X6_takes msX6_takes dX6_readOne_69 (t_X6_takes (dd - 1) hY c13) rfl (Nat.le_of_ble_eq_true rfl) (by omega) ?_
        have e14 := p_X6_takes c13
        have hY15 := hY.pr okX e14
        refine e_ifB_eq (tgt := 92) dX6_readOne_72 (by decide) (fun c16 => ?_) (fun c16 => ?_)
        · replace H := of_ (nb c16) H
          refine g_aload_n dX6_readOne_92 rfl rfl ?_
          replace H := ob H; obtain ⟨q17, c18, H⟩ := H
          refine v0 (hY15.t 7 rfl) (by decide) rfl rfl lmX6_164 liX6_refuse lvX6_X6_refuse msX6_refuse dX6_readOne_93 (t_X6_refuse (dd - 0) hY15 c18) rfl (Nat.le_of_ble_eq_true rfl) (by omega) ?_
          have e19 := p_X6_refuse c18
          have hY20 := hY15.pr okX e19
          obtain rfl := Option.some.inj H
          exact z_vret rfl dX6_readOne_96 rfl rfl
        · replace H := ot c16 H
          refine g_aload_n dX6_readOne_75 rfl rfl ?_
          refine e_iload_n dX6_readOne_76 rfl ?_
          refine e_iconst (v := (1 : Int32)) dX6_readOne_77 (by decide) ?_
          refine e_iadd dX6_readOne_78 ?_
          replace H := ob H; obtain ⟨q21, c22, H⟩ := H
          refine v0 (hY15.t 7 rfl) (by decide) rfl rfl lmX6_134 liX6_readAny lvX6_X6_readAny msX6_readAny dX6_readOne_79 (hrc.X6_readAny hY15 c22) rfl (Nat.le_of_ble_eq_true rfl) (Nat.le_refl _) ?_
          have e23 := hpc c22
          have hY24 := hY15.pr okX e23
          refine g_aload_n dX6_readOne_82 rfl rfl ?_
          refine e_sipush (v := (10041 : Int32)) dX6_readOne_83 (by decide) ?_
          replace H := ob H; obtain ⟨q25, c26, H⟩ := H
          refine v0 (hY24.t 7 rfl) (by decide) rfl rfl lmX6_60 liX6_ask lvX6_X6_ask msX6_ask dX6_readOne_86 (t_X6_ask (dd - 2) hY24 c26) rfl (Nat.le_of_ble_eq_true rfl) (by omega) ?_
          have e27 := p_X6_ask c26
          have hY28 := hY24.pr okX e27
          refine e_goto (tgt := 96) dX6_readOne_89 (by decide) ?_
          obtain rfl := Option.some.inj H
          exact z_vret rfl dX6_readOne_96 rfl rfl
    · replace H := of_ c6 H
      refine g_aload_n dX6_readOne_33 rfl rfl ?_
      refine e_sipush (v := (10045 : Int32)) dX6_readOne_34 (by decide) ?_
      replace H := ob H; obtain ⟨q29, c30, H⟩ := H
      refine v1 (hY.t 7 rfl) (by decide) rfl rfl lmX6_140 liX6_takes lvX6_X6_takes msX6_takes dX6_readOne_37 (t_X6_takes (dd - 1) hY c30) rfl (Nat.le_of_ble_eq_true rfl) (by omega) ?_
      have e31 := p_X6_takes c30
      have hY32 := hY.pr okX e31
      refine e_ifB_eq (tgt := 60) dX6_readOne_40 (by decide) (fun c33 => ?_) (fun c33 => ?_)
      · replace H := of_ (nb c33) H
        refine e_iload_n dX6_readOne_60 rfl ?_
        refine e_iconst (v := (5 : Int32)) dX6_readOne_61 (by decide) ?_
        refine e_icmp_ge (tgt := 92) dX6_readOne_62 (by decide) (fun c34 => ?_) (fun c34 => ?_)
        · replace H := ot c34 H
          refine g_aload_n dX6_readOne_92 rfl rfl ?_
          replace H := ob H; obtain ⟨q35, c36, H⟩ := H
          refine v0 (hY32.t 7 rfl) (by decide) rfl rfl lmX6_164 liX6_refuse lvX6_X6_refuse msX6_refuse dX6_readOne_93 (t_X6_refuse (dd - 0) hY32 c36) rfl (Nat.le_of_ble_eq_true rfl) (by omega) ?_
          have e37 := p_X6_refuse c36
          have hY38 := hY32.pr okX e37
          obtain rfl := Option.some.inj H
          exact z_vret rfl dX6_readOne_96 rfl rfl
        · replace H := of_ c34 H
          refine g_aload_n dX6_readOne_65 rfl rfl ?_
          refine e_sipush (v := (10040 : Int32)) dX6_readOne_66 (by decide) ?_
          replace H := ob H; obtain ⟨q39, c40, H⟩ := H
          refine v1 (hY32.t 7 rfl) (by decide) rfl rfl lmX6_140 liX6_takes lvX6_X6_takes msX6_takes dX6_readOne_69 (t_X6_takes (dd - 1) hY32 c40) rfl (Nat.le_of_ble_eq_true rfl) (by omega) ?_
          have e41 := p_X6_takes c40
          have hY42 := hY32.pr okX e41
          refine e_ifB_eq (tgt := 92) dX6_readOne_72 (by decide) (fun c43 => ?_) (fun c43 => ?_)
          · replace H := of_ (nb c43) H
            refine g_aload_n dX6_readOne_92 rfl rfl ?_
            replace H := ob H; obtain ⟨q44, c45, H⟩ := H
            refine v0 (hY42.t 7 rfl) (by decide) rfl rfl lmX6_164 liX6_refuse lvX6_X6_refuse msX6_refuse dX6_readOne_93 (t_X6_refuse (dd - 0) hY42 c45) rfl (Nat.le_of_ble_eq_true rfl) (by omega) ?_
            have e46 := p_X6_refuse c45
            have hY47 := hY42.pr okX e46
            obtain rfl := Option.some.inj H
            exact z_vret rfl dX6_readOne_96 rfl rfl
          · replace H := ot c43 H
            refine g_aload_n dX6_readOne_75 rfl rfl ?_
            refine e_iload_n dX6_readOne_76 rfl ?_
            refine e_iconst (v := (1 : Int32)) dX6_readOne_77 (by decide) ?_
            refine e_iadd dX6_readOne_78 ?_
            replace H := ob H; obtain ⟨q48, c49, H⟩ := H
            refine v0 (hY42.t 7 rfl) (by decide) rfl rfl lmX6_134 liX6_readAny lvX6_X6_readAny msX6_readAny dX6_readOne_79 (hrc.X6_readAny hY42 c49) rfl (Nat.le_of_ble_eq_true rfl) (Nat.le_refl _) ?_
            have e50 := hpc c49
            have hY51 := hY42.pr okX e50
            refine g_aload_n dX6_readOne_82 rfl rfl ?_
            refine e_sipush (v := (10041 : Int32)) dX6_readOne_83 (by decide) ?_
            replace H := ob H; obtain ⟨q52, c53, H⟩ := H
            refine v0 (hY51.t 7 rfl) (by decide) rfl rfl lmX6_60 liX6_ask lvX6_X6_ask msX6_ask dX6_readOne_86 (t_X6_ask (dd - 2) hY51 c53) rfl (Nat.le_of_ble_eq_true rfl) (by omega) ?_
            have e54 := p_X6_ask c53
            have hY55 := hY51.pr okX e54
            refine e_goto (tgt := 96) dX6_readOne_89 (by decide) ?_
            obtain rfl := Option.some.inj H
            exact z_vret rfl dX6_readOne_96 rfl rfl
      · replace H := ot c33 H
        refine g_aload_n dX6_readOne_43 rfl rfl ?_
        refine e_iload_n dX6_readOne_44 rfl ?_
        refine e_iconst (v := (1 : Int32)) dX6_readOne_45 (by decide) ?_
        refine e_iadd dX6_readOne_46 ?_
        replace H := ob H; obtain ⟨q56, c57, H⟩ := H
        refine v0 (hY32.t 7 rfl) (by decide) rfl rfl lmX6_158 liX6_readOne lvX6_X6_readOne msX6_readOne dX6_readOne_47 (hrc.X6_readOne hY32 c57) rfl (Nat.le_of_ble_eq_true rfl) (Nat.le_refl _) ?_
        have e58 := hpc c57
        have hY59 := hY32.pr okX e58
        refine g_aload_n dX6_readOne_50 rfl rfl ?_
        refine e_sipush (v := (10001 : Int32)) dX6_readOne_51 (by decide) ?_
        replace H := ob H; obtain ⟨q60, c61, H⟩ := H
        refine v0 (hY59.t 7 rfl) (by decide) rfl rfl lmX6_143 liX6_write lvX6_X6_write msX6_write dX6_readOne_54 (t_X6_write (dd - 0) hY59 c61) rfl (Nat.le_of_ble_eq_true rfl) (by omega) ?_
        have e62 := p_X6_write c61
        have hY63 := hY59.pr okX e62
        refine e_goto (tgt := 96) dX6_readOne_57 (by decide) ?_
        obtain rfl := Option.some.inj H
        exact z_vret rfl dX6_readOne_96 rfl rfl
  · replace H := ot c5 H
    refine g_aload_n dX6_readOne_12 rfl rfl ?_
    refine e_iload_n dX6_readOne_13 rfl ?_
    replace H := ob H; obtain ⟨q64, c65, H⟩ := H
    refine v1 (hY.t 7 rfl) (by decide) rfl rfl lmX6_140 liX6_takes lvX6_X6_takes msX6_takes dX6_readOne_14 (t_X6_takes (dd - 1) hY c65) rfl (Nat.le_of_ble_eq_true rfl) (by omega) ?_
    have e66 := p_X6_takes c65
    have hY67 := hY.pr okX e66
    refine e_ifB_eq (tgt := 28) dX6_readOne_17 (by decide) (fun c68 => ?_) (fun c68 => ?_)
    · replace H := of_ (nb c68) H
      refine e_iload_n dX6_readOne_28 rfl ?_
      refine e_iconst (v := (5 : Int32)) dX6_readOne_29 (by decide) ?_
      refine e_icmp_ge (tgt := 60) dX6_readOne_30 (by decide) (fun c69 => ?_) (fun c69 => ?_)
      · replace H := ot c69 H
        refine e_iload_n dX6_readOne_60 rfl ?_
        refine e_iconst (v := (5 : Int32)) dX6_readOne_61 (by decide) ?_
        refine e_icmp_ge (tgt := 92) dX6_readOne_62 (by decide) (fun c70 => ?_) (fun c70 => ?_)
        · replace H := ot c70 H
          refine g_aload_n dX6_readOne_92 rfl rfl ?_
          replace H := ob H; obtain ⟨q71, c72, H⟩ := H
          refine v0 (hY67.t 7 rfl) (by decide) rfl rfl lmX6_164 liX6_refuse lvX6_X6_refuse msX6_refuse dX6_readOne_93 (t_X6_refuse (dd - 0) hY67 c72) rfl (Nat.le_of_ble_eq_true rfl) (by omega) ?_
          have e73 := p_X6_refuse c72
          have hY74 := hY67.pr okX e73
          obtain rfl := Option.some.inj H
          exact z_vret rfl dX6_readOne_96 rfl rfl
        · replace H := of_ c70 H
          refine g_aload_n dX6_readOne_65 rfl rfl ?_
          refine e_sipush (v := (10040 : Int32)) dX6_readOne_66 (by decide) ?_
          replace H := ob H; obtain ⟨q75, c76, H⟩ := H
          refine v1 (hY67.t 7 rfl) (by decide) rfl rfl lmX6_140 liX6_takes lvX6_X6_takes msX6_takes dX6_readOne_69 (t_X6_takes (dd - 1) hY67 c76) rfl (Nat.le_of_ble_eq_true rfl) (by omega) ?_
          have e77 := p_X6_takes c76
          have hY78 := hY67.pr okX e77
          refine e_ifB_eq (tgt := 92) dX6_readOne_72 (by decide) (fun c79 => ?_) (fun c79 => ?_)
          · replace H := of_ (nb c79) H
            refine g_aload_n dX6_readOne_92 rfl rfl ?_
            replace H := ob H; obtain ⟨q80, c81, H⟩ := H
            refine v0 (hY78.t 7 rfl) (by decide) rfl rfl lmX6_164 liX6_refuse lvX6_X6_refuse msX6_refuse dX6_readOne_93 (t_X6_refuse (dd - 0) hY78 c81) rfl (Nat.le_of_ble_eq_true rfl) (by omega) ?_
            have e82 := p_X6_refuse c81
            have hY83 := hY78.pr okX e82
            obtain rfl := Option.some.inj H
            exact z_vret rfl dX6_readOne_96 rfl rfl
          · replace H := ot c79 H
            refine g_aload_n dX6_readOne_75 rfl rfl ?_
            refine e_iload_n dX6_readOne_76 rfl ?_
            refine e_iconst (v := (1 : Int32)) dX6_readOne_77 (by decide) ?_
            refine e_iadd dX6_readOne_78 ?_
            replace H := ob H; obtain ⟨q84, c85, H⟩ := H
            refine v0 (hY78.t 7 rfl) (by decide) rfl rfl lmX6_134 liX6_readAny lvX6_X6_readAny msX6_readAny dX6_readOne_79 (hrc.X6_readAny hY78 c85) rfl (Nat.le_of_ble_eq_true rfl) (Nat.le_refl _) ?_
            have e86 := hpc c85
            have hY87 := hY78.pr okX e86
            refine g_aload_n dX6_readOne_82 rfl rfl ?_
            refine e_sipush (v := (10041 : Int32)) dX6_readOne_83 (by decide) ?_
            replace H := ob H; obtain ⟨q88, c89, H⟩ := H
            refine v0 (hY87.t 7 rfl) (by decide) rfl rfl lmX6_60 liX6_ask lvX6_X6_ask msX6_ask dX6_readOne_86 (t_X6_ask (dd - 2) hY87 c89) rfl (Nat.le_of_ble_eq_true rfl) (by omega) ?_
            have e90 := p_X6_ask c89
            have hY91 := hY87.pr okX e90
            refine e_goto (tgt := 96) dX6_readOne_89 (by decide) ?_
            obtain rfl := Option.some.inj H
            exact z_vret rfl dX6_readOne_96 rfl rfl
      · replace H := of_ c69 H
        refine g_aload_n dX6_readOne_33 rfl rfl ?_
        refine e_sipush (v := (10045 : Int32)) dX6_readOne_34 (by decide) ?_
        replace H := ob H; obtain ⟨q92, c93, H⟩ := H
        refine v1 (hY67.t 7 rfl) (by decide) rfl rfl lmX6_140 liX6_takes lvX6_X6_takes msX6_takes dX6_readOne_37 (t_X6_takes (dd - 1) hY67 c93) rfl (Nat.le_of_ble_eq_true rfl) (by omega) ?_
        have e94 := p_X6_takes c93
        have hY95 := hY67.pr okX e94
        refine e_ifB_eq (tgt := 60) dX6_readOne_40 (by decide) (fun c96 => ?_) (fun c96 => ?_)
        · replace H := of_ (nb c96) H
          refine e_iload_n dX6_readOne_60 rfl ?_
          refine e_iconst (v := (5 : Int32)) dX6_readOne_61 (by decide) ?_
          refine e_icmp_ge (tgt := 92) dX6_readOne_62 (by decide) (fun c97 => ?_) (fun c97 => ?_)
          · replace H := ot c97 H
            refine g_aload_n dX6_readOne_92 rfl rfl ?_
            replace H := ob H; obtain ⟨q98, c99, H⟩ := H
            refine v0 (hY95.t 7 rfl) (by decide) rfl rfl lmX6_164 liX6_refuse lvX6_X6_refuse msX6_refuse dX6_readOne_93 (t_X6_refuse (dd - 0) hY95 c99) rfl (Nat.le_of_ble_eq_true rfl) (by omega) ?_
            have e100 := p_X6_refuse c99
            have hY101 := hY95.pr okX e100
            obtain rfl := Option.some.inj H
            exact z_vret rfl dX6_readOne_96 rfl rfl
          · replace H := of_ c97 H
            refine g_aload_n dX6_readOne_65 rfl rfl ?_
            refine e_sipush (v := (10040 : Int32)) dX6_readOne_66 (by decide) ?_
            replace H := ob H; obtain ⟨q102, c103, H⟩ := H
            refine v1 (hY95.t 7 rfl) (by decide) rfl rfl lmX6_140 liX6_takes lvX6_X6_takes msX6_takes dX6_readOne_69 (t_X6_takes (dd - 1) hY95 c103) rfl (Nat.le_of_ble_eq_true rfl) (by omega) ?_
            have e104 := p_X6_takes c103
            have hY105 := hY95.pr okX e104
            refine e_ifB_eq (tgt := 92) dX6_readOne_72 (by decide) (fun c106 => ?_) (fun c106 => ?_)
            · replace H := of_ (nb c106) H
              refine g_aload_n dX6_readOne_92 rfl rfl ?_
              replace H := ob H; obtain ⟨q107, c108, H⟩ := H
              refine v0 (hY105.t 7 rfl) (by decide) rfl rfl lmX6_164 liX6_refuse lvX6_X6_refuse msX6_refuse dX6_readOne_93 (t_X6_refuse (dd - 0) hY105 c108) rfl (Nat.le_of_ble_eq_true rfl) (by omega) ?_
              have e109 := p_X6_refuse c108
              have hY110 := hY105.pr okX e109
              obtain rfl := Option.some.inj H
              exact z_vret rfl dX6_readOne_96 rfl rfl
            · replace H := ot c106 H
              refine g_aload_n dX6_readOne_75 rfl rfl ?_
              refine e_iload_n dX6_readOne_76 rfl ?_
              refine e_iconst (v := (1 : Int32)) dX6_readOne_77 (by decide) ?_
              refine e_iadd dX6_readOne_78 ?_
              replace H := ob H; obtain ⟨q111, c112, H⟩ := H
              refine v0 (hY105.t 7 rfl) (by decide) rfl rfl lmX6_134 liX6_readAny lvX6_X6_readAny msX6_readAny dX6_readOne_79 (hrc.X6_readAny hY105 c112) rfl (Nat.le_of_ble_eq_true rfl) (Nat.le_refl _) ?_
              have e113 := hpc c112
              have hY114 := hY105.pr okX e113
              refine g_aload_n dX6_readOne_82 rfl rfl ?_
              refine e_sipush (v := (10041 : Int32)) dX6_readOne_83 (by decide) ?_
              replace H := ob H; obtain ⟨q115, c116, H⟩ := H
              refine v0 (hY114.t 7 rfl) (by decide) rfl rfl lmX6_60 liX6_ask lvX6_X6_ask msX6_ask dX6_readOne_86 (t_X6_ask (dd - 2) hY114 c116) rfl (Nat.le_of_ble_eq_true rfl) (by omega) ?_
              have e117 := p_X6_ask c116
              have hY118 := hY114.pr okX e117
              refine e_goto (tgt := 96) dX6_readOne_89 (by decide) ?_
              obtain rfl := Option.some.inj H
              exact z_vret rfl dX6_readOne_96 rfl rfl
        · replace H := ot c96 H
          refine g_aload_n dX6_readOne_43 rfl rfl ?_
          refine e_iload_n dX6_readOne_44 rfl ?_
          refine e_iconst (v := (1 : Int32)) dX6_readOne_45 (by decide) ?_
          refine e_iadd dX6_readOne_46 ?_
          replace H := ob H; obtain ⟨q119, c120, H⟩ := H
          refine v0 (hY95.t 7 rfl) (by decide) rfl rfl lmX6_158 liX6_readOne lvX6_X6_readOne msX6_readOne dX6_readOne_47 (hrc.X6_readOne hY95 c120) rfl (Nat.le_of_ble_eq_true rfl) (Nat.le_refl _) ?_
          have e121 := hpc c120
          have hY122 := hY95.pr okX e121
          refine g_aload_n dX6_readOne_50 rfl rfl ?_
          refine e_sipush (v := (10001 : Int32)) dX6_readOne_51 (by decide) ?_
          replace H := ob H; obtain ⟨q123, c124, H⟩ := H
          refine v0 (hY122.t 7 rfl) (by decide) rfl rfl lmX6_143 liX6_write lvX6_X6_write msX6_write dX6_readOne_54 (t_X6_write (dd - 0) hY122 c124) rfl (Nat.le_of_ble_eq_true rfl) (by omega) ?_
          have e125 := p_X6_write c124
          have hY126 := hY122.pr okX e125
          refine e_goto (tgt := 96) dX6_readOne_57 (by decide) ?_
          obtain rfl := Option.some.inj H
          exact z_vret rfl dX6_readOne_96 rfl rfl
    · replace H := ot c68 H
      refine g_aload_n dX6_readOne_20 rfl rfl ?_
      refine e_iload_n dX6_readOne_21 rfl ?_
      replace H := ob H; obtain ⟨q127, c128, H⟩ := H
      refine v0 (hY67.t 7 rfl) (by decide) rfl rfl lmX6_143 liX6_write lvX6_X6_write msX6_write dX6_readOne_22 (t_X6_write (dd - 0) hY67 c128) rfl (Nat.le_of_ble_eq_true rfl) (by omega) ?_
      have e129 := p_X6_write c128
      have hY130 := hY67.pr okX e129
      refine e_goto (tgt := 96) dX6_readOne_25 (by decide) ?_
      obtain rfl := Option.some.inj H
      exact z_vret rfl dX6_readOne_96 rfl rfl
-- X6rec
def r_X6 : Nat → Nat → Int32 → HS → Option HS
  | 0, _, _, _ => none
  | n + 1, m, o, h => if m = 0 then g_X6_readAny (r_X6 n) o h else if m = 1 then g_X6_readEach (r_X6 n) o h else if m = 2 then g_X6_readNot (r_X6 n) o h else if m = 3 then g_X6_readSum (r_X6 n) o h else if m = 4 then g_X6_readTerm (r_X6 n) o h else if m = 5 then g_X6_readOne (r_X6 n) o h else none
theorem p_rX6 : ∀ n, RPX6 (r_X6 n) := by
  intro n
  induction n with
  | zero => intro m o h q H; exact nz H
  | succ n ih =>
    intro m o h q H
    unfold r_X6 at H
    replace H := oi H; obtain ⟨-, H⟩ | ⟨-, H⟩ := H
    · exact p_X6_readAny ih H
    replace H := oi H; obtain ⟨-, H⟩ | ⟨-, H⟩ := H
    · exact p_X6_readEach ih H
    replace H := oi H; obtain ⟨-, H⟩ | ⟨-, H⟩ := H
    · exact p_X6_readNot ih H
    replace H := oi H; obtain ⟨-, H⟩ | ⟨-, H⟩ := H
    · exact p_X6_readSum ih H
    replace H := oi H; obtain ⟨-, H⟩ | ⟨-, H⟩ := H
    · exact p_X6_readTerm ih H
    replace H := oi H; obtain ⟨-, H⟩ | ⟨-, H⟩ := H
    · exact p_X6_readOne ih H
    exact nz H
theorem t_rX6 {G : GE} (d : Nat) : ∀ n, RCX6 G (d + (2 + n)) (r_X6 n) := by
  intro n
  induction n with
  | zero => intro o h q hY; exact ⟨fun c => nz c, fun c => nz c, fun c => nz c, fun c => nz c, fun c => nz c, fun c => nz c⟩
  | succ n ih => intro o h q hY; exact ⟨fun c => t_X6_readAny ih (p_rX6 n) (by omega) hY c, fun c => t_X6_readEach ih (p_rX6 n) (by omega) hY c, fun c => t_X6_readNot ih (p_rX6 n) (by omega) hY c, fun c => t_X6_readSum ih (p_rX6 n) (by omega) hY c, fun c => t_X6_readTerm ih (p_rX6 n) (by omega) hY c, fun c => t_X6_readOne ih (p_rX6 n) (by omega) hY c⟩
theorem p_E_X6_readAny {o : Int32} {h : HS} {q : HS} (H : r_X6 60 0 o h = some q) : Pr h q := p_rX6 60 H
theorem t_E_X6_readAny {G : GE} (d : Nat) {o : Int32} {h : HS} {q : HS} (hY : LY TX h) (H : r_X6 60 0 o h = some q) : CE G (d + 62) yX6_readAny miX6_readAny [.ref 39, .int o] h none q := RCX6.X6_readAny (t_rX6 d 60) hY H
theorem p_E_X6_readEach {o : Int32} {h : HS} {q : HS} (H : r_X6 60 1 o h = some q) : Pr h q := p_rX6 60 H
theorem t_E_X6_readEach {G : GE} (d : Nat) {o : Int32} {h : HS} {q : HS} (hY : LY TX h) (H : r_X6 60 1 o h = some q) : CE G (d + 62) yX6_readEach miX6_readEach [.ref 39, .int o] h none q := RCX6.X6_readEach (t_rX6 d 60) hY H
theorem p_E_X6_readNot {o : Int32} {h : HS} {q : HS} (H : r_X6 60 2 o h = some q) : Pr h q := p_rX6 60 H
theorem t_E_X6_readNot {G : GE} (d : Nat) {o : Int32} {h : HS} {q : HS} (hY : LY TX h) (H : r_X6 60 2 o h = some q) : CE G (d + 62) yX6_readNot miX6_readNot [.ref 39, .int o] h none q := RCX6.X6_readNot (t_rX6 d 60) hY H
theorem p_E_X6_readSum {o : Int32} {h : HS} {q : HS} (H : r_X6 60 3 o h = some q) : Pr h q := p_rX6 60 H
theorem t_E_X6_readSum {G : GE} (d : Nat) {o : Int32} {h : HS} {q : HS} (hY : LY TX h) (H : r_X6 60 3 o h = some q) : CE G (d + 62) yX6_readSum miX6_readSum [.ref 39, .int o] h none q := RCX6.X6_readSum (t_rX6 d 60) hY H
theorem p_E_X6_readTerm {o : Int32} {h : HS} {q : HS} (H : r_X6 60 4 o h = some q) : Pr h q := p_rX6 60 H
theorem t_E_X6_readTerm {G : GE} (d : Nat) {o : Int32} {h : HS} {q : HS} (hY : LY TX h) (H : r_X6 60 4 o h = some q) : CE G (d + 62) yX6_readTerm miX6_readTerm [.ref 39, .int o] h none q := RCX6.X6_readTerm (t_rX6 d 60) hY H
theorem p_E_X6_readOne {o : Int32} {h : HS} {q : HS} (H : r_X6 60 5 o h = some q) : Pr h q := p_rX6 60 H
theorem t_E_X6_readOne {G : GE} (d : Nat) {o : Int32} {h : HS} {q : HS} (hY : LY TX h) (H : r_X6 60 5 o h = some q) : CE G (d + 62) yX6_readOne miX6_readOne [.ref 39, .int o] h none q := RCX6.X6_readOne (t_rX6 d 60) hY H
-- X6_readPart
def f_X6_readPart (p1 : Int32) (h : HS) : Option HS := (Option.bind (f_X6_ask p1 h) (fun q1 => (Option.bind (r_X6 60 0 (0 : Int32) q1) (fun q5 => (Option.bind (f_X6_ask (10059 : Int32) q5) (fun q9 => (some q9)))))))
set_option maxHeartbeats 4000000 in
set_option maxRecDepth 20000 in
theorem p_X6_readPart {p1 : Int32} {h : HS} {q : HS} (H : f_X6_readPart p1 h = some q) : Pr h q := by
  unfold f_X6_readPart at H
  replace H := ob H; obtain ⟨q1, c2, H⟩ := H
  have e3 := p_X6_ask c2
  replace H := ob H; obtain ⟨q5, c6, H⟩ := H
  have e7 := p_E_X6_readAny c6
  replace H := ob H; obtain ⟨q9, c10, H⟩ := H
  have e11 := p_X6_ask c10
  obtain rfl := Option.some.inj H
  exact ((e3.tr e7).tr e11)
set_option maxHeartbeats 4000000 in
set_option maxRecDepth 20000 in
theorem t_X6_readPart {G : GE} (d : Nat) {p1 : Int32} {h : HS} {q : HS} (hY : LY TX h) (H : f_X6_readPart p1 h = some q) : CE G (d + 63) yX6_readPart miX6_readPart [.ref 39, .int p1] h (none) (q) := by
  unfold f_X6_readPart at H
  refine ce_of rfl (by decide) (fun q => by first | rfl | cases q) (Nat.le_of_ble_eq_true rfl) rfl ?_
  refine g_aload_n dX6_readPart_0 rfl rfl ?_
  refine e_iload_n dX6_readPart_1 rfl ?_
  replace H := ob H; obtain ⟨q1, c2, H⟩ := H
  refine v0 (hY.t 7 rfl) (by decide) rfl rfl lmX6_60 liX6_ask lvX6_X6_ask msX6_ask dX6_readPart_2 (t_X6_ask (d + 60) hY c2) rfl (Nat.le_of_ble_eq_true rfl) (Nat.le_refl _) ?_
  have e3 := p_X6_ask c2
  have hY4 := hY.pr okX e3
  refine g_aload_n dX6_readPart_5 rfl rfl ?_
  refine e_iconst (v := (0 : Int32)) dX6_readPart_6 (by decide) ?_
  replace H := ob H; obtain ⟨q5, c6, H⟩ := H
  refine v0 (hY4.t 7 rfl) (by decide) rfl rfl lmX6_134 liX6_readAny lvX6_X6_readAny msX6_readAny dX6_readPart_7 (t_E_X6_readAny (d + 0) hY4 c6) rfl (Nat.le_of_ble_eq_true rfl) (Nat.le_refl _) ?_
  have e7 := p_E_X6_readAny c6
  have hY8 := hY4.pr okX e7
  refine g_aload_n dX6_readPart_10 rfl rfl ?_
  refine e_sipush (v := (10059 : Int32)) dX6_readPart_11 (by decide) ?_
  replace H := ob H; obtain ⟨q9, c10, H⟩ := H
  refine v0 (hY8.t 7 rfl) (by decide) rfl rfl lmX6_60 liX6_ask lvX6_X6_ask msX6_ask dX6_readPart_14 (t_X6_ask (d + 60) hY8 c10) rfl (Nat.le_of_ble_eq_true rfl) (Nat.le_refl _) ?_
  have e11 := p_X6_ask c10
  have hY12 := hY8.pr okX e11
  obtain rfl := Option.some.inj H
  exact z_vret rfl dX6_readPart_17 rfl rfl
-- J7_copyOf_59c91
def f_J7_copyOf_59c91 (p0 : Nat) (p1 : Int32) (h : HS) : Option ((Option Nat) × HS) := (if hT h p0 = 15 then (if p1 = (nI (hLn h p0)) then none else (if nab p1 = true then (if hT h (hN h) = 0 then (bh (hNew h 15 p1.toNatClampNeg p1.toNatClampNeg) (fun h7 => (if cpb (0 : Int32) (0 : Int32) (if p1 < (nI (hLn h7 p0)) then p1 else (nI (hLn h7 p0))) (hLn h7 p0) (hLn h7 (hN h)) = true then (some ((some (hN h)), (sC h7 p0 (0 : Int32).toNatClampNeg (hN h) (0 : Int32).toNatClampNeg (if p1 < (nI (hLn h7 p0)) then p1 else (nI (hLn h7 p0))).toNatClampNeg))) else none))) else none) else none)) else none)
set_option maxHeartbeats 4000000 in
set_option maxRecDepth 20000 in
theorem p_J7_copyOf_59c91 {p0 : Nat} {p1 : Int32} {h : HS} {q : ((Option Nat) × HS)} (H : f_J7_copyOf_59c91 p0 p1 h = some q) : Pr h q.2 := by
  unfold f_J7_copyOf_59c91 at H
  replace H := og H; obtain ⟨g1, H⟩ := H
  replace H := oi H; obtain ⟨c2, H⟩ | ⟨c2, H⟩ := H
  · exact nz H
  · replace H := og H; obtain ⟨g3, H⟩ := H
    replace H := og H; obtain ⟨g4, H⟩ := H
    have e5 := Pr.nw (h := h) (kd := 15) (ln := p1.toNatClampNeg) (ns := p1.toNatClampNeg) Pr.rf g4
    replace H := obh H; obtain ⟨h7, e8, H⟩ := H
    replace H := og H; obtain ⟨g11, H⟩ := H
    obtain rfl := Option.some.inj H
    exact ((kP e8 e5).sC)
set_option maxHeartbeats 4000000 in
set_option maxRecDepth 20000 in
theorem t_J7_copyOf_59c91 {G : GE} (d : Nat) {p0 : Nat} {p1 : Int32} {h : HS} {q : ((Option Nat) × HS)} (H : f_J7_copyOf_59c91 p0 p1 h = some q) : CE G (d + 1) yJ7_copyOf_59c91 miJ7_copyOf_59c91 [.ref p0, .int p1] h (some (va_rf q.1)) (q.2) := by
  unfold f_J7_copyOf_59c91 at H
  refine ce_of rfl (by decide) (fun q => by first | rfl | cases q) (Nat.le_of_ble_eq_true rfl) rfl ?_
  refine e_iload_n dJ7_copyOf_59c91_0 rfl ?_
  refine g_aload_n dJ7_copyOf_59c91_1 rfl rfl ?_
  replace H := og H; obtain ⟨g1, H⟩ := H
  refine e_alen g1 (by decide) dJ7_copyOf_59c91_2 ?_
  refine e_icmp_ne (tgt := 14) dJ7_copyOf_59c91_3 (by decide) (fun c2 => ?_) (fun c2 => ?_)
  · replace H := of_ c2 H
    refine e_iload_n dJ7_copyOf_59c91_14 rfl ?_
    replace H := og H; obtain ⟨g3, H⟩ := H
    replace H := og H; obtain ⟨g4, H⟩ := H
    refine e_newa (atype := .int) (kd := 15) rfl (by decide) la_int (nab_t g3).1 (nab_t g3).2 dJ7_copyOf_59c91_15 ?_
    have e5 := Pr.nw (h := h) (kd := 15) (ln := p1.toNatClampNeg) (ns := p1.toNatClampNeg) Pr.rf g4
    have f6 := e5.k g1 (by decide)
    replace H := obh H; obtain ⟨h7, e8, H⟩ := H
    refine e_hq e8 ?_
    have f9 := kT e8 f6
    have f10 := kT e8 hT_new
    refine g_astore_n dJ7_copyOf_59c91_17 (Nat.le_of_ble_eq_true rfl) rfl rfl rfl ?_
    refine g_aload_n dJ7_copyOf_59c91_18 rfl rfl ?_
    refine e_iconst (v := (0 : Int32)) dJ7_copyOf_59c91_19 (by decide) ?_
    refine g_aload_n dJ7_copyOf_59c91_20 rfl rfl ?_
    refine e_iconst (v := (0 : Int32)) dJ7_copyOf_59c91_21 (by decide) ?_
    refine g_aload_n dJ7_copyOf_59c91_22 rfl rfl ?_
    refine e_alen f9 (by decide) dJ7_copyOf_59c91_23 ?_
    refine e_iload_n dJ7_copyOf_59c91_24 rfl ?_
    refine e_mmin lmJ7_304 lsJ9_min_7cf53 msJ9_min_7cf53.2.1 (Nat.le_of_ble_eq_true rfl) (by omega) dJ7_copyOf_59c91_25 ?_
    replace H := og H; obtain ⟨g11, H⟩ := H
    refine e_acopy lmJ7_150 f9 f10 g11 (Nat.le_of_ble_eq_true rfl) (by omega) dJ7_copyOf_59c91_28 ?_
    refine g_aload_n dJ7_copyOf_59c91_31 rfl rfl ?_
    obtain rfl := Option.some.inj H
    exact z_aret rfl (by first | exact Or.inl ⟨_, rfl⟩ | exact Or.inr ⟨_, rfl⟩) (by first | exact Or.inl rfl | exact Or.inr ⟨_, rfl⟩) dJ7_copyOf_59c91_32 rfl rfl
  · replace H := ot c2 H
    refine g_aload_n dJ7_copyOf_59c91_6 rfl rfl ?_
    exact nz H
-- X9_init
def f_X9_init (p0 : Nat) (p1 : Nat) (p2 : Int32) (p3 : Int32) (h : HS) : Option HS := (if hT h p0 = 11 then (if fixR p0 0 = false then (if hT (sR h p0 0 (some p1)) p1 = 15 then (if nab (nI (hLn (sR h p0 0 (some p1)) p1)) = true then (if hT (sR h p0 0 (some p1)) (hN (sR h p0 0 (some p1))) = 0 then (bh (hNew (sR h p0 0 (some p1)) 15 (nI (hLn (sR h p0 0 (some p1)) p1)).toNatClampNeg (nI (hLn (sR h p0 0 (some p1)) p1)).toNatClampNeg) (fun h11 => (if fixR p0 1 = false then (some (sI (sI (sR h11 p0 1 (some (hN (sR h p0 0 (some p1))))) p0 2 p2) p0 3 p3)) else none))) else none) else none) else none) else none) else none)
set_option maxHeartbeats 4000000 in
set_option maxRecDepth 20000 in
theorem p_X9_init {p0 : Nat} {p1 : Nat} {p2 : Int32} {p3 : Int32} {h : HS} {q : HS} (H : f_X9_init p0 p1 p2 p3 h = some q) : Pr h q := by
  unfold f_X9_init at H
  replace H := og H; obtain ⟨g1, H⟩ := H
  replace H := og H; obtain ⟨g2, H⟩ := H
  have e3 := Pr.sR (h := h) (a := p0) (k := 0) (v := some p1) Pr.rf g2
  replace H := og H; obtain ⟨g5, H⟩ := H
  replace H := og H; obtain ⟨g6, H⟩ := H
  replace H := og H; obtain ⟨g7, H⟩ := H
  have e8 := Pr.nw (h := (sR h p0 0 (some p1))) (kd := 15) (ln := (nI (hLn (sR h p0 0 (some p1)) p1)).toNatClampNeg) (ns := (nI (hLn (sR h p0 0 (some p1)) p1)).toNatClampNeg) Pr.rf g7
  replace H := obh H; obtain ⟨h11, e12, H⟩ := H
  replace H := og H; obtain ⟨g16, H⟩ := H
  have e17 := Pr.sR (h := h11) (a := p0) (k := 1) (v := some (hN (sR h p0 0 (some p1)))) Pr.rf g16
  obtain rfl := Option.some.inj H
  exact ((((kP e12 (e3.tr e8)).tr e17).sI).sI)
set_option maxHeartbeats 4000000 in
set_option maxRecDepth 20000 in
theorem t_X9_init {G : GE} (d : Nat) {p0 : Nat} {p1 : Nat} {p2 : Int32} {p3 : Int32} {h : HS} {q : HS} (H : f_X9_init p0 p1 p2 p3 h = some q) : CE G (d + 1) yX9_init miX9_init [.ref p0, .ref p1, .int p2, .int p3] h (none) (q) := by
  unfold f_X9_init at H
  refine ce_of rfl (by decide) (fun q => by first | rfl | cases q) (Nat.le_of_ble_eq_true rfl) rfl ?_
  refine g_aload_n dX9_init_0 rfl rfl ?_
  refine e_objI lmX9_5 dX9_init_1 (Nat.le_of_ble_eq_true rfl) (by omega) ?_
  refine g_aload_n dX9_init_4 rfl rfl ?_
  refine g_aload_n dX9_init_5 rfl rfl ?_
  replace H := og H; obtain ⟨g1, H⟩ := H
  replace H := og H; obtain ⟨g2, H⟩ := H
  refine e_putR g1 fpX9_11_10i (by first | exact Or.inl ⟨_, rfl⟩ | exact Or.inr ⟨_, rfl⟩) dX9_init_6 ?_
  have e3 := Pr.sR (h := h) (a := p0) (k := 0) (v := some p1) Pr.rf g2
  have f4 := e3.k g1 (by decide)
  refine g_aload_n dX9_init_9 rfl rfl ?_
  refine g_aload_n dX9_init_10 rfl rfl ?_
  replace H := og H; obtain ⟨g5, H⟩ := H
  refine e_alen g5 (by decide) dX9_init_11 ?_
  replace H := og H; obtain ⟨g6, H⟩ := H
  replace H := og H; obtain ⟨g7, H⟩ := H
  refine e_newa (atype := .int) (kd := 15) rfl (by decide) la_int (nab_t g6).1 (nab_t g6).2 dX9_init_12 ?_
  have e8 := Pr.nw (h := (sR h p0 0 (some p1))) (kd := 15) (ln := (nI (hLn (sR h p0 0 (some p1)) p1)).toNatClampNeg) (ns := (nI (hLn (sR h p0 0 (some p1)) p1)).toNatClampNeg) Pr.rf g7
  have f9 := e8.k f4 (by decide)
  have f10 := e8.k g5 (by decide)
  replace H := obh H; obtain ⟨h11, e12, H⟩ := H
  refine e_hq e12 ?_
  have f13 := kT e12 f9
  have f14 := kT e12 f10
  have f15 := kT e12 hT_new
  replace H := og H; obtain ⟨g16, H⟩ := H
  refine e_putR f13 fpX9_15_10i (by first | exact Or.inl ⟨_, rfl⟩ | exact Or.inr ⟨_, rfl⟩) dX9_init_14 ?_
  have e17 := Pr.sR (h := h11) (a := p0) (k := 1) (v := some (hN (sR h p0 0 (some p1)))) Pr.rf g16
  have f18 := e17.k f13 (by decide)
  have f19 := e17.k f14 (by decide)
  have f20 := e17.k f15 (by decide)
  refine g_aload_n dX9_init_17 rfl rfl ?_
  refine e_iload_n dX9_init_18 rfl ?_
  refine e_putI f18 fpX9_18_10i rfl dX9_init_19 ?_
  refine g_aload_n dX9_init_22 rfl rfl ?_
  refine e_iload_n dX9_init_23 rfl ?_
  refine e_putI (kI f18) fpX9_22_10i rfl dX9_init_24 ?_
  obtain rfl := Option.some.inj H
  exact z_vret rfl dX9_init_27 rfl rfl
-- X6_read
def f_X6_read  (h : HS) : Option ((Option Nat) × HS) := (Option.bind (f_X6_split h) (fun q1 => (Option.bind (f_X6_readPart (10220 : Int32) (sI (sI (sI q1 39 5 (0 : Int32)) 39 7 (0 : Int32)) 39 8 (-1 : Int32))) (fun q5 => (Option.bind (f_X6_readPart (10221 : Int32) q5) (fun q9 => (Option.bind (f_X6_readPart (10222 : Int32) q9) (fun q13 => (Option.bind (f_X6_ask (10300 : Int32) q13) (fun q17 => (if (hI (sI q17 39 1 (0 : Int32)) 39 8) < 0 then (if hT (sI q17 39 1 (0 : Int32)) (hN (sI q17 39 1 (0 : Int32))) = 0 then (bh (hNew (sI q17 39 1 (0 : Int32)) 11 0 4) (fun h25 => (Option.bind (f_J7_copyOf_59c91 43 (hI h25 39 7) h25) (fun q29 => (om q29.1 none (fun b32 => (Option.bind (f_X9_init (hN (sI q17 39 1 (0 : Int32))) b32 (hI q5 39 7) (hI q9 39 7) q29.2) (fun q36 => (some ((some (hN (sI q17 39 1 (0 : Int32)))), q36)))))))))) else none) else (some (none, (sI q17 39 1 (0 : Int32)))))))))))))))
set_option maxHeartbeats 4000000 in
set_option maxRecDepth 20000 in
theorem p_X6_read  {h : HS} {q : ((Option Nat) × HS)} (H : f_X6_read h = some q) : Pr h q.2 := by
  unfold f_X6_read at H
  replace H := ob H; obtain ⟨q1, c2, H⟩ := H
  have e3 := p_X6_split c2
  replace H := ob H; obtain ⟨q5, c6, H⟩ := H
  have e7 := p_X6_readPart c6
  replace H := ob H; obtain ⟨q9, c10, H⟩ := H
  have e11 := p_X6_readPart c10
  replace H := ob H; obtain ⟨q13, c14, H⟩ := H
  have e15 := p_X6_readPart c14
  replace H := ob H; obtain ⟨q17, c18, H⟩ := H
  have e19 := p_X6_ask c18
  replace H := oi H; obtain ⟨c21, H⟩ | ⟨c21, H⟩ := H
  · replace H := og H; obtain ⟨g22, H⟩ := H
    have e23 := Pr.nw (h := (sI q17 39 1 (0 : Int32))) (kd := 11) (ln := 0) (ns := 4) Pr.rf g22
    replace H := obh H; obtain ⟨h25, e26, H⟩ := H
    replace H := ob H; obtain ⟨q29, c30, H⟩ := H
    have e33 := p_J7_copyOf_59c91 c30
    replace H := oom H; obtain ⟨e31, H⟩ | ⟨b32, e31, H⟩ := H
    · exact nz H
    · replace H := ob H; obtain ⟨q36, c37, H⟩ := H
      have e38 := p_X9_init c37
      obtain rfl := Option.some.inj H
      exact (((kP e26 (((((((((e3.sI).sI).sI).tr e7).tr e11).tr e15).tr e19).sI).tr e23)).tr e33).tr e38)
  · obtain rfl := Option.some.inj H
    exact ((((((((e3.sI).sI).sI).tr e7).tr e11).tr e15).tr e19).sI)
set_option maxHeartbeats 4000000 in
set_option maxRecDepth 20000 in
theorem t_X6_read {G : GE} (d : Nat)  {h : HS} {q : ((Option Nat) × HS)} (hY : LY TX h) (H : f_X6_read h = some q) : CE G (d + 64) yX6_read miX6_read [.ref 39] h (some (va_rf q.1)) (q.2) := by
  unfold f_X6_read at H
  refine ce_of rfl (by decide) (fun q => by first | rfl | cases q) (Nat.le_of_ble_eq_true rfl) rfl ?_
  refine g_aload_n dX6_read_0 rfl rfl ?_
  replace H := ob H; obtain ⟨q1, c2, H⟩ := H
  refine v0 (hY.t 7 rfl) (by decide) rfl rfl lmX6_54 liX6_split lvX6_X6_split msX6_split dX6_read_1 (t_X6_split (d + 56) hY c2) rfl (Nat.le_of_ble_eq_true rfl) (Nat.le_refl _) ?_
  have e3 := p_X6_split c2
  have hY4 := hY.pr okX e3
  refine g_aload_n dX6_read_4 rfl rfl ?_
  refine e_iconst (v := (0 : Int32)) dX6_read_5 (by decide) ?_
  refine e_putI (hY4.t 7 rfl) fpX6_28_7 rfl dX6_read_6 ?_
  refine g_aload_n dX6_read_9 rfl rfl ?_
  refine e_iconst (v := (0 : Int32)) dX6_read_10 (by decide) ?_
  refine e_putI ((hY4.sI).t 7 rfl) fpX6_34_7 rfl dX6_read_11 ?_
  refine g_aload_n dX6_read_14 rfl rfl ?_
  refine e_iconst (v := (-1 : Int32)) dX6_read_15 (by decide) ?_
  refine e_putI (((hY4.sI).sI).t 7 rfl) fpX6_37_7 rfl dX6_read_16 ?_
  refine g_aload_n dX6_read_19 rfl rfl ?_
  refine e_sipush (v := (10220 : Int32)) dX6_read_20 (by decide) ?_
  replace H := ob H; obtain ⟨q5, c6, H⟩ := H
  refine v0 ((((hY4.sI).sI).sI).t 7 rfl) (by decide) rfl rfl lmX6_57 liX6_readPart lvX6_X6_readPart msX6_readPart dX6_read_23 (t_X6_readPart (d + 0) (((hY4.sI).sI).sI) c6) rfl (Nat.le_of_ble_eq_true rfl) (Nat.le_refl _) ?_
  have e7 := p_X6_readPart c6
  have hY8 := (((hY4.sI).sI).sI).pr okX e7
  refine g_aload_n dX6_read_26 rfl rfl ?_
  refine e_getI (hY8.t 7 rfl) flX6_34_7 dX6_read_27 rfl ?_
  refine e_istore_n dX6_read_30 (Nat.le_of_ble_eq_true rfl) rfl rfl ?_
  refine g_aload_n dX6_read_31 rfl rfl ?_
  refine e_sipush (v := (10221 : Int32)) dX6_read_32 (by decide) ?_
  replace H := ob H; obtain ⟨q9, c10, H⟩ := H
  refine v0 (hY8.t 7 rfl) (by decide) rfl rfl lmX6_57 liX6_readPart lvX6_X6_readPart msX6_readPart dX6_read_35 (t_X6_readPart (d + 0) hY8 c10) rfl (Nat.le_of_ble_eq_true rfl) (Nat.le_refl _) ?_
  have e11 := p_X6_readPart c10
  have hY12 := hY8.pr okX e11
  refine g_aload_n dX6_read_38 rfl rfl ?_
  refine e_getI (hY12.t 7 rfl) flX6_34_7 dX6_read_39 rfl ?_
  refine e_istore_n dX6_read_42 (Nat.le_of_ble_eq_true rfl) rfl rfl ?_
  refine g_aload_n dX6_read_43 rfl rfl ?_
  refine e_sipush (v := (10222 : Int32)) dX6_read_44 (by decide) ?_
  replace H := ob H; obtain ⟨q13, c14, H⟩ := H
  refine v0 (hY12.t 7 rfl) (by decide) rfl rfl lmX6_57 liX6_readPart lvX6_X6_readPart msX6_readPart dX6_read_47 (t_X6_readPart (d + 0) hY12 c14) rfl (Nat.le_of_ble_eq_true rfl) (Nat.le_refl _) ?_
  have e15 := p_X6_readPart c14
  have hY16 := hY12.pr okX e15
  refine g_aload_n dX6_read_50 rfl rfl ?_
  refine e_sipush (v := (10300 : Int32)) dX6_read_51 (by decide) ?_
  replace H := ob H; obtain ⟨q17, c18, H⟩ := H
  refine v0 (hY16.t 7 rfl) (by decide) rfl rfl lmX6_60 liX6_ask lvX6_X6_ask msX6_ask dX6_read_54 (t_X6_ask (d + 61) hY16 c18) rfl (Nat.le_of_ble_eq_true rfl) (Nat.le_refl _) ?_
  have e19 := p_X6_ask c18
  have hY20 := hY16.pr okX e19
  refine g_aload_n dX6_read_57 rfl rfl ?_
  refine e_iconst (v := (0 : Int32)) dX6_read_58 (by decide) ?_
  refine e_putI (hY20.t 7 rfl) fpX6_15_7 rfl dX6_read_59 ?_
  refine g_aload_n dX6_read_62 rfl rfl ?_
  refine e_getI ((hY20.sI).t 7 rfl) flX6_37_7 dX6_read_63 rfl ?_
  refine e_if_lt (tgt := 73) dX6_read_66 (by decide) (fun c21 => ?_) (fun c21 => ?_)
  · replace H := ot c21 H
    replace H := og H; obtain ⟨g22, H⟩ := H
    refine e_new (ci := 10) rfl (by decide) lcX6_1 lxX9 lnX9 dX6_read_73 ?_
    have e23 := Pr.nw (h := (sI q17 39 1 (0 : Int32))) (kd := 11) (ln := 0) (ns := 4) Pr.rf g22
    have hY24 := (hY20.sI).pr okX e23
    replace H := obh H; obtain ⟨h25, e26, H⟩ := H
    refine e_hq e26 ?_
    have hY27 := kY e26 hY24
    have f28 := kT e26 hT_new
    refine e_dup dX6_read_76 rfl ?_
    refine g_aload_n dX6_read_77 rfl rfl ?_
    refine e_getR (hY27.t 7 rfl) flX6_31_7 dX6_read_78 rfl (hY27.r 20 rfl) ?_
    refine g_aload_n dX6_read_81 rfl rfl ?_
    refine e_getI (hY27.t 7 rfl) flX6_34_7 dX6_read_82 rfl ?_
    replace H := ob H; obtain ⟨q29, c30, H⟩ := H
    have e33 := p_J7_copyOf_59c91 c30
    have hY34 := hY27.pr okX e33
    have f35 := e33.k f28 (by decide)
    replace H := oom H; obtain ⟨e31, H⟩ | ⟨b32, e31, H⟩ := H
    · refine s1 lmX6_63 lsJ7_copyOf_59c91 msJ7_copyOf_59c91 dX6_read_85 (ceN e31 (t_J7_copyOf_59c91 (d + 62) c30)) rfl (Nat.le_of_ble_eq_true rfl) (Nat.le_refl _) ?_
      refine e_iload_n dX6_read_88 rfl ?_
      refine e_iload_n dX6_read_89 rfl ?_
      exact nz H
    · refine s1 lmX6_63 lsJ7_copyOf_59c91 msJ7_copyOf_59c91 dX6_read_85 (ceS e31 (t_J7_copyOf_59c91 (d + 62) c30)) rfl (Nat.le_of_ble_eq_true rfl) (Nat.le_refl _) ?_
      refine e_iload_n dX6_read_88 rfl ?_
      refine e_iload_n dX6_read_89 rfl ?_
      replace H := ob H; obtain ⟨q36, c37, H⟩ := H
      refine i0 rfl lmX6_69 liX9_init msX9_init rfl dX6_read_90 (t_X9_init (d + 62) c37) rfl (Nat.le_of_ble_eq_true rfl) (Nat.le_refl _) ?_
      have e38 := p_X9_init c37
      have hY39 := hY34.pr okX e38
      have f40 := e38.k f35 (by decide)
      obtain rfl := Option.some.inj H
      exact z_aret rfl (by first | exact Or.inl ⟨_, rfl⟩ | exact Or.inr ⟨_, rfl⟩) (by first | exact Or.inl rfl | exact Or.inr ⟨_, rfl⟩) dX6_read_93 rfl rfl
  · replace H := of_ c21 H
    refine e_null dX6_read_69 ?_
    refine e_goto (tgt := 93) dX6_read_70 (by decide) ?_
    obtain rfl := Option.some.inj H
    exact z_aret rfl (by first | exact Or.inl ⟨_, rfl⟩ | exact Or.inr ⟨_, rfl⟩) (by first | exact Or.inl rfl | exact Or.inr ⟨_, rfl⟩) dX6_read_93 rfl rfl
