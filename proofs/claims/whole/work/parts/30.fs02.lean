-- X6_put
def f_X6_put (p1 : Int32) (h : HS) : Option HS := (if (hI h 39 1) < 0 then (some h) else (if (160 : Int32) ≤ (hI h 39 1) then (some h) else (if ixb (hI h 39 1) 160 = true then (some (sI (sI h 40 (hI h 39 1).toNatClampNeg p1) 39 1 ((hI (sI h 40 (hI h 39 1).toNatClampNeg p1) 39 1) + (1 : Int32)))) else none)))
set_option maxHeartbeats 4000000 in
set_option maxRecDepth 20000 in
theorem p_X6_put {p1 : Int32} {h : HS} {q : HS} (H : f_X6_put p1 h = some q) : Pr h q := by
  unfold f_X6_put at H
  replace H := oi H; obtain ⟨c1, H⟩ | ⟨c1, H⟩ := H
  · obtain rfl := Option.some.inj H
    exact Pr.rf
  · replace H := oi H; obtain ⟨c2, H⟩ | ⟨c2, H⟩ := H
    · obtain rfl := Option.some.inj H
      exact Pr.rf
    · replace H := og H; obtain ⟨g3, H⟩ := H
      obtain rfl := Option.some.inj H
      exact ((Pr.rf.sI).sI)
set_option maxHeartbeats 4000000 in
set_option maxRecDepth 20000 in
theorem t_X6_put {G : GE} (d : Nat) {p1 : Int32} {h : HS} {q : HS} (hY : LY TX h) (H : f_X6_put p1 h = some q) : CE G (d + 0) yX6_put miX6_put [.ref 39, .int p1] h (none) (q) := by
  unfold f_X6_put at H
  refine ce_of rfl (by decide) (fun q => by first | rfl | cases q) (Nat.le_of_ble_eq_true rfl) rfl ?_
  refine g_aload_n dX6_put_0 rfl rfl ?_
  refine e_getI (hY.t 7 rfl) flX6_15_7 dX6_put_1 rfl ?_
  refine e_if_lt (tgt := 37) dX6_put_4 (by decide) (fun c1 => ?_) (fun c1 => ?_)
  · replace H := ot c1 H
    obtain rfl := Option.some.inj H
    exact z_vret rfl dX6_put_37 rfl rfl
  · replace H := of_ c1 H
    refine g_aload_n dX6_put_7 rfl rfl ?_
    refine e_getI (hY.t 7 rfl) flX6_15_7 dX6_put_8 rfl ?_
    refine e_sipush (v := (160 : Int32)) dX6_put_11 (by decide) ?_
    refine e_icmp_ge (tgt := 37) dX6_put_14 (by decide) (fun c2 => ?_) (fun c2 => ?_)
    · replace H := ot c2 H
      obtain rfl := Option.some.inj H
      exact z_vret rfl dX6_put_37 rfl rfl
    · replace H := of_ c2 H
      refine g_aload_n dX6_put_17 rfl rfl ?_
      refine e_getR (hY.t 7 rfl) flX6_11_7 dX6_put_18 rfl (hY.r 17 rfl) ?_
      refine g_aload_n dX6_put_21 rfl rfl ?_
      refine e_getI (hY.t 7 rfl) flX6_15_7 dX6_put_22 rfl ?_
      refine e_iload_n dX6_put_25 rfl ?_
      replace H := og H; obtain ⟨g3, H⟩ := H
      refine e_iast (hY.t 8 rfl) (ixb_y (hY.n 8 rfl) g3) dX6_put_26 ?_
      refine g_aload_n dX6_put_27 rfl rfl ?_
      refine e_dup dX6_put_28 rfl ?_
      refine e_getI ((hY.sI).t 7 rfl) flX6_15_7 dX6_put_29 rfl ?_
      refine e_iconst (v := (1 : Int32)) dX6_put_32 (by decide) ?_
      refine e_iadd dX6_put_33 ?_
      refine e_putI ((hY.sI).t 7 rfl) fpX6_15_7 rfl dX6_put_34 ?_
      obtain rfl := Option.some.inj H
      exact z_vret rfl dX6_put_37 rfl rfl
-- J0_coder_7d493
def f_J0_coder_7d493 (p0 : Nat) : Option Int32 := (if p0 < 13 then (some (0 : Int32)) else none)
set_option maxHeartbeats 4000000 in
set_option maxRecDepth 20000 in
theorem t_J0_coder_7d493 {G : GE} (d : Nat) {p0 : Nat} {h : HS} {q : Int32} (H : f_J0_coder_7d493 p0 = some q) : CE G (d + 0) yJ0_coder_7d493 miJ0_coder_7d493 [.ref p0] h (some (.int q)) (h) := by
  unfold f_J0_coder_7d493 at H
  refine ce_of rfl (by decide) (fun q => by first | rfl | cases q) (Nat.le_of_ble_eq_true rfl) rfl ?_
  refine e_gsC (gT_1 155 rfl rfl) dJ0_coder_7d493_0 ?_
  refine e_if_eq (tgt := 13) dJ0_coder_7d493_3 (by decide) (fun c1 => absurd c1 (by decide)) (fun c1 => ?_)
  refine g_aload_n dJ0_coder_7d493_6 rfl rfl ?_
  replace H := og H; obtain ⟨g2, H⟩ := H
  refine e_cC g2 (gT_7 209 rfl rfl) dJ0_coder_7d493_7 ?_
  refine e_goto (tgt := 14) dJ0_coder_7d493_10 (by decide) ?_
  obtain rfl := Option.some.inj H
  exact z_iret rfl rfl dJ0_coder_7d493_14 rfl rfl
-- J0_length_8abf5
def f_J0_length_8abf5 (p0 : Nat) : Option Int32 := (if p0 < 13 then (Option.bind (f_J0_coder_7d493 p0) (fun q2 => (some ((nI (strLen.getD p0 0)) >>> (q2 &&& 31))))) else none)
set_option maxHeartbeats 4000000 in
set_option maxRecDepth 20000 in
theorem t_J0_length_8abf5 {G : GE} (d : Nat) {p0 : Nat} {h : HS} {q : Int32} (H : f_J0_length_8abf5 p0 = some q) : CE G (d + 1) yJ0_length_8abf5 miJ0_length_8abf5 [.ref p0] h (some (.int q)) (h) := by
  unfold f_J0_length_8abf5 at H
  refine ce_of rfl (by decide) (fun q => by first | rfl | cases q) (Nat.le_of_ble_eq_true rfl) rfl ?_
  refine g_aload_n dJ0_length_8abf5_0 rfl rfl ?_
  replace H := og H; obtain ⟨g1, H⟩ := H
  refine e_cV g1 (gT_7 208 rfl rfl) dJ0_length_8abf5_1 ?_
  refine e_cBl g1 dJ0_length_8abf5_4 ?_
  refine g_aload_n dJ0_length_8abf5_5 rfl rfl ?_
  replace H := ob H; obtain ⟨q2, c3, H⟩ := H
  refine c1 g1 rfl lmJ0_335 liJ0_coder_7d493 lvJ0_J0_coder_7d493 msJ0_coder_7d493 dJ0_length_8abf5_6 (t_J0_coder_7d493 (d + 0) c3) rfl (Nat.le_of_ble_eq_true rfl) (Nat.le_refl _) ?_
  refine e_ishr dJ0_length_8abf5_9 ?_
  obtain rfl := Option.some.inj H
  exact z_iret rfl rfl dJ0_length_8abf5_10 rfl rfl
-- J0_isLatin1_aae02
def f_J0_isLatin1_aae02 (p0 : Nat) : Option Bool := (if p0 < 13 then (some true) else none)
set_option maxHeartbeats 4000000 in
set_option maxRecDepth 20000 in
theorem t_J0_isLatin1_aae02 {G : GE} (d : Nat) {p0 : Nat} {h : HS} {q : Bool} (H : f_J0_isLatin1_aae02 p0 = some q) : CE G (d + 0) yJ0_isLatin1_aae02 miJ0_isLatin1_aae02 [.ref p0] h (some (.int (b2i q))) (h) := by
  unfold f_J0_isLatin1_aae02 at H
  refine ce_of rfl (by decide) (fun q => by first | rfl | cases q) (Nat.le_of_ble_eq_true rfl) rfl ?_
  refine e_gsC (gT_1 155 rfl rfl) dJ0_isLatin1_aae02_0 ?_
  refine e_if_eq (tgt := 17) dJ0_isLatin1_aae02_3 (by decide) (fun c1 => absurd c1 (by decide)) (fun c1 => ?_)
  refine g_aload_n dJ0_isLatin1_aae02_6 rfl rfl ?_
  replace H := og H; obtain ⟨g2, H⟩ := H
  refine e_cC g2 (gT_7 209 rfl rfl) dJ0_isLatin1_aae02_7 ?_
  refine e_if_ne (tgt := 17) dJ0_isLatin1_aae02_10 (by decide) (fun c3 => absurd c3 (by decide)) (fun c3 => ?_)
  refine e_iconst (v := (1 : Int32)) dJ0_isLatin1_aae02_13 (by decide) ?_
  refine e_goto (tgt := 18) dJ0_isLatin1_aae02_14 (by decide) ?_
  obtain rfl := Option.some.inj H
  exact z_iret rfl rfl dJ0_isLatin1_aae02_18 rfl rfl
-- J3_checkIndex_8e157
def f_J3_checkIndex_8e157N (p0 : Int32) (p1 : Int32) : Option Int32 := (if p0 < 0 then none else (if p0 < p1 then (some p0) else none))
set_option maxHeartbeats 4000000 in
set_option maxRecDepth 20000 in
theorem t_J3_checkIndex_8e157N {G : GE} (d : Nat) {p0 : Int32} {p1 : Int32} {h : HS} {q : Int32} (H : f_J3_checkIndex_8e157N p0 p1 = some q) : CE G (d + 0) yJ3_checkIndex_8e157 miJ3_checkIndex_8e157 [.int p0, .int p1, .null] h (some (.int q)) (h) := by
  unfold f_J3_checkIndex_8e157N at H
  refine ce_of rfl (by decide) (fun q => by first | rfl | cases q) (Nat.le_of_ble_eq_true rfl) rfl ?_
  refine e_iload_n dJ3_checkIndex_8e157_0 rfl ?_
  refine e_if_lt (tgt := 9) dJ3_checkIndex_8e157_1 (by decide) (fun c1 => ?_) (fun c1 => ?_)
  · replace H := ot c1 H
    refine g_aload_n dJ3_checkIndex_8e157_9 rfl rfl ?_
    refine e_iload_n dJ3_checkIndex_8e157_10 rfl ?_
    refine e_iload_n dJ3_checkIndex_8e157_11 rfl ?_
    exact nz H
  · replace H := of_ c1 H
    refine e_iload_n dJ3_checkIndex_8e157_4 rfl ?_
    refine e_iload_n dJ3_checkIndex_8e157_5 rfl ?_
    refine e_icmp_lt (tgt := 16) dJ3_checkIndex_8e157_6 (by decide) (fun c2 => ?_) (fun c2 => ?_)
    · replace H := ot c2 H
      refine e_iload_n dJ3_checkIndex_8e157_16 rfl ?_
      obtain rfl := Option.some.inj H
      exact z_iret rfl rfl dJ3_checkIndex_8e157_17 rfl rfl
    · replace H := of_ c2 H
      refine g_aload_n dJ3_checkIndex_8e157_9 rfl rfl ?_
      refine e_iload_n dJ3_checkIndex_8e157_10 rfl ?_
      refine e_iload_n dJ3_checkIndex_8e157_11 rfl ?_
      exact nz H
-- J3_checkIndex_8e157
def f_J3_checkIndex_8e157F (p0 : Int32) (p1 : Int32) : Option Int32 := (if p0 < 0 then none else (if p0 < p1 then (some p0) else none))
set_option maxHeartbeats 4000000 in
set_option maxRecDepth 20000 in
theorem t_J3_checkIndex_8e157F {G : GE} (d : Nat) {p0 : Int32} {p1 : Int32} {h : HS} {q : Int32} (H : f_J3_checkIndex_8e157F p0 p1 = some q) : CE G (d + 0) yJ3_checkIndex_8e157 miJ3_checkIndex_8e157 [.int p0, .int p1, .retAddr 0] h (some (.int q)) (h) := by
  unfold f_J3_checkIndex_8e157F at H
  refine ce_of rfl (by decide) (fun q => by first | rfl | cases q) (Nat.le_of_ble_eq_true rfl) rfl ?_
  refine e_iload_n dJ3_checkIndex_8e157_0 rfl ?_
  refine e_if_lt (tgt := 9) dJ3_checkIndex_8e157_1 (by decide) (fun c1 => ?_) (fun c1 => ?_)
  · replace H := ot c1 H
    exact nz H
  · replace H := of_ c1 H
    refine e_iload_n dJ3_checkIndex_8e157_4 rfl ?_
    refine e_iload_n dJ3_checkIndex_8e157_5 rfl ?_
    refine e_icmp_lt (tgt := 16) dJ3_checkIndex_8e157_6 (by decide) (fun c2 => ?_) (fun c2 => ?_)
    · replace H := ot c2 H
      refine e_iload_n dJ3_checkIndex_8e157_16 rfl ?_
      obtain rfl := Option.some.inj H
      exact z_iret rfl rfl dJ3_checkIndex_8e157_17 rfl rfl
    · replace H := of_ c2 H
      exact nz H
-- J0_checkIndex_df160
def f_J0_checkIndex_df160 (p0 : Int32) (p1 : Int32) : Option Unit := (Option.bind (f_J3_checkIndex_8e157F p0 p1) (fun q1 => (some ())))
set_option maxHeartbeats 4000000 in
set_option maxRecDepth 20000 in
theorem t_J0_checkIndex_df160 {G : GE} (d : Nat) {p0 : Int32} {p1 : Int32} {h : HS} {q : Unit} (H : f_J0_checkIndex_df160 p0 p1 = some q) : CE G (d + 1) yJ0_checkIndex_df160 miJ0_checkIndex_df160 [.int p0, .int p1] h (none) (h) := by
  unfold f_J0_checkIndex_df160 at H
  refine ce_of rfl (by decide) (fun q => by first | rfl | cases q) (Nat.le_of_ble_eq_true rfl) rfl ?_
  refine e_iload_n dJ0_checkIndex_df160_0 rfl ?_
  refine e_iload_n dJ0_checkIndex_df160_1 rfl ?_
  refine e_gsS (gT_1 171 rfl rfl) dJ0_checkIndex_df160_2 ?_
  replace H := ob H; obtain ⟨q1, c2, H⟩ := H
  refine s1 lmJ0_1059 lsJ3_checkIndex_8e157 msJ3_checkIndex_8e157 dJ0_checkIndex_df160_5 (t_J3_checkIndex_8e157F (d + 0) c2) rfl (Nat.le_of_ble_eq_true rfl) (Nat.le_refl _) ?_
  refine e_pop dJ0_checkIndex_df160_8 rfl ?_
  obtain rfl := Option.some.inj H
  exact z_vret rfl dJ0_checkIndex_df160_9 rfl rfl
-- J1_charAt_3b067
def f_J1_charAt_3b067 (p0 : Nat) (p1 : Int32) : Option Int32 := (if p0 < 13 then (Option.bind (f_J0_checkIndex_df160 p1 (nI (strLen.getD p0 0))) (fun q2 => (if ixb p1 (strLen.getD p0 0) = true then (if chr ((((strByt.getD p0 []).getD p1.toNatClampNeg 0) &&& (255 : Int32)).toUInt32 % 65536).toInt32 = true then (some ((((strByt.getD p0 []).getD p1.toNatClampNeg 0) &&& (255 : Int32)).toUInt32 % 65536).toInt32) else none) else none))) else none)
set_option maxHeartbeats 4000000 in
set_option maxRecDepth 20000 in
theorem t_J1_charAt_3b067 {G : GE} (d : Nat) {p0 : Nat} {p1 : Int32} {h : HS} {q : Int32} (H : f_J1_charAt_3b067 p0 p1 = some q) : CE G (d + 2) yJ1_charAt_3b067 miJ1_charAt_3b067 [.ref (13 + p0), .int p1] h (some (.int q)) (h) := by
  unfold f_J1_charAt_3b067 at H
  refine ce_of rfl (by decide) (fun q => by first | rfl | cases q) (Nat.le_of_ble_eq_true rfl) rfl ?_
  refine e_iload_n dJ1_charAt_3b067_0 rfl ?_
  refine g_aload_n dJ1_charAt_3b067_1 rfl rfl ?_
  replace H := og H; obtain ⟨g1, H⟩ := H
  refine e_cBl g1 dJ1_charAt_3b067_2 ?_
  replace H := ob H; obtain ⟨q2, c3, H⟩ := H
  refine s0 lmJ1_9 lsJ0_checkIndex_df160 msJ0_checkIndex_df160 dJ1_charAt_3b067_3 (t_J0_checkIndex_df160 (d + 0) c3) rfl (Nat.le_of_ble_eq_true rfl) (Nat.le_refl _) ?_
  refine g_aload_n dJ1_charAt_3b067_6 rfl rfl ?_
  refine e_iload_n dJ1_charAt_3b067_7 rfl ?_
  replace H := og H; obtain ⟨g4, H⟩ := H
  refine e_cBa g1 (ixb_in g4) dJ1_charAt_3b067_8 ?_
  refine e_sipush (v := (255 : Int32)) dJ1_charAt_3b067_9 (by decide) ?_
  refine e_iand dJ1_charAt_3b067_12 ?_
  refine e_i2c dJ1_charAt_3b067_13 ?_
  replace H := og H; obtain ⟨g5, H⟩ := H
  obtain rfl := Option.some.inj H
  exact z_iret rfl (chr_n g5) dJ1_charAt_3b067_14 rfl rfl
-- J0_charAt_5068e
def f_J0_charAt_5068e (p0 : Nat) (p1 : Int32) : Option Int32 := (if p0 < 13 then (Option.bind (f_J0_isLatin1_aae02 p0) (fun q1 => (if q1 = true then (Option.bind (f_J1_charAt_3b067 p0 p1) (fun q5 => (if chr q5 = true then (some q5) else none))) else none))) else none)
set_option maxHeartbeats 4000000 in
set_option maxRecDepth 20000 in
theorem t_J0_charAt_5068e {G : GE} (d : Nat) {p0 : Nat} {p1 : Int32} {h : HS} {q : Int32} (H : f_J0_charAt_5068e p0 p1 = some q) : CE G (d + 3) yJ0_charAt_5068e miJ0_charAt_5068e [.ref p0, .int p1] h (some (.int q)) (h) := by
  unfold f_J0_charAt_5068e at H
  refine ce_of rfl (by decide) (fun q => by first | rfl | cases q) (Nat.le_of_ble_eq_true rfl) rfl ?_
  refine g_aload_n dJ0_charAt_5068e_0 rfl rfl ?_
  replace H := og H; obtain ⟨g3, H⟩ := H
  replace H := ob H; obtain ⟨q1, c2, H⟩ := H
  refine c1 g3 rfl lmJ0_492 liJ0_isLatin1_aae02 lvJ0_J0_isLatin1_aae02 msJ0_isLatin1_aae02 dJ0_charAt_5068e_1 (t_J0_isLatin1_aae02 (d + 2) c2) rfl (Nat.le_of_ble_eq_true rfl) (Nat.le_refl _) ?_
  refine e_ifB_eq (tgt := 16) dJ0_charAt_5068e_4 (by decide) (fun c4 => ?_) (fun c4 => ?_)
  · replace H := of_ (nb c4) H
    refine g_aload_n dJ0_charAt_5068e_16 rfl rfl ?_
    refine e_cV g3 (gT_7 208 rfl rfl) dJ0_charAt_5068e_17 ?_
    refine e_iload_n dJ0_charAt_5068e_20 rfl ?_
    exact nz H
  · replace H := ot c4 H
    refine g_aload_n dJ0_charAt_5068e_7 rfl rfl ?_
    refine e_cV g3 (gT_7 208 rfl rfl) dJ0_charAt_5068e_8 ?_
    refine e_iload_n dJ0_charAt_5068e_11 rfl ?_
    replace H := ob H; obtain ⟨q5, c6, H⟩ := H
    refine s1 lmJ0_495 lsJ1_charAt_3b067 msJ1_charAt_3b067 dJ0_charAt_5068e_12 (t_J1_charAt_3b067 (d + 0) c6) rfl (Nat.le_of_ble_eq_true rfl) (Nat.le_refl _) ?_
    replace H := og H; obtain ⟨g7, H⟩ := H
    obtain rfl := Option.some.inj H
    exact z_iret rfl (chr_n g7) dJ0_charAt_5068e_15 rfl rfl
-- X6_spell
def l_X6_spell_2 (y1 : Nat)  : Nat → Int32 → HS → Option HS
  | 0, _, _ => none
  | n + 1, x2, h => (if y1 < 13 then (Option.bind (f_J0_length_8abf5 y1) (fun q11 => (if q11 ≤ x2 then (some h) else (Option.bind (f_J0_charAt_5068e y1 x2) (fun q15 => (Option.bind (f_X6_put q15 h) (fun q17 => (l_X6_spell_2 y1 n (x2 + (1 : Int32)) q17)))))))) else none)
set_option maxHeartbeats 4000000 in
set_option maxRecDepth 20000 in
theorem p_X6_spell_2 {y1 : Nat} : ∀ (n : Nat) {x2 : Int32} {h : HS} {q : HS}, l_X6_spell_2 y1 n x2 h = some q → Pr h q := by
  intro n
  induction n with
  | zero => intro x2 h q H; exact nz H
  | succ n ih =>
    intro x2 h q H
    unfold l_X6_spell_2 at H
    replace H := og H; obtain ⟨g13, H⟩ := H
    replace H := ob H; obtain ⟨q11, c12, H⟩ := H
    replace H := oi H; obtain ⟨c14, H⟩ | ⟨c14, H⟩ := H
    · obtain rfl := Option.some.inj H
      exact Pr.rf
    · replace H := ob H; obtain ⟨q15, c16, H⟩ := H
      replace H := ob H; obtain ⟨q17, c18, H⟩ := H
      have e19 := p_X6_put c18
      exact e19.tr (ih H)
set_option maxHeartbeats 4000000 in
set_option maxRecDepth 20000 in
theorem w_X6_spell_2 {G : GE} (d : Nat) {y1 : Nat} {r : Option Value} {h' : HS}  : ∀ (n : Nat) {x2 : Int32} {h : HS} {q : HS}, LY TX h → l_X6_spell_2 y1 n x2 h = some q → En G (d + 4) miX6_spell 25 [dum, dum, dum] [] q r h' → En G (d + 4) miX6_spell 2 [.ref 39, .ref y1, .int x2] [] h r h' := by
  intro n
  induction n with
  | zero => intro x2 h q hYTX H kE; exact nz H
  | succ n ih =>
    intro x2 h q hYTX H kE
    unfold l_X6_spell_2 at H
    refine e_iload_n dX6_spell_2 rfl ?_
    refine g_aload_n dX6_spell_3 rfl rfl ?_
    replace H := og H; obtain ⟨g13, H⟩ := H
    replace H := ob H; obtain ⟨q11, c12, H⟩ := H
    refine c1 g13 rfl lmX6_40 liJ0_length_8abf5 lvJ0_J0_length_8abf5 msJ0_length_8abf5 dX6_spell_4 (t_J0_length_8abf5 (d + 2) c12) rfl (Nat.le_of_ble_eq_true rfl) (Nat.le_refl _) ?_
    refine e_icmp_ge (tgt := 25) dX6_spell_7 (by decide) (fun c14 => ?_) (fun c14 => ?_)
    · replace H := ot c14 H
      obtain rfl := Option.some.inj H
      exact e_wk (lk0 (lk0 (lk0 lkn))) kE
    · replace H := of_ c14 H
      refine g_aload_n dX6_spell_10 rfl rfl ?_
      refine g_aload_n dX6_spell_11 rfl rfl ?_
      refine e_iload_n dX6_spell_12 rfl ?_
      replace H := ob H; obtain ⟨q15, c16, H⟩ := H
      refine c1 g13 rfl lmX6_46 liJ0_charAt_5068e lvJ0_J0_charAt_5068e msJ0_charAt_5068e dX6_spell_13 (t_J0_charAt_5068e (d + 0) c16) rfl (Nat.le_of_ble_eq_true rfl) (Nat.le_refl _) ?_
      replace H := ob H; obtain ⟨q17, c18, H⟩ := H
      refine v0 (hYTX.t 7 rfl) (by decide) rfl rfl lmX6_50 liX6_put lvX6_X6_put msX6_put dX6_spell_16 (t_X6_put (d + 3) hYTX c18) rfl (Nat.le_of_ble_eq_true rfl) (Nat.le_refl _) ?_
      have e19 := p_X6_put c18
      have hY20 := hYTX.pr okX e19
      refine e_iinc dX6_spell_19 rfl (ii_ (by decide : Int32.ofInt (1) = (1 : Int32))) (Nat.le_of_ble_eq_true rfl) rfl rfl ?_
      refine e_goto (tgt := 2) dX6_spell_22 (by decide) ?_
      exact e_wk (lk1 (lk1 (lk1 lkn))) (ih hY20 H kE)
def f_X6_spell (p1 : Nat) (h : HS) : Option HS := (Option.bind (l_X6_spell_2 p1 1000 (0 : Int32) h) (fun q21 => (some q21)))
set_option maxHeartbeats 4000000 in
set_option maxRecDepth 20000 in
theorem p_X6_spell {p1 : Nat} {h : HS} {q : HS} (H : f_X6_spell p1 h = some q) : Pr h q := by
  unfold f_X6_spell at H
  replace H := ob H; obtain ⟨q21, c22, H⟩ := H
  have e23 := p_X6_spell_2 1000 c22
  obtain rfl := Option.some.inj H
  exact e23
set_option maxHeartbeats 4000000 in
set_option maxRecDepth 20000 in
theorem t_X6_spell {G : GE} (d : Nat) {p1 : Nat} {h : HS} {q : HS} (hY : LY TX h) (H : f_X6_spell p1 h = some q) : CE G (d + 4) yX6_spell miX6_spell [.ref 39, .ref p1] h (none) (q) := by
  unfold f_X6_spell at H
  refine ce_of rfl (by decide) (fun q => by first | rfl | cases q) (Nat.le_of_ble_eq_true rfl) rfl ?_
  refine e_iconst (v := (0 : Int32)) dX6_spell_0 (by decide) ?_
  refine e_istore_n dX6_spell_1 (Nat.le_of_ble_eq_true rfl) rfl rfl ?_
  replace H := ob H; obtain ⟨q21, c22, H⟩ := H
  have e23 := p_X6_spell_2 1000 c22
  have hY24 := hY.pr okX e23
  refine e_wk (lk1 (lk1 (lk1 lkn))) (w_X6_spell_2 d 1000 hY c22 ?_)
  obtain rfl := Option.some.inj H
  exact z_vret rfl dX6_spell_25 rfl rfl
-- X6_byteAt
def f_X6_byteAt (p1 : Int32) (h : HS) : Option Int32 := (if p1 < 0 then (some (0 : Int32)) else (if (160 : Int32) ≤ p1 then (some (0 : Int32)) else (if ixb p1 160 = true then (some (hI h 40 p1.toNatClampNeg)) else none)))
set_option maxHeartbeats 4000000 in
set_option maxRecDepth 20000 in
theorem t_X6_byteAt {G : GE} (d : Nat) {p1 : Int32} {h : HS} {q : Int32} (hY : LY TX h) (H : f_X6_byteAt p1 h = some q) : CE G (d + 0) yX6_byteAt miX6_byteAt [.ref 39, .int p1] h (some (.int q)) (h) := by
  unfold f_X6_byteAt at H
  refine ce_of rfl (by decide) (fun q => by first | rfl | cases q) (Nat.le_of_ble_eq_true rfl) rfl ?_
  refine e_iload_n dX6_byteAt_0 rfl ?_
  refine e_if_lt (tgt := 20) dX6_byteAt_1 (by decide) (fun c1 => ?_) (fun c1 => ?_)
  · replace H := ot c1 H
    refine e_iconst (v := (0 : Int32)) dX6_byteAt_20 (by decide) ?_
    obtain rfl := Option.some.inj H
    exact z_iret rfl rfl dX6_byteAt_21 rfl rfl
  · replace H := of_ c1 H
    refine e_iload_n dX6_byteAt_4 rfl ?_
    refine e_sipush (v := (160 : Int32)) dX6_byteAt_5 (by decide) ?_
    refine e_icmp_ge (tgt := 20) dX6_byteAt_8 (by decide) (fun c2 => ?_) (fun c2 => ?_)
    · replace H := ot c2 H
      refine e_iconst (v := (0 : Int32)) dX6_byteAt_20 (by decide) ?_
      obtain rfl := Option.some.inj H
      exact z_iret rfl rfl dX6_byteAt_21 rfl rfl
    · replace H := of_ c2 H
      refine g_aload_n dX6_byteAt_11 rfl rfl ?_
      refine e_getR (hY.t 7 rfl) flX6_11_7 dX6_byteAt_12 rfl (hY.r 17 rfl) ?_
      refine e_iload_n dX6_byteAt_15 rfl ?_
      replace H := og H; obtain ⟨g3, H⟩ := H
      refine e_iald (hY.t 8 rfl) (ixb_y (hY.n 8 rfl) g3) dX6_byteAt_16 ?_
      refine e_goto (tgt := 21) dX6_byteAt_17 (by decide) ?_
      obtain rfl := Option.some.inj H
      exact z_iret rfl rfl dX6_byteAt_21 rfl rfl
-- X6_isDigit
def f_X6_isDigit (p0 : Int32) : Option Bool := (if p0 < (48 : Int32) then (some false) else (if (57 : Int32) < p0 then (some false) else (some true)))
set_option maxHeartbeats 4000000 in
set_option maxRecDepth 20000 in
theorem t_X6_isDigit {G : GE} (d : Nat) {p0 : Int32} {h : HS} {q : Bool} (H : f_X6_isDigit p0 = some q) : CE G (d + 0) yX6_isDigit miX6_isDigit [.int p0] h (some (.int (b2i q))) (h) := by
  unfold f_X6_isDigit at H
  refine ce_of rfl (by decide) (fun q => by first | rfl | cases q) (Nat.le_of_ble_eq_true rfl) rfl ?_
  refine e_iload_n dX6_isDigit_0 rfl ?_
  refine e_bipush (v := (48 : Int32)) dX6_isDigit_1 (by decide) ?_
  refine e_icmp_lt (tgt := 16) dX6_isDigit_3 (by decide) (fun c1 => ?_) (fun c1 => ?_)
  · replace H := ot c1 H
    refine e_iconst (v := (0 : Int32)) dX6_isDigit_16 (by decide) ?_
    obtain rfl := Option.some.inj H
    exact z_iret rfl rfl dX6_isDigit_17 rfl rfl
  · replace H := of_ c1 H
    refine e_iload_n dX6_isDigit_6 rfl ?_
    refine e_bipush (v := (57 : Int32)) dX6_isDigit_7 (by decide) ?_
    refine e_icmp_gt (tgt := 16) dX6_isDigit_9 (by decide) (fun c2 => ?_) (fun c2 => ?_)
    · replace H := ot c2 H
      refine e_iconst (v := (0 : Int32)) dX6_isDigit_16 (by decide) ?_
      obtain rfl := Option.some.inj H
      exact z_iret rfl rfl dX6_isDigit_17 rfl rfl
    · replace H := of_ c2 H
      refine e_iconst (v := (1 : Int32)) dX6_isDigit_12 (by decide) ?_
      refine e_goto (tgt := 17) dX6_isDigit_13 (by decide) ?_
      obtain rfl := Option.some.inj H
      exact z_iret rfl rfl dX6_isDigit_17 rfl rfl
-- X6_endOfDigits
def l_X6_endOfDigits_2 (h : HS)  : Nat → Int32 → Option Int32
  | 0, _ => none
  | n + 1, x2 => (if (hI h 39 1) ≤ x2 then (some x2) else (Option.bind (f_X6_byteAt x2 h) (fun q8 => (Option.bind (f_X6_isDigit q8) (fun q10 => (if q10 = true then (l_X6_endOfDigits_2 h n (x2 + (1 : Int32))) else (some x2)))))))
set_option maxHeartbeats 4000000 in
set_option maxRecDepth 20000 in
theorem w_X6_endOfDigits_2 {G : GE} (d : Nat)  {h : HS} {r : Option Value} {h' : HS} (hYTX : LY TX h) : ∀ (n : Nat) {x2 : Int32} {q : Int32}, l_X6_endOfDigits_2 h n x2 = some q → En G (d + 1) miX6_endOfDigits 27 [dum, dum, .int q] [] h r h' → En G (d + 1) miX6_endOfDigits 2 [.ref 39, dum, .int x2] [] h r h' := by
  intro n
  induction n with
  | zero => intro x2 q H kE; exact nz H
  | succ n ih =>
    intro x2 q H kE
    unfold l_X6_endOfDigits_2 at H
    refine e_iload_n dX6_endOfDigits_2 rfl ?_
    refine g_aload_n dX6_endOfDigits_3 rfl rfl ?_
    refine e_getI (hYTX.t 7 rfl) flX6_15_7 dX6_endOfDigits_4 rfl ?_
    refine e_icmp_ge (tgt := 27) dX6_endOfDigits_7 (by decide) (fun c7 => ?_) (fun c7 => ?_)
    · replace H := ot c7 H
      obtain rfl := Option.some.inj H
      exact e_wk (lk0 (lk1 (lk1 lkn))) kE
    · replace H := of_ c7 H
      refine g_aload_n dX6_endOfDigits_10 rfl rfl ?_
      refine e_iload_n dX6_endOfDigits_11 rfl ?_
      replace H := ob H; obtain ⟨q8, c9, H⟩ := H
      refine v1 (hYTX.t 7 rfl) (by decide) rfl rfl lmX6_80 liX6_byteAt lvX6_X6_byteAt msX6_byteAt dX6_endOfDigits_12 (t_X6_byteAt (d + 0) hYTX c9) rfl (Nat.le_of_ble_eq_true rfl) (Nat.le_refl _) ?_
      replace H := ob H; obtain ⟨q10, c11, H⟩ := H
      refine s1 lmX6_83 lsX6_isDigit msX6_isDigit dX6_endOfDigits_15 (t_X6_isDigit (d + 0) c11) rfl (Nat.le_of_ble_eq_true rfl) (Nat.le_refl _) ?_
      refine e_ifB_eq (tgt := 27) dX6_endOfDigits_18 (by decide) (fun c12 => ?_) (fun c12 => ?_)
      · replace H := of_ (nb c12) H
        obtain rfl := Option.some.inj H
        exact e_wk (lk0 (lk1 (lk1 lkn))) kE
      · replace H := ot c12 H
        refine e_iinc dX6_endOfDigits_21 rfl (ii_ (by decide : Int32.ofInt (1) = (1 : Int32))) (Nat.le_of_ble_eq_true rfl) rfl rfl ?_
        refine e_goto (tgt := 2) dX6_endOfDigits_24 (by decide) ?_
        exact e_wk (lk1 (lk1 (lk1 lkn))) (ih H kE)
def f_X6_endOfDigits (p1 : Int32) (h : HS) : Option Int32 := (Option.bind (l_X6_endOfDigits_2 h 1000 p1) (fun q13 => (some q13)))
set_option maxHeartbeats 4000000 in
set_option maxRecDepth 20000 in
theorem t_X6_endOfDigits {G : GE} (d : Nat) {p1 : Int32} {h : HS} {q : Int32} (hY : LY TX h) (H : f_X6_endOfDigits p1 h = some q) : CE G (d + 1) yX6_endOfDigits miX6_endOfDigits [.ref 39, .int p1] h (some (.int q)) (h) := by
  unfold f_X6_endOfDigits at H
  refine ce_of rfl (by decide) (fun q => by first | rfl | cases q) (Nat.le_of_ble_eq_true rfl) rfl ?_
  refine e_iload_n dX6_endOfDigits_0 rfl ?_
  refine e_istore_n dX6_endOfDigits_1 (Nat.le_of_ble_eq_true rfl) rfl rfl ?_
  replace H := ob H; obtain ⟨q13, c14, H⟩ := H
  refine e_wk (lk1 (lk0 (lk1 lkn))) (w_X6_endOfDigits_2 d hY 1000 c14 ?_)
  refine e_iload_n dX6_endOfDigits_27 rfl ?_
  obtain rfl := Option.some.inj H
  exact z_iret rfl rfl dX6_endOfDigits_28 rfl rfl
-- X6_numberToken
def l_X6_numberToken_5 (y2 : Int32) (h : HS)  : Nat → Int32 → Int32 → Option Int32
  | 0, _, _ => none
  | n + 1, x3, x4 => (if y2 ≤ x4 then (some x3) else (Option.bind (f_X6_byteAt x4 h) (fun q5 => (l_X6_numberToken_5 y2 h n (((x3 * (10 : Int32)) + q5) - (48 : Int32)) (x4 + (1 : Int32))))))
set_option maxHeartbeats 4000000 in
set_option maxRecDepth 20000 in
theorem w_X6_numberToken_5 {G : GE} (d : Nat) {y2 : Int32} {h : HS} {r : Option Value} {h' : HS} (hYTX : LY TX h) : ∀ (n : Nat) {x3 : Int32} {x4 : Int32} {q : Int32}, l_X6_numberToken_5 y2 h n x3 x4 = some q → En G (d + 1) miX6_numberToken 32 [dum, dum, dum, .int q, dum] [] h r h' → En G (d + 1) miX6_numberToken 5 [.ref 39, dum, .int y2, .int x3, .int x4] [] h r h' := by
  intro n
  induction n with
  | zero => intro x3 x4 q H kE; exact nz H
  | succ n ih =>
    intro x3 x4 q H kE
    unfold l_X6_numberToken_5 at H
    refine e_iload dX6_numberToken_5 rfl ?_
    refine e_iload_n dX6_numberToken_7 rfl ?_
    refine e_icmp_ge (tgt := 32) dX6_numberToken_8 (by decide) (fun c4 => ?_) (fun c4 => ?_)
    · replace H := ot c4 H
      obtain rfl := Option.some.inj H
      exact e_wk (lk0 (lk1 (lk0 (lk1 (lk0 lkn))))) kE
    · replace H := of_ c4 H
      refine e_iload_n dX6_numberToken_11 rfl ?_
      refine e_bipush (v := (10 : Int32)) dX6_numberToken_12 (by decide) ?_
      refine e_imul dX6_numberToken_14 ?_
      refine g_aload_n dX6_numberToken_15 rfl rfl ?_
      refine e_iload dX6_numberToken_16 rfl ?_
      replace H := ob H; obtain ⟨q5, c6, H⟩ := H
      refine v1 (hYTX.t 7 rfl) (by decide) rfl rfl lmX6_80 liX6_byteAt lvX6_X6_byteAt msX6_byteAt dX6_numberToken_18 (t_X6_byteAt (d + 0) hYTX c6) rfl (Nat.le_of_ble_eq_true rfl) (Nat.le_refl _) ?_
      refine e_iadd dX6_numberToken_21 ?_
      refine e_bipush (v := (48 : Int32)) dX6_numberToken_22 (by decide) ?_
      refine e_isub dX6_numberToken_24 ?_
      refine e_istore_n dX6_numberToken_25 (Nat.le_of_ble_eq_true rfl) rfl rfl ?_
      refine e_iinc dX6_numberToken_26 rfl (ii_ (by decide : Int32.ofInt (1) = (1 : Int32))) (Nat.le_of_ble_eq_true rfl) rfl rfl ?_
      refine e_goto (tgt := 5) dX6_numberToken_29 (by decide) ?_
      exact e_wk (lk1 (lk1 (lk1 (lk1 (lk1 lkn))))) (ih H kE)
def f_X6_numberToken (p1 : Int32) (p2 : Int32) (h : HS) : Option Int32 := (Option.bind (l_X6_numberToken_5 p2 h 1000 (0 : Int32) p1) (fun q7 => (some q7)))
set_option maxHeartbeats 4000000 in
set_option maxRecDepth 20000 in
theorem t_X6_numberToken {G : GE} (d : Nat) {p1 : Int32} {p2 : Int32} {h : HS} {q : Int32} (hY : LY TX h) (H : f_X6_numberToken p1 p2 h = some q) : CE G (d + 1) yX6_numberToken miX6_numberToken [.ref 39, .int p1, .int p2] h (some (.int q)) (h) := by
  unfold f_X6_numberToken at H
  refine ce_of rfl (by decide) (fun q => by first | rfl | cases q) (Nat.le_of_ble_eq_true rfl) rfl ?_
  refine e_iconst (v := (0 : Int32)) dX6_numberToken_0 (by decide) ?_
  refine e_istore_n dX6_numberToken_1 (Nat.le_of_ble_eq_true rfl) rfl rfl ?_
  refine e_iload_n dX6_numberToken_2 rfl ?_
  refine e_istore dX6_numberToken_3 (Nat.le_of_ble_eq_true rfl) rfl rfl ?_
  replace H := ob H; obtain ⟨q7, c8, H⟩ := H
  refine e_wk (lk1 (lk0 (lk1 (lk1 (lk1 lkn))))) (w_X6_numberToken_5 d hY 1000 c8 ?_)
  refine e_iload_n dX6_numberToken_32 rfl ?_
  obtain rfl := Option.some.inj H
  exact z_iret rfl rfl dX6_numberToken_33 rfl rfl
-- X6_addToken
def f_X6_addToken (p1 : Int32) (p2 : Int32) (h : HS) : Option HS := (if (hI h 39 4) < 0 then (some h) else (if (160 : Int32) < (hI h 39 4) then (some h) else (if ixb (hI h 39 4) 161 = true then (if ixb (hI (sI h 41 (hI h 39 4).toNatClampNeg p1) 39 4) 161 = true then (bh (sI (sI (sI h 41 (hI h 39 4).toNatClampNeg p1) 42 (hI (sI h 41 (hI h 39 4).toNatClampNeg p1) 39 4).toNatClampNeg p2) 39 4 ((hI (sI (sI h 41 (hI h 39 4).toNatClampNeg p1) 42 (hI (sI h 41 (hI h 39 4).toNatClampNeg p1) 39 4).toNatClampNeg p2) 39 4) + (1 : Int32))) (fun h5 => (some h5))) else none) else none)))
set_option maxHeartbeats 4000000 in
set_option maxRecDepth 20000 in
theorem p_X6_addToken {p1 : Int32} {p2 : Int32} {h : HS} {q : HS} (H : f_X6_addToken p1 p2 h = some q) : Pr h q := by
  unfold f_X6_addToken at H
  replace H := oi H; obtain ⟨c1, H⟩ | ⟨c1, H⟩ := H
  · obtain rfl := Option.some.inj H
    exact Pr.rf
  · replace H := oi H; obtain ⟨c2, H⟩ | ⟨c2, H⟩ := H
    · obtain rfl := Option.some.inj H
      exact Pr.rf
    · replace H := og H; obtain ⟨g3, H⟩ := H
      replace H := og H; obtain ⟨g4, H⟩ := H
      replace H := obh H; obtain ⟨h5, e6, H⟩ := H
      obtain rfl := Option.some.inj H
      exact (kP e6 (((Pr.rf.sI).sI).sI))
set_option maxHeartbeats 4000000 in
set_option maxRecDepth 20000 in
theorem t_X6_addToken {G : GE} (d : Nat) {p1 : Int32} {p2 : Int32} {h : HS} {q : HS} (hY : LY TX h) (H : f_X6_addToken p1 p2 h = some q) : CE G (d + 0) yX6_addToken miX6_addToken [.ref 39, .int p1, .int p2] h (none) (q) := by
  unfold f_X6_addToken at H
  refine ce_of rfl (by decide) (fun q => by first | rfl | cases q) (Nat.le_of_ble_eq_true rfl) rfl ?_
  refine g_aload_n dX6_addToken_0 rfl rfl ?_
  refine e_getI (hY.t 7 rfl) flX6_25_7 dX6_addToken_1 rfl ?_
  refine e_if_lt (tgt := 47) dX6_addToken_4 (by decide) (fun c1 => ?_) (fun c1 => ?_)
  · replace H := ot c1 H
    obtain rfl := Option.some.inj H
    exact z_vret rfl dX6_addToken_47 rfl rfl
  · replace H := of_ c1 H
    refine g_aload_n dX6_addToken_7 rfl rfl ?_
    refine e_getI (hY.t 7 rfl) flX6_25_7 dX6_addToken_8 rfl ?_
    refine e_sipush (v := (160 : Int32)) dX6_addToken_11 (by decide) ?_
    refine e_icmp_gt (tgt := 47) dX6_addToken_14 (by decide) (fun c2 => ?_) (fun c2 => ?_)
    · replace H := ot c2 H
      obtain rfl := Option.some.inj H
      exact z_vret rfl dX6_addToken_47 rfl rfl
    · replace H := of_ c2 H
      refine g_aload_n dX6_addToken_17 rfl rfl ?_
      refine e_getR (hY.t 7 rfl) flX6_19_7 dX6_addToken_18 rfl (hY.r 18 rfl) ?_
      refine g_aload_n dX6_addToken_21 rfl rfl ?_
      refine e_getI (hY.t 7 rfl) flX6_25_7 dX6_addToken_22 rfl ?_
      refine e_iload_n dX6_addToken_25 rfl ?_
      replace H := og H; obtain ⟨g3, H⟩ := H
      refine e_iast (hY.t 9 rfl) (ixb_y (hY.n 9 rfl) g3) dX6_addToken_26 ?_
      refine g_aload_n dX6_addToken_27 rfl rfl ?_
      refine e_getR ((hY.sI).t 7 rfl) flX6_22_7 dX6_addToken_28 rfl ((hY.sI).r 19 rfl) ?_
      refine g_aload_n dX6_addToken_31 rfl rfl ?_
      refine e_getI ((hY.sI).t 7 rfl) flX6_25_7 dX6_addToken_32 rfl ?_
      refine e_iload_n dX6_addToken_35 rfl ?_
      replace H := og H; obtain ⟨g4, H⟩ := H
      refine e_iast ((hY.sI).t 10 rfl) (ixb_y ((hY.sI).n 10 rfl) g4) dX6_addToken_36 ?_
      refine g_aload_n dX6_addToken_37 rfl rfl ?_
      refine e_dup dX6_addToken_38 rfl ?_
      refine e_getI (((hY.sI).sI).t 7 rfl) flX6_25_7 dX6_addToken_39 rfl ?_
      refine e_iconst (v := (1 : Int32)) dX6_addToken_42 (by decide) ?_
      refine e_iadd dX6_addToken_43 ?_
      refine e_putI (((hY.sI).sI).t 7 rfl) fpX6_25_7 rfl dX6_addToken_44 ?_
      replace H := obh H; obtain ⟨h5, e6, H⟩ := H
      refine e_hq e6 ?_
      have hY7 := kY e6 (((hY.sI).sI).sI)
      obtain rfl := Option.some.inj H
      exact z_vret rfl dX6_addToken_47 rfl rfl
-- X6_isLetter
def f_X6_isLetter (p0 : Int32) : Option Bool := (if p0 < (97 : Int32) then (some false) else (if (122 : Int32) < p0 then (some false) else (some true)))
set_option maxHeartbeats 4000000 in
set_option maxRecDepth 20000 in
theorem t_X6_isLetter {G : GE} (d : Nat) {p0 : Int32} {h : HS} {q : Bool} (H : f_X6_isLetter p0 = some q) : CE G (d + 0) yX6_isLetter miX6_isLetter [.int p0] h (some (.int (b2i q))) (h) := by
  unfold f_X6_isLetter at H
  refine ce_of rfl (by decide) (fun q => by first | rfl | cases q) (Nat.le_of_ble_eq_true rfl) rfl ?_
  refine e_iload_n dX6_isLetter_0 rfl ?_
  refine e_bipush (v := (97 : Int32)) dX6_isLetter_1 (by decide) ?_
  refine e_icmp_lt (tgt := 16) dX6_isLetter_3 (by decide) (fun c1 => ?_) (fun c1 => ?_)
  · replace H := ot c1 H
    refine e_iconst (v := (0 : Int32)) dX6_isLetter_16 (by decide) ?_
    obtain rfl := Option.some.inj H
    exact z_iret rfl rfl dX6_isLetter_17 rfl rfl
  · replace H := of_ c1 H
    refine e_iload_n dX6_isLetter_6 rfl ?_
    refine e_bipush (v := (122 : Int32)) dX6_isLetter_7 (by decide) ?_
    refine e_icmp_gt (tgt := 16) dX6_isLetter_9 (by decide) (fun c2 => ?_) (fun c2 => ?_)
    · replace H := ot c2 H
      refine e_iconst (v := (0 : Int32)) dX6_isLetter_16 (by decide) ?_
      obtain rfl := Option.some.inj H
      exact z_iret rfl rfl dX6_isLetter_17 rfl rfl
    · replace H := of_ c2 H
      refine e_iconst (v := (1 : Int32)) dX6_isLetter_12 (by decide) ?_
      refine e_goto (tgt := 17) dX6_isLetter_13 (by decide) ?_
      obtain rfl := Option.some.inj H
      exact z_iret rfl rfl dX6_isLetter_17 rfl rfl
-- X6_endOfLetters
def l_X6_endOfLetters_2 (h : HS)  : Nat → Int32 → Option Int32
  | 0, _ => none
  | n + 1, x2 => (if (hI h 39 1) ≤ x2 then (some x2) else (Option.bind (f_X6_byteAt x2 h) (fun q8 => (Option.bind (f_X6_isLetter q8) (fun q10 => (if q10 = true then (l_X6_endOfLetters_2 h n (x2 + (1 : Int32))) else (some x2)))))))
set_option maxHeartbeats 4000000 in
set_option maxRecDepth 20000 in
theorem w_X6_endOfLetters_2 {G : GE} (d : Nat)  {h : HS} {r : Option Value} {h' : HS} (hYTX : LY TX h) : ∀ (n : Nat) {x2 : Int32} {q : Int32}, l_X6_endOfLetters_2 h n x2 = some q → En G (d + 1) miX6_endOfLetters 27 [dum, dum, .int q] [] h r h' → En G (d + 1) miX6_endOfLetters 2 [.ref 39, dum, .int x2] [] h r h' := by
  intro n
  induction n with
  | zero => intro x2 q H kE; exact nz H
  | succ n ih =>
    intro x2 q H kE
    unfold l_X6_endOfLetters_2 at H
    refine e_iload_n dX6_endOfLetters_2 rfl ?_
    refine g_aload_n dX6_endOfLetters_3 rfl rfl ?_
    refine e_getI (hYTX.t 7 rfl) flX6_15_7 dX6_endOfLetters_4 rfl ?_
    refine e_icmp_ge (tgt := 27) dX6_endOfLetters_7 (by decide) (fun c7 => ?_) (fun c7 => ?_)
    · replace H := ot c7 H
      obtain rfl := Option.some.inj H
      exact e_wk (lk0 (lk1 (lk1 lkn))) kE
    · replace H := of_ c7 H
      refine g_aload_n dX6_endOfLetters_10 rfl rfl ?_
      refine e_iload_n dX6_endOfLetters_11 rfl ?_
      replace H := ob H; obtain ⟨q8, c9, H⟩ := H
      refine v1 (hYTX.t 7 rfl) (by decide) rfl rfl lmX6_80 liX6_byteAt lvX6_X6_byteAt msX6_byteAt dX6_endOfLetters_12 (t_X6_byteAt (d + 0) hYTX c9) rfl (Nat.le_of_ble_eq_true rfl) (Nat.le_refl _) ?_
      replace H := ob H; obtain ⟨q10, c11, H⟩ := H
      refine s1 lmX6_94 lsX6_isLetter msX6_isLetter dX6_endOfLetters_15 (t_X6_isLetter (d + 0) c11) rfl (Nat.le_of_ble_eq_true rfl) (Nat.le_refl _) ?_
      refine e_ifB_eq (tgt := 27) dX6_endOfLetters_18 (by decide) (fun c12 => ?_) (fun c12 => ?_)
      · replace H := of_ (nb c12) H
        obtain rfl := Option.some.inj H
        exact e_wk (lk0 (lk1 (lk1 lkn))) kE
      · replace H := ot c12 H
        refine e_iinc dX6_endOfLetters_21 rfl (ii_ (by decide : Int32.ofInt (1) = (1 : Int32))) (Nat.le_of_ble_eq_true rfl) rfl rfl ?_
        refine e_goto (tgt := 2) dX6_endOfLetters_24 (by decide) ?_
        exact e_wk (lk1 (lk1 (lk1 lkn))) (ih H kE)
def f_X6_endOfLetters (p1 : Int32) (h : HS) : Option Int32 := (Option.bind (l_X6_endOfLetters_2 h 1000 p1) (fun q13 => (some q13)))
set_option maxHeartbeats 4000000 in
set_option maxRecDepth 20000 in
theorem t_X6_endOfLetters {G : GE} (d : Nat) {p1 : Int32} {h : HS} {q : Int32} (hY : LY TX h) (H : f_X6_endOfLetters p1 h = some q) : CE G (d + 1) yX6_endOfLetters miX6_endOfLetters [.ref 39, .int p1] h (some (.int q)) (h) := by
  unfold f_X6_endOfLetters at H
  refine ce_of rfl (by decide) (fun q => by first | rfl | cases q) (Nat.le_of_ble_eq_true rfl) rfl ?_
  refine e_iload_n dX6_endOfLetters_0 rfl ?_
  refine e_istore_n dX6_endOfLetters_1 (Nat.le_of_ble_eq_true rfl) rfl rfl ?_
  replace H := ob H; obtain ⟨q13, c14, H⟩ := H
  refine e_wk (lk1 (lk0 (lk1 lkn))) (w_X6_endOfLetters_2 d hY 1000 c14 ?_)
  refine e_iload_n dX6_endOfLetters_27 rfl ?_
  obtain rfl := Option.some.inj H
  exact z_iret rfl rfl dX6_endOfLetters_28 rfl rfl
-- X6_isWord
def l_X6_isWord_15 (y1 : Nat) (y2 : Int32) (h : HS)  : Nat → Int32 → Option (Bool ⊕ Unit)
  | 0, _ => none
  | n + 1, x4 => (if y1 < 13 then (Option.bind (f_J0_length_8abf5 y1) (fun q14 => (if q14 ≤ x4 then (some (Sum.inr ())) else (Option.bind (f_J0_charAt_5068e y1 x4) (fun q18 => (Option.bind (f_X6_byteAt (y2 + x4) h) (fun q20 => (if q18 = q20 then (l_X6_isWord_15 y1 y2 h n (x4 + (1 : Int32))) else (some (Sum.inl false)))))))))) else none)
set_option maxHeartbeats 4000000 in
set_option maxRecDepth 20000 in
theorem w_X6_isWord_15 {G : GE} (d : Nat) {y1 : Nat} {y2 : Int32} {h : HS} {r : Option Value} {h' : HS} (hYTX : LY TX h) : ∀ (n : Nat) {x4 : Int32} {q : (Bool ⊕ Unit)}, l_X6_isWord_15 y1 y2 h n x4 = some q → (∀ v, q = Sum.inl v → r = some (.int (b2i v)) ∧ h' = h) → (∀ e, q = Sum.inr e → En G (d + 4) miX6_isWord 49 [dum, dum, dum, dum, dum] [] h r h') → En G (d + 4) miX6_isWord 15 [.ref 39, .ref y1, .int y2, dum, .int x4] [] h r h' := by
  intro n
  induction n with
  | zero => intro x4 q H kR kE; exact nz H
  | succ n ih =>
    intro x4 q H kR kE
    unfold l_X6_isWord_15 at H
    refine e_iload dX6_isWord_15 rfl ?_
    refine g_aload_n dX6_isWord_17 rfl rfl ?_
    replace H := og H; obtain ⟨g16, H⟩ := H
    replace H := ob H; obtain ⟨q14, c15, H⟩ := H
    refine c1 g16 rfl lmX6_40 liJ0_length_8abf5 lvJ0_J0_length_8abf5 msJ0_length_8abf5 dX6_isWord_18 (t_J0_length_8abf5 (d + 2) c15) rfl (Nat.le_of_ble_eq_true rfl) (Nat.le_refl _) ?_
    refine e_icmp_ge (tgt := 49) dX6_isWord_21 (by decide) (fun c17 => ?_) (fun c17 => ?_)
    · replace H := ot c17 H
      obtain rfl := Option.some.inj H
      exact e_wk (lk0 (lk0 (lk0 (lk1 (lk0 lkn))))) (kE _ rfl)
    · replace H := of_ c17 H
      refine g_aload_n dX6_isWord_24 rfl rfl ?_
      refine e_iload dX6_isWord_25 rfl ?_
      replace H := ob H; obtain ⟨q18, c19, H⟩ := H
      refine c1 g16 rfl lmX6_46 liJ0_charAt_5068e lvJ0_J0_charAt_5068e msJ0_charAt_5068e dX6_isWord_27 (t_J0_charAt_5068e (d + 0) c19) rfl (Nat.le_of_ble_eq_true rfl) (Nat.le_refl _) ?_
      refine g_aload_n dX6_isWord_30 rfl rfl ?_
      refine e_iload_n dX6_isWord_31 rfl ?_
      refine e_iload dX6_isWord_32 rfl ?_
      refine e_iadd dX6_isWord_34 ?_
      replace H := ob H; obtain ⟨q20, c21, H⟩ := H
      refine v1 (hYTX.t 7 rfl) (by decide) rfl rfl lmX6_80 liX6_byteAt lvX6_X6_byteAt msX6_byteAt dX6_isWord_35 (t_X6_byteAt (d + 3) hYTX c21) rfl (Nat.le_of_ble_eq_true rfl) (Nat.le_refl _) ?_
      refine e_icmp_eq (tgt := 43) dX6_isWord_38 (by decide) (fun c22 => ?_) (fun c22 => ?_)
      · replace H := ot c22 H
        refine e_iinc dX6_isWord_43 rfl (ii_ (by decide : Int32.ofInt (1) = (1 : Int32))) (Nat.le_of_ble_eq_true rfl) rfl rfl ?_
        refine e_goto (tgt := 15) dX6_isWord_46 (by decide) ?_
        exact e_wk (lk1 (lk1 (lk1 (lk1 (lk1 lkn))))) (ih H kR kE)
      · replace H := of_ c22 H
        refine e_iconst (v := (0 : Int32)) dX6_isWord_41 (by decide) ?_
        obtain rfl := Option.some.inj H
        obtain ⟨eR, eH⟩ := kR _ rfl
        exact z_iret rfl rfl dX6_isWord_42 eR eH
def f_X6_isWord (p1 : Nat) (p2 : Int32) (p3 : Int32) (h : HS) : Option Bool := (if p1 < 13 then (Option.bind (f_J0_length_8abf5 p1) (fun q1 => (if q1 = (p3 - p2) then (Option.bind (l_X6_isWord_15 p1 p2 h 1000 (0 : Int32)) (fun q23 => (Sum.elim (fun v => some v) (fun e25 => (some true)) q23))) else (some false)))) else none)
set_option maxHeartbeats 4000000 in
set_option maxRecDepth 20000 in
theorem t_X6_isWord {G : GE} (d : Nat) {p1 : Nat} {p2 : Int32} {p3 : Int32} {h : HS} {q : Bool} (hY : LY TX h) (H : f_X6_isWord p1 p2 p3 h = some q) : CE G (d + 4) yX6_isWord miX6_isWord [.ref 39, .ref p1, .int p2, .int p3] h (some (.int (b2i q))) (h) := by
  unfold f_X6_isWord at H
  refine ce_of rfl (by decide) (fun q => by first | rfl | cases q) (Nat.le_of_ble_eq_true rfl) rfl ?_
  refine g_aload_n dX6_isWord_0 rfl rfl ?_
  replace H := og H; obtain ⟨g3, H⟩ := H
  replace H := ob H; obtain ⟨q1, c2, H⟩ := H
  refine c1 g3 rfl lmX6_40 liJ0_length_8abf5 lvJ0_J0_length_8abf5 msJ0_length_8abf5 dX6_isWord_1 (t_J0_length_8abf5 (d + 2) c2) rfl (Nat.le_of_ble_eq_true rfl) (Nat.le_refl _) ?_
  refine e_iload_n dX6_isWord_4 rfl ?_
  refine e_iload_n dX6_isWord_5 rfl ?_
  refine e_isub dX6_isWord_6 ?_
  refine e_icmp_eq (tgt := 12) dX6_isWord_7 (by decide) (fun c4 => ?_) (fun c4 => ?_)
  · replace H := ot c4 H
    refine e_iconst (v := (0 : Int32)) dX6_isWord_12 (by decide) ?_
    refine e_istore dX6_isWord_13 (Nat.le_of_ble_eq_true rfl) rfl rfl ?_
    replace H := ob H; obtain ⟨q23, c24, H⟩ := H
    refine e_wk (lk1 (lk1 (lk1 (lk0 (lk1 lkn))))) (w_X6_isWord_15 d hY 1000 c24 (fun v26 E0 => ?_) (fun e25 E0 => ?_))
    · subst E0; replace H := oSl H; obtain rfl := Option.some.inj H
      exact ⟨rfl, rfl⟩
    · subst E0; replace H := oSr H
      refine e_iconst (v := (1 : Int32)) dX6_isWord_49 (by decide) ?_
      obtain rfl := Option.some.inj H
      exact z_iret rfl rfl dX6_isWord_50 rfl rfl
  · replace H := of_ c4 H
    refine e_iconst (v := (0 : Int32)) dX6_isWord_10 (by decide) ?_
    obtain rfl := Option.some.inj H
    exact z_iret rfl rfl dX6_isWord_11 rfl rfl
-- X6_wordToken
def f_X6_wordToken (p1 : Int32) (p2 : Int32) (h : HS) : Option Int32 := (Option.bind (f_X6_isWord 1 p1 p2 h) (fun q1 => (if q1 = true then (some (10200 : Int32)) else (Option.bind (f_X6_isWord 2 p1 p2 h) (fun q4 => (if q4 = true then (some (10201 : Int32)) else (Option.bind (f_X6_isWord 3 p1 p2 h) (fun q7 => (if q7 = true then (some (10202 : Int32)) else (Option.bind (f_X6_isWord 4 p1 p2 h) (fun q10 => (if q10 = true then (some (10203 : Int32)) else (Option.bind (f_X6_isWord 5 p1 p2 h) (fun q13 => (if q13 = true then (some (10204 : Int32)) else (Option.bind (f_X6_isWord 6 p1 p2 h) (fun q16 => (if q16 = true then (some (10205 : Int32)) else (Option.bind (f_X6_isWord 7 p1 p2 h) (fun q19 => (if q19 = true then (some (10210 : Int32)) else (Option.bind (f_X6_isWord 8 p1 p2 h) (fun q22 => (if q22 = true then (some (10211 : Int32)) else (Option.bind (f_X6_isWord 9 p1 p2 h) (fun q25 => (if q25 = true then (some (10212 : Int32)) else (Option.bind (f_X6_isWord 10 p1 p2 h) (fun q28 => (if q28 = true then (some (10220 : Int32)) else (Option.bind (f_X6_isWord 11 p1 p2 h) (fun q31 => (if q31 = true then (some (10221 : Int32)) else (Option.bind (f_X6_isWord 12 p1 p2 h) (fun q34 => (if q34 = true then (some (10222 : Int32)) else (some (10301 : Int32))))))))))))))))))))))))))))))))))))))
set_option maxHeartbeats 4000000 in
set_option maxRecDepth 20000 in
theorem t_X6_wordToken {G : GE} (d : Nat) {p1 : Int32} {p2 : Int32} {h : HS} {q : Int32} (hY : LY TX h) (H : f_X6_wordToken p1 p2 h = some q) : CE G (d + 5) yX6_wordToken miX6_wordToken [.ref 39, .int p1, .int p2] h (some (.int q)) (h) := by
  unfold f_X6_wordToken at H
  refine ce_of rfl (by decide) (fun q => by first | rfl | cases q) (Nat.le_of_ble_eq_true rfl) rfl ?_
  refine g_aload_n dX6_wordToken_0 rfl rfl ?_
  refine e_ldcS (i := 1) rfl (by decide) dX6_wordToken_1 ?_
  refine e_iload_n dX6_wordToken_3 rfl ?_
  refine e_iload_n dX6_wordToken_4 rfl ?_
  replace H := ob H; obtain ⟨q1, c2, H⟩ := H
  refine v1 (hY.t 7 rfl) (by decide) rfl rfl lmX6_108 liX6_isWord lvX6_X6_isWord msX6_isWord dX6_wordToken_5 (t_X6_isWord (d + 0) hY c2) rfl (Nat.le_of_ble_eq_true rfl) (Nat.le_refl _) ?_
  refine e_ifB_eq (tgt := 15) dX6_wordToken_8 (by decide) (fun c3 => ?_) (fun c3 => ?_)
  · replace H := of_ (nb c3) H
    refine g_aload_n dX6_wordToken_15 rfl rfl ?_
    refine e_ldcS (i := 2) rfl (by decide) dX6_wordToken_16 ?_
    refine e_iload_n dX6_wordToken_18 rfl ?_
    refine e_iload_n dX6_wordToken_19 rfl ?_
    replace H := ob H; obtain ⟨q4, c5, H⟩ := H
    refine v1 (hY.t 7 rfl) (by decide) rfl rfl lmX6_108 liX6_isWord lvX6_X6_isWord msX6_isWord dX6_wordToken_20 (t_X6_isWord (d + 0) hY c5) rfl (Nat.le_of_ble_eq_true rfl) (Nat.le_refl _) ?_
    refine e_ifB_eq (tgt := 30) dX6_wordToken_23 (by decide) (fun c6 => ?_) (fun c6 => ?_)
    · replace H := of_ (nb c6) H
      refine g_aload_n dX6_wordToken_30 rfl rfl ?_
      refine e_ldcS (i := 3) rfl (by decide) dX6_wordToken_31 ?_
      refine e_iload_n dX6_wordToken_33 rfl ?_
      refine e_iload_n dX6_wordToken_34 rfl ?_
      replace H := ob H; obtain ⟨q7, c8, H⟩ := H
      refine v1 (hY.t 7 rfl) (by decide) rfl rfl lmX6_108 liX6_isWord lvX6_X6_isWord msX6_isWord dX6_wordToken_35 (t_X6_isWord (d + 0) hY c8) rfl (Nat.le_of_ble_eq_true rfl) (Nat.le_refl _) ?_
      refine e_ifB_eq (tgt := 45) dX6_wordToken_38 (by decide) (fun c9 => ?_) (fun c9 => ?_)
      · replace H := of_ (nb c9) H
        refine g_aload_n dX6_wordToken_45 rfl rfl ?_
        refine e_ldcS (i := 4) rfl (by decide) dX6_wordToken_46 ?_
        refine e_iload_n dX6_wordToken_48 rfl ?_
        refine e_iload_n dX6_wordToken_49 rfl ?_
        replace H := ob H; obtain ⟨q10, c11, H⟩ := H
        refine v1 (hY.t 7 rfl) (by decide) rfl rfl lmX6_108 liX6_isWord lvX6_X6_isWord msX6_isWord dX6_wordToken_50 (t_X6_isWord (d + 0) hY c11) rfl (Nat.le_of_ble_eq_true rfl) (Nat.le_refl _) ?_
        refine e_ifB_eq (tgt := 60) dX6_wordToken_53 (by decide) (fun c12 => ?_) (fun c12 => ?_)
        · replace H := of_ (nb c12) H
          refine g_aload_n dX6_wordToken_60 rfl rfl ?_
          refine e_ldcS (i := 5) rfl (by decide) dX6_wordToken_61 ?_
          refine e_iload_n dX6_wordToken_63 rfl ?_
          refine e_iload_n dX6_wordToken_64 rfl ?_
          replace H := ob H; obtain ⟨q13, c14, H⟩ := H
          refine v1 (hY.t 7 rfl) (by decide) rfl rfl lmX6_108 liX6_isWord lvX6_X6_isWord msX6_isWord dX6_wordToken_65 (t_X6_isWord (d + 0) hY c14) rfl (Nat.le_of_ble_eq_true rfl) (Nat.le_refl _) ?_
          refine e_ifB_eq (tgt := 75) dX6_wordToken_68 (by decide) (fun c15 => ?_) (fun c15 => ?_)
          · replace H := of_ (nb c15) H
            refine g_aload_n dX6_wordToken_75 rfl rfl ?_
            refine e_ldcS (i := 6) rfl (by decide) dX6_wordToken_76 ?_
            refine e_iload_n dX6_wordToken_78 rfl ?_
            refine e_iload_n dX6_wordToken_79 rfl ?_
            replace H := ob H; obtain ⟨q16, c17, H⟩ := H
            refine v1 (hY.t 7 rfl) (by decide) rfl rfl lmX6_108 liX6_isWord lvX6_X6_isWord msX6_isWord dX6_wordToken_80 (t_X6_isWord (d + 0) hY c17) rfl (Nat.le_of_ble_eq_true rfl) (Nat.le_refl _) ?_
            refine e_ifB_eq (tgt := 90) dX6_wordToken_83 (by decide) (fun c18 => ?_) (fun c18 => ?_)
            · replace H := of_ (nb c18) H
              refine g_aload_n dX6_wordToken_90 rfl rfl ?_
              refine e_ldcS (i := 7) rfl (by decide) dX6_wordToken_91 ?_
              refine e_iload_n dX6_wordToken_93 rfl ?_
              refine e_iload_n dX6_wordToken_94 rfl ?_
              replace H := ob H; obtain ⟨q19, c20, H⟩ := H
              refine v1 (hY.t 7 rfl) (by decide) rfl rfl lmX6_108 liX6_isWord lvX6_X6_isWord msX6_isWord dX6_wordToken_95 (t_X6_isWord (d + 0) hY c20) rfl (Nat.le_of_ble_eq_true rfl) (Nat.le_refl _) ?_
              refine e_ifB_eq (tgt := 105) dX6_wordToken_98 (by decide) (fun c21 => ?_) (fun c21 => ?_)
              · replace H := of_ (nb c21) H
                refine g_aload_n dX6_wordToken_105 rfl rfl ?_
                refine e_ldcS (i := 8) rfl (by decide) dX6_wordToken_106 ?_
                refine e_iload_n dX6_wordToken_108 rfl ?_
                refine e_iload_n dX6_wordToken_109 rfl ?_
                replace H := ob H; obtain ⟨q22, c23, H⟩ := H
                refine v1 (hY.t 7 rfl) (by decide) rfl rfl lmX6_108 liX6_isWord lvX6_X6_isWord msX6_isWord dX6_wordToken_110 (t_X6_isWord (d + 0) hY c23) rfl (Nat.le_of_ble_eq_true rfl) (Nat.le_refl _) ?_
                refine e_ifB_eq (tgt := 120) dX6_wordToken_113 (by decide) (fun c24 => ?_) (fun c24 => ?_)
                · replace H := of_ (nb c24) H
                  refine g_aload_n dX6_wordToken_120 rfl rfl ?_
                  refine e_ldcS (i := 9) rfl (by decide) dX6_wordToken_121 ?_
                  refine e_iload_n dX6_wordToken_123 rfl ?_
                  refine e_iload_n dX6_wordToken_124 rfl ?_
                  replace H := ob H; obtain ⟨q25, c26, H⟩ := H
                  refine v1 (hY.t 7 rfl) (by decide) rfl rfl lmX6_108 liX6_isWord lvX6_X6_isWord msX6_isWord dX6_wordToken_125 (t_X6_isWord (d + 0) hY c26) rfl (Nat.le_of_ble_eq_true rfl) (Nat.le_refl _) ?_
                  refine e_ifB_eq (tgt := 135) dX6_wordToken_128 (by decide) (fun c27 => ?_) (fun c27 => ?_)
                  · replace H := of_ (nb c27) H
                    refine g_aload_n dX6_wordToken_135 rfl rfl ?_
                    refine e_ldcS (i := 10) rfl (by decide) dX6_wordToken_136 ?_
                    refine e_iload_n dX6_wordToken_138 rfl ?_
                    refine e_iload_n dX6_wordToken_139 rfl ?_
                    replace H := ob H; obtain ⟨q28, c29, H⟩ := H
                    refine v1 (hY.t 7 rfl) (by decide) rfl rfl lmX6_108 liX6_isWord lvX6_X6_isWord msX6_isWord dX6_wordToken_140 (t_X6_isWord (d + 0) hY c29) rfl (Nat.le_of_ble_eq_true rfl) (Nat.le_refl _) ?_
                    refine e_ifB_eq (tgt := 150) dX6_wordToken_143 (by decide) (fun c30 => ?_) (fun c30 => ?_)
                    · replace H := of_ (nb c30) H
                      refine g_aload_n dX6_wordToken_150 rfl rfl ?_
                      refine e_ldcS (i := 11) rfl (by decide) dX6_wordToken_151 ?_
                      refine e_iload_n dX6_wordToken_153 rfl ?_
                      refine e_iload_n dX6_wordToken_154 rfl ?_
                      replace H := ob H; obtain ⟨q31, c32, H⟩ := H
                      refine v1 (hY.t 7 rfl) (by decide) rfl rfl lmX6_108 liX6_isWord lvX6_X6_isWord msX6_isWord dX6_wordToken_155 (t_X6_isWord (d + 0) hY c32) rfl (Nat.le_of_ble_eq_true rfl) (Nat.le_refl _) ?_
                      refine e_ifB_eq (tgt := 165) dX6_wordToken_158 (by decide) (fun c33 => ?_) (fun c33 => ?_)
                      · replace H := of_ (nb c33) H
                        refine g_aload_n dX6_wordToken_165 rfl rfl ?_
                        refine e_ldcS (i := 12) rfl (by decide) dX6_wordToken_166 ?_
                        refine e_iload_n dX6_wordToken_168 rfl ?_
                        refine e_iload_n dX6_wordToken_169 rfl ?_
                        replace H := ob H; obtain ⟨q34, c35, H⟩ := H
                        refine v1 (hY.t 7 rfl) (by decide) rfl rfl lmX6_108 liX6_isWord lvX6_X6_isWord msX6_isWord dX6_wordToken_170 (t_X6_isWord (d + 0) hY c35) rfl (Nat.le_of_ble_eq_true rfl) (Nat.le_refl _) ?_
                        refine e_ifB_eq (tgt := 180) dX6_wordToken_173 (by decide) (fun c36 => ?_) (fun c36 => ?_)
                        · replace H := of_ (nb c36) H
                          refine e_sipush (v := (10301 : Int32)) dX6_wordToken_180 (by decide) ?_
                          obtain rfl := Option.some.inj H
                          exact z_iret rfl rfl dX6_wordToken_183 rfl rfl
                        · replace H := ot c36 H
                          refine e_sipush (v := (10222 : Int32)) dX6_wordToken_176 (by decide) ?_
                          obtain rfl := Option.some.inj H
                          exact z_iret rfl rfl dX6_wordToken_179 rfl rfl
                      · replace H := ot c33 H
                        refine e_sipush (v := (10221 : Int32)) dX6_wordToken_161 (by decide) ?_
                        obtain rfl := Option.some.inj H
                        exact z_iret rfl rfl dX6_wordToken_164 rfl rfl
                    · replace H := ot c30 H
                      refine e_sipush (v := (10220 : Int32)) dX6_wordToken_146 (by decide) ?_
                      obtain rfl := Option.some.inj H
                      exact z_iret rfl rfl dX6_wordToken_149 rfl rfl
                  · replace H := ot c27 H
                    refine e_sipush (v := (10212 : Int32)) dX6_wordToken_131 (by decide) ?_
                    obtain rfl := Option.some.inj H
                    exact z_iret rfl rfl dX6_wordToken_134 rfl rfl
                · replace H := ot c24 H
                  refine e_sipush (v := (10211 : Int32)) dX6_wordToken_116 (by decide) ?_
                  obtain rfl := Option.some.inj H
                  exact z_iret rfl rfl dX6_wordToken_119 rfl rfl
              · replace H := ot c21 H
                refine e_sipush (v := (10210 : Int32)) dX6_wordToken_101 (by decide) ?_
                obtain rfl := Option.some.inj H
                exact z_iret rfl rfl dX6_wordToken_104 rfl rfl
            · replace H := ot c18 H
              refine e_sipush (v := (10205 : Int32)) dX6_wordToken_86 (by decide) ?_
              obtain rfl := Option.some.inj H
              exact z_iret rfl rfl dX6_wordToken_89 rfl rfl
          · replace H := ot c15 H
            refine e_sipush (v := (10204 : Int32)) dX6_wordToken_71 (by decide) ?_
            obtain rfl := Option.some.inj H
            exact z_iret rfl rfl dX6_wordToken_74 rfl rfl
        · replace H := ot c12 H
          refine e_sipush (v := (10203 : Int32)) dX6_wordToken_56 (by decide) ?_
          obtain rfl := Option.some.inj H
          exact z_iret rfl rfl dX6_wordToken_59 rfl rfl
      · replace H := ot c9 H
        refine e_sipush (v := (10202 : Int32)) dX6_wordToken_41 (by decide) ?_
        obtain rfl := Option.some.inj H
        exact z_iret rfl rfl dX6_wordToken_44 rfl rfl
    · replace H := ot c6 H
      refine e_sipush (v := (10201 : Int32)) dX6_wordToken_26 (by decide) ?_
      obtain rfl := Option.some.inj H
      exact z_iret rfl rfl dX6_wordToken_29 rfl rfl
  · replace H := ot c3 H
    refine e_sipush (v := (10200 : Int32)) dX6_wordToken_11 (by decide) ?_
    obtain rfl := Option.some.inj H
    exact z_iret rfl rfl dX6_wordToken_14 rfl rfl
-- X6_isSign
def f_X6_isSign (p0 : Int32) : Option Bool := (if p0 = (40 : Int32) then (some true) else (if p0 = (41 : Int32) then (some true) else (if p0 = (42 : Int32) then (some true) else (if p0 = (43 : Int32) then (some true) else (if p0 = (44 : Int32) then (some false) else (if p0 = (45 : Int32) then (some true) else (if p0 = (46 : Int32) then (some false) else (if p0 = (47 : Int32) then (some false) else (if p0 = (48 : Int32) then (some false) else (if p0 = (49 : Int32) then (some false) else (if p0 = (50 : Int32) then (some false) else (if p0 = (51 : Int32) then (some false) else (if p0 = (52 : Int32) then (some false) else (if p0 = (53 : Int32) then (some false) else (if p0 = (54 : Int32) then (some false) else (if p0 = (55 : Int32) then (some false) else (if p0 = (56 : Int32) then (some false) else (if p0 = (57 : Int32) then (some false) else (if p0 = (58 : Int32) then (some false) else (if p0 = (59 : Int32) then (some true) else (if p0 = (60 : Int32) then (some true) else (if p0 = (61 : Int32) then (some true) else (some false)))))))))))))))))))))))
set_option maxHeartbeats 4000000 in
set_option maxRecDepth 20000 in
theorem t_X6_isSign {G : GE} (d : Nat) {p0 : Int32} {h : HS} {q : Bool} (H : f_X6_isSign p0 = some q) : CE G (d + 0) yX6_isSign miX6_isSign [.int p0] h (some (.int (b2i q))) (h) := by
  unfold f_X6_isSign at H
  refine ce_of rfl (by decide) (fun q => by first | rfl | cases q) (Nat.le_of_ble_eq_true rfl) rfl ?_
  refine e_iload_n dX6_isSign_0 rfl ?_
  by_cases k1 : p0 = (40 : Int32)
  · replace H := ot k1 H
    refine e_tableIn (off := 103) (tgt := 104) dX6_isSign_1 (by rw [k1]; decide) (by rw [k1]; decide) (by rw [k1]; rfl) (by decide) ?_
    refine e_iconst (v := (1 : Int32)) dX6_isSign_104 (by decide) ?_
    obtain rfl := Option.some.inj H
    exact z_iret rfl rfl dX6_isSign_105 rfl rfl
  · replace H := of_ k1 H
    by_cases k2 : p0 = (41 : Int32)
    · replace H := ot k2 H
      refine e_tableIn (off := 103) (tgt := 104) dX6_isSign_1 (by rw [k2]; decide) (by rw [k2]; decide) (by rw [k2]; rfl) (by decide) ?_
      refine e_iconst (v := (1 : Int32)) dX6_isSign_104 (by decide) ?_
      obtain rfl := Option.some.inj H
      exact z_iret rfl rfl dX6_isSign_105 rfl rfl
    · replace H := of_ k2 H
      by_cases k3 : p0 = (42 : Int32)
      · replace H := ot k3 H
        refine e_tableIn (off := 103) (tgt := 104) dX6_isSign_1 (by rw [k3]; decide) (by rw [k3]; decide) (by rw [k3]; rfl) (by decide) ?_
        refine e_iconst (v := (1 : Int32)) dX6_isSign_104 (by decide) ?_
        obtain rfl := Option.some.inj H
        exact z_iret rfl rfl dX6_isSign_105 rfl rfl
      · replace H := of_ k3 H
        by_cases k4 : p0 = (43 : Int32)
        · replace H := ot k4 H
          refine e_tableIn (off := 103) (tgt := 104) dX6_isSign_1 (by rw [k4]; decide) (by rw [k4]; decide) (by rw [k4]; rfl) (by decide) ?_
          refine e_iconst (v := (1 : Int32)) dX6_isSign_104 (by decide) ?_
          obtain rfl := Option.some.inj H
          exact z_iret rfl rfl dX6_isSign_105 rfl rfl
        · replace H := of_ k4 H
          by_cases k5 : p0 = (44 : Int32)
          · replace H := ot k5 H
            refine e_tableIn (off := 105) (tgt := 106) dX6_isSign_1 (by rw [k5]; decide) (by rw [k5]; decide) (by rw [k5]; rfl) (by decide) ?_
            refine e_iconst (v := (0 : Int32)) dX6_isSign_106 (by decide) ?_
            obtain rfl := Option.some.inj H
            exact z_iret rfl rfl dX6_isSign_107 rfl rfl
          · replace H := of_ k5 H
            by_cases k6 : p0 = (45 : Int32)
            · replace H := ot k6 H
              refine e_tableIn (off := 103) (tgt := 104) dX6_isSign_1 (by rw [k6]; decide) (by rw [k6]; decide) (by rw [k6]; rfl) (by decide) ?_
              refine e_iconst (v := (1 : Int32)) dX6_isSign_104 (by decide) ?_
              obtain rfl := Option.some.inj H
              exact z_iret rfl rfl dX6_isSign_105 rfl rfl
            · replace H := of_ k6 H
              by_cases k7 : p0 = (46 : Int32)
              · replace H := ot k7 H
                refine e_tableIn (off := 105) (tgt := 106) dX6_isSign_1 (by rw [k7]; decide) (by rw [k7]; decide) (by rw [k7]; rfl) (by decide) ?_
                refine e_iconst (v := (0 : Int32)) dX6_isSign_106 (by decide) ?_
                obtain rfl := Option.some.inj H
                exact z_iret rfl rfl dX6_isSign_107 rfl rfl
              · replace H := of_ k7 H
                by_cases k8 : p0 = (47 : Int32)
                · replace H := ot k8 H
                  refine e_tableIn (off := 105) (tgt := 106) dX6_isSign_1 (by rw [k8]; decide) (by rw [k8]; decide) (by rw [k8]; rfl) (by decide) ?_
                  refine e_iconst (v := (0 : Int32)) dX6_isSign_106 (by decide) ?_
                  obtain rfl := Option.some.inj H
                  exact z_iret rfl rfl dX6_isSign_107 rfl rfl
                · replace H := of_ k8 H
                  by_cases k9 : p0 = (48 : Int32)
                  · replace H := ot k9 H
                    refine e_tableIn (off := 105) (tgt := 106) dX6_isSign_1 (by rw [k9]; decide) (by rw [k9]; decide) (by rw [k9]; rfl) (by decide) ?_
                    refine e_iconst (v := (0 : Int32)) dX6_isSign_106 (by decide) ?_
                    obtain rfl := Option.some.inj H
                    exact z_iret rfl rfl dX6_isSign_107 rfl rfl
                  · replace H := of_ k9 H
                    by_cases k10 : p0 = (49 : Int32)
                    · replace H := ot k10 H
                      refine e_tableIn (off := 105) (tgt := 106) dX6_isSign_1 (by rw [k10]; decide) (by rw [k10]; decide) (by rw [k10]; rfl) (by decide) ?_
                      refine e_iconst (v := (0 : Int32)) dX6_isSign_106 (by decide) ?_
                      obtain rfl := Option.some.inj H
                      exact z_iret rfl rfl dX6_isSign_107 rfl rfl
                    · replace H := of_ k10 H
                      by_cases k11 : p0 = (50 : Int32)
                      · replace H := ot k11 H
                        refine e_tableIn (off := 105) (tgt := 106) dX6_isSign_1 (by rw [k11]; decide) (by rw [k11]; decide) (by rw [k11]; rfl) (by decide) ?_
                        refine e_iconst (v := (0 : Int32)) dX6_isSign_106 (by decide) ?_
                        obtain rfl := Option.some.inj H
                        exact z_iret rfl rfl dX6_isSign_107 rfl rfl
                      · replace H := of_ k11 H
                        by_cases k12 : p0 = (51 : Int32)
                        · replace H := ot k12 H
                          refine e_tableIn (off := 105) (tgt := 106) dX6_isSign_1 (by rw [k12]; decide) (by rw [k12]; decide) (by rw [k12]; rfl) (by decide) ?_
                          refine e_iconst (v := (0 : Int32)) dX6_isSign_106 (by decide) ?_
                          obtain rfl := Option.some.inj H
                          exact z_iret rfl rfl dX6_isSign_107 rfl rfl
                        · replace H := of_ k12 H
                          by_cases k13 : p0 = (52 : Int32)
                          · replace H := ot k13 H
                            refine e_tableIn (off := 105) (tgt := 106) dX6_isSign_1 (by rw [k13]; decide) (by rw [k13]; decide) (by rw [k13]; rfl) (by decide) ?_
                            refine e_iconst (v := (0 : Int32)) dX6_isSign_106 (by decide) ?_
                            obtain rfl := Option.some.inj H
                            exact z_iret rfl rfl dX6_isSign_107 rfl rfl
                          · replace H := of_ k13 H
                            by_cases k14 : p0 = (53 : Int32)
                            · replace H := ot k14 H
                              refine e_tableIn (off := 105) (tgt := 106) dX6_isSign_1 (by rw [k14]; decide) (by rw [k14]; decide) (by rw [k14]; rfl) (by decide) ?_
                              refine e_iconst (v := (0 : Int32)) dX6_isSign_106 (by decide) ?_
                              obtain rfl := Option.some.inj H
                              exact z_iret rfl rfl dX6_isSign_107 rfl rfl
                            · replace H := of_ k14 H
                              by_cases k15 : p0 = (54 : Int32)
                              · replace H := ot k15 H
                                refine e_tableIn (off := 105) (tgt := 106) dX6_isSign_1 (by rw [k15]; decide) (by rw [k15]; decide) (by rw [k15]; rfl) (by decide) ?_
                                refine e_iconst (v := (0 : Int32)) dX6_isSign_106 (by decide) ?_
                                obtain rfl := Option.some.inj H
                                exact z_iret rfl rfl dX6_isSign_107 rfl rfl
                              · replace H := of_ k15 H
                                by_cases k16 : p0 = (55 : Int32)
                                · replace H := ot k16 H
                                  refine e_tableIn (off := 105) (tgt := 106) dX6_isSign_1 (by rw [k16]; decide) (by rw [k16]; decide) (by rw [k16]; rfl) (by decide) ?_
                                  refine e_iconst (v := (0 : Int32)) dX6_isSign_106 (by decide) ?_
                                  obtain rfl := Option.some.inj H
                                  exact z_iret rfl rfl dX6_isSign_107 rfl rfl
                                · replace H := of_ k16 H
                                  by_cases k17 : p0 = (56 : Int32)
                                  · replace H := ot k17 H
                                    refine e_tableIn (off := 105) (tgt := 106) dX6_isSign_1 (by rw [k17]; decide) (by rw [k17]; decide) (by rw [k17]; rfl) (by decide) ?_
                                    refine e_iconst (v := (0 : Int32)) dX6_isSign_106 (by decide) ?_
                                    obtain rfl := Option.some.inj H
                                    exact z_iret rfl rfl dX6_isSign_107 rfl rfl
                                  · replace H := of_ k17 H
                                    by_cases k18 : p0 = (57 : Int32)
                                    · replace H := ot k18 H
                                      refine e_tableIn (off := 105) (tgt := 106) dX6_isSign_1 (by rw [k18]; decide) (by rw [k18]; decide) (by rw [k18]; rfl) (by decide) ?_
                                      refine e_iconst (v := (0 : Int32)) dX6_isSign_106 (by decide) ?_
                                      obtain rfl := Option.some.inj H
                                      exact z_iret rfl rfl dX6_isSign_107 rfl rfl
                                    · replace H := of_ k18 H
                                      by_cases k19 : p0 = (58 : Int32)
                                      · replace H := ot k19 H
                                        refine e_tableIn (off := 105) (tgt := 106) dX6_isSign_1 (by rw [k19]; decide) (by rw [k19]; decide) (by rw [k19]; rfl) (by decide) ?_
                                        refine e_iconst (v := (0 : Int32)) dX6_isSign_106 (by decide) ?_
                                        obtain rfl := Option.some.inj H
                                        exact z_iret rfl rfl dX6_isSign_107 rfl rfl
                                      · replace H := of_ k19 H
                                        by_cases k20 : p0 = (59 : Int32)
                                        · replace H := ot k20 H
                                          refine e_tableIn (off := 103) (tgt := 104) dX6_isSign_1 (by rw [k20]; decide) (by rw [k20]; decide) (by rw [k20]; rfl) (by decide) ?_
                                          refine e_iconst (v := (1 : Int32)) dX6_isSign_104 (by decide) ?_
                                          obtain rfl := Option.some.inj H
                                          exact z_iret rfl rfl dX6_isSign_105 rfl rfl
                                        · replace H := of_ k20 H
                                          by_cases k21 : p0 = (60 : Int32)
                                          · replace H := ot k21 H
                                            refine e_tableIn (off := 103) (tgt := 104) dX6_isSign_1 (by rw [k21]; decide) (by rw [k21]; decide) (by rw [k21]; rfl) (by decide) ?_
                                            refine e_iconst (v := (1 : Int32)) dX6_isSign_104 (by decide) ?_
                                            obtain rfl := Option.some.inj H
                                            exact z_iret rfl rfl dX6_isSign_105 rfl rfl
                                          · replace H := of_ k21 H
                                            by_cases k22 : p0 = (61 : Int32)
                                            · replace H := ot k22 H
                                              refine e_tableIn (off := 103) (tgt := 104) dX6_isSign_1 (by rw [k22]; decide) (by rw [k22]; decide) (by rw [k22]; rfl) (by decide) ?_
                                              refine e_iconst (v := (1 : Int32)) dX6_isSign_104 (by decide) ?_
                                              obtain rfl := Option.some.inj H
                                              exact z_iret rfl rfl dX6_isSign_105 rfl rfl
                                            · replace H := of_ k22 H
                                              refine e_tableOut (tgt := 106) dX6_isSign_1 (by have q40 : p0.toInt ≠ 40 := i32_ne k1; have q41 : p0.toInt ≠ 41 := i32_ne k2; have q42 : p0.toInt ≠ 42 := i32_ne k3; have q43 : p0.toInt ≠ 43 := i32_ne k4; have q44 : p0.toInt ≠ 44 := i32_ne k5; have q45 : p0.toInt ≠ 45 := i32_ne k6; have q46 : p0.toInt ≠ 46 := i32_ne k7; have q47 : p0.toInt ≠ 47 := i32_ne k8; have q48 : p0.toInt ≠ 48 := i32_ne k9; have q49 : p0.toInt ≠ 49 := i32_ne k10; have q50 : p0.toInt ≠ 50 := i32_ne k11; have q51 : p0.toInt ≠ 51 := i32_ne k12; have q52 : p0.toInt ≠ 52 := i32_ne k13; have q53 : p0.toInt ≠ 53 := i32_ne k14; have q54 : p0.toInt ≠ 54 := i32_ne k15; have q55 : p0.toInt ≠ 55 := i32_ne k16; have q56 : p0.toInt ≠ 56 := i32_ne k17; have q57 : p0.toInt ≠ 57 := i32_ne k18; have q58 : p0.toInt ≠ 58 := i32_ne k19; have q59 : p0.toInt ≠ 59 := i32_ne k20; have q60 : p0.toInt ≠ 60 := i32_ne k21; have q61 : p0.toInt ≠ 61 := i32_ne k22; omega) (by decide) ?_
                                              refine e_iconst (v := (0 : Int32)) dX6_isSign_106 (by decide) ?_
                                              obtain rfl := Option.some.inj H
                                              exact z_iret rfl rfl dX6_isSign_107 rfl rfl
-- X6_splitOne
def f_X6_splitOne (p1 : Int32) (h : HS) : Option (Int32 × HS) := (Option.bind (f_X6_byteAt p1 h) (fun q1 => (if q1 = (32 : Int32) then (some ((p1 + (1 : Int32)), h)) else (if q1 = (10 : Int32) then (some ((p1 + (1 : Int32)), h)) else (Option.bind (f_X6_isDigit q1) (fun q5 => (if q5 = true then (Option.bind (f_X6_endOfDigits p1 h) (fun q29 => (Option.bind (if (4 : Int32) < (q29 - p1) then (some (10301 : Int32)) else (Option.bind (f_X6_numberToken p1 q29 h) (fun q34 => (some q34)))) (fun q32 => (Option.bind (f_X6_addToken q32 p1 h) (fun q37 => (some (q29, q37)))))))) else (Option.bind (f_X6_isLetter q1) (fun q8 => (if q8 = true then (Option.bind (f_X6_endOfLetters p1 h) (fun q21 => (Option.bind (f_X6_wordToken p1 q21 h) (fun q23 => (Option.bind (f_X6_addToken q23 p1 h) (fun q25 => (some (q21, q25)))))))) else (Option.bind (f_X6_isSign q1) (fun q11 => (Option.bind (if q11 = true then (some ((10000 : Int32) + q1)) else (some (10301 : Int32))) (fun q14 => (Option.bind (f_X6_addToken q14 p1 h) (fun q17 => (some ((p1 + (1 : Int32)), q17))))))))))))))))))
set_option maxHeartbeats 4000000 in
set_option maxRecDepth 20000 in
theorem p_X6_splitOne {p1 : Int32} {h : HS} {q : (Int32 × HS)} (H : f_X6_splitOne p1 h = some q) : Pr h q.2 := by
  unfold f_X6_splitOne at H
  replace H := ob H; obtain ⟨q1, c2, H⟩ := H
  replace H := oi H; obtain ⟨c3, H⟩ | ⟨c3, H⟩ := H
  · obtain rfl := Option.some.inj H
    exact Pr.rf
  · replace H := oi H; obtain ⟨c4, H⟩ | ⟨c4, H⟩ := H
    · obtain rfl := Option.some.inj H
      exact Pr.rf
    · replace H := ob H; obtain ⟨q5, c6, H⟩ := H
      replace H := oi H; obtain ⟨c7, H⟩ | ⟨c7, H⟩ := H
      · replace H := ob H; obtain ⟨q29, c30, H⟩ := H
        replace H := ob H; obtain ⟨q32, c36, H⟩ := H
        replace H := ob H; obtain ⟨q37, c38, H⟩ := H
        have e39 := p_X6_addToken c38
        obtain rfl := Option.some.inj H
        exact e39
      · replace H := ob H; obtain ⟨q8, c9, H⟩ := H
        replace H := oi H; obtain ⟨c10, H⟩ | ⟨c10, H⟩ := H
        · replace H := ob H; obtain ⟨q21, c22, H⟩ := H
          replace H := ob H; obtain ⟨q23, c24, H⟩ := H
          replace H := ob H; obtain ⟨q25, c26, H⟩ := H
          have e27 := p_X6_addToken c26
          obtain rfl := Option.some.inj H
          exact e27
        · replace H := ob H; obtain ⟨q11, c12, H⟩ := H
          replace H := ob H; obtain ⟨q14, c16, H⟩ := H
          replace H := ob H; obtain ⟨q17, c18, H⟩ := H
          have e19 := p_X6_addToken c18
          obtain rfl := Option.some.inj H
          exact e19
set_option maxHeartbeats 4000000 in
set_option maxRecDepth 20000 in
theorem t_X6_splitOne {G : GE} (d : Nat) {p1 : Int32} {h : HS} {q : (Int32 × HS)} (hY : LY TX h) (H : f_X6_splitOne p1 h = some q) : CE G (d + 6) yX6_splitOne miX6_splitOne [.ref 39, .int p1] h (some (.int q.1)) (q.2) := by
  unfold f_X6_splitOne at H
  refine ce_of rfl (by decide) (fun q => by first | rfl | cases q) (Nat.le_of_ble_eq_true rfl) rfl ?_
  refine g_aload_n dX6_splitOne_0 rfl rfl ?_
  refine e_iload_n dX6_splitOne_1 rfl ?_
  replace H := ob H; obtain ⟨q1, c2, H⟩ := H
  refine v1 (hY.t 7 rfl) (by decide) rfl rfl lmX6_80 liX6_byteAt lvX6_X6_byteAt msX6_byteAt dX6_splitOne_2 (t_X6_byteAt (d + 5) hY c2) rfl (Nat.le_of_ble_eq_true rfl) (Nat.le_refl _) ?_
  refine e_istore_n dX6_splitOne_5 (Nat.le_of_ble_eq_true rfl) rfl rfl ?_
  refine e_iload_n dX6_splitOne_6 rfl ?_
  refine e_bipush (v := (32 : Int32)) dX6_splitOne_7 (by decide) ?_
  refine e_icmp_eq (tgt := 18) dX6_splitOne_9 (by decide) (fun c3 => ?_) (fun c3 => ?_)
  · replace H := ot c3 H
    refine e_iload_n dX6_splitOne_18 rfl ?_
    refine e_iconst (v := (1 : Int32)) dX6_splitOne_19 (by decide) ?_
    refine e_iadd dX6_splitOne_20 ?_
    obtain rfl := Option.some.inj H
    exact z_iret rfl rfl dX6_splitOne_21 rfl rfl
  · replace H := of_ c3 H
    refine e_iload_n dX6_splitOne_12 rfl ?_
    refine e_bipush (v := (10 : Int32)) dX6_splitOne_13 (by decide) ?_
    refine e_icmp_ne (tgt := 22) dX6_splitOne_15 (by decide) (fun c4 => ?_) (fun c4 => ?_)
    · replace H := of_ c4 H
      refine e_iload_n dX6_splitOne_22 rfl ?_
      refine e_iconst (v := (1 : Int32)) dX6_splitOne_23 (by decide) ?_
      refine e_iadd dX6_splitOne_24 ?_
      refine e_istore_n dX6_splitOne_25 (Nat.le_of_ble_eq_true rfl) rfl rfl ?_
      refine e_iload_n dX6_splitOne_26 rfl ?_
      replace H := ob H; obtain ⟨q5, c6, H⟩ := H
      refine s1 lmX6_83 lsX6_isDigit msX6_isDigit dX6_splitOne_27 (t_X6_isDigit (d + 5) c6) rfl (Nat.le_of_ble_eq_true rfl) (Nat.le_refl _) ?_
      refine e_ifB_eq (tgt := 66) dX6_splitOne_30 (by decide) (fun c7 => ?_) (fun c7 => ?_)
      · replace H := of_ (nb c7) H
        refine e_iload_n dX6_splitOne_66 rfl ?_
        replace H := ob H; obtain ⟨q8, c9, H⟩ := H
        refine s1 lmX6_94 lsX6_isLetter msX6_isLetter dX6_splitOne_67 (t_X6_isLetter (d + 5) c9) rfl (Nat.le_of_ble_eq_true rfl) (Nat.le_refl _) ?_
        refine e_ifB_eq (tgt := 93) dX6_splitOne_70 (by decide) (fun c10 => ?_) (fun c10 => ?_)
        · replace H := of_ (nb c10) H
          refine g_aload_n dX6_splitOne_93 rfl rfl ?_
          refine e_iload_n dX6_splitOne_94 rfl ?_
          replace H := ob H; obtain ⟨q11, c12, H⟩ := H
          refine s1 lmX6_103 lsX6_isSign msX6_isSign dX6_splitOne_95 (t_X6_isSign (d + 5) c12) rfl (Nat.le_of_ble_eq_true rfl) (Nat.le_refl _) ?_
          replace H := ob H; obtain ⟨q14, c16, H⟩ := H
          have k15 : En G (d + 6) miX6_splitOne 112 [dum, .int p1, dum, .int (p1 + (1 : Int32))] [.int q14, .ref 39] h (some (.int q.1)) (q.2) := by
            refine e_iload_n dX6_splitOne_112 rfl ?_
            replace H := ob H; obtain ⟨q17, c18, H⟩ := H
            refine v0 (hY.t 7 rfl) (by decide) rfl rfl lmX6_76 liX6_addToken lvX6_X6_addToken msX6_addToken dX6_splitOne_113 (t_X6_addToken (d + 5) hY c18) rfl (Nat.le_of_ble_eq_true rfl) (Nat.le_refl _) ?_
            have e19 := p_X6_addToken c18
            have hY20 := hY.pr okX e19
            refine e_iload_n dX6_splitOne_116 rfl ?_
            obtain rfl := Option.some.inj H
            exact z_iret rfl rfl dX6_splitOne_117 rfl rfl
          replace H := c16
          refine e_ifB_eq (tgt := 109) dX6_splitOne_98 (by decide) (fun c13 => ?_) (fun c13 => ?_)
          · replace H := of_ (nb c13) H
            refine e_sipush (v := (10301 : Int32)) dX6_splitOne_109 (by decide) ?_
            obtain rfl := Option.some.inj H
            exact e_wk (lk0 (lk1 (lk0 (lk1 lkn)))) k15
          · replace H := ot c13 H
            refine e_sipush (v := (10000 : Int32)) dX6_splitOne_101 (by decide) ?_
            refine e_iload_n dX6_splitOne_104 rfl ?_
            refine e_iadd dX6_splitOne_105 ?_
            refine e_goto (tgt := 112) dX6_splitOne_106 (by decide) ?_
            obtain rfl := Option.some.inj H
            exact e_wk (lk0 (lk1 (lk0 (lk1 lkn)))) k15
        · replace H := ot c10 H
          refine g_aload_n dX6_splitOne_73 rfl rfl ?_
          refine e_iload_n dX6_splitOne_74 rfl ?_
          replace H := ob H; obtain ⟨q21, c22, H⟩ := H
          refine v1 (hY.t 7 rfl) (by decide) rfl rfl lmX6_97 liX6_endOfLetters lvX6_X6_endOfLetters msX6_endOfLetters dX6_splitOne_75 (t_X6_endOfLetters (d + 4) hY c22) rfl (Nat.le_of_ble_eq_true rfl) (Nat.le_refl _) ?_
          refine e_istore_n dX6_splitOne_78 (Nat.le_of_ble_eq_true rfl) rfl rfl ?_
          refine g_aload_n dX6_splitOne_79 rfl rfl ?_
          refine g_aload_n dX6_splitOne_80 rfl rfl ?_
          refine e_iload_n dX6_splitOne_81 rfl ?_
          refine e_iload_n dX6_splitOne_82 rfl ?_
          replace H := ob H; obtain ⟨q23, c24, H⟩ := H
          refine v1 (hY.t 7 rfl) (by decide) rfl rfl lmX6_100 liX6_wordToken lvX6_X6_wordToken msX6_wordToken dX6_splitOne_83 (t_X6_wordToken (d + 0) hY c24) rfl (Nat.le_of_ble_eq_true rfl) (Nat.le_refl _) ?_
          refine e_iload_n dX6_splitOne_86 rfl ?_
          replace H := ob H; obtain ⟨q25, c26, H⟩ := H
          refine v0 (hY.t 7 rfl) (by decide) rfl rfl lmX6_76 liX6_addToken lvX6_X6_addToken msX6_addToken dX6_splitOne_87 (t_X6_addToken (d + 5) hY c26) rfl (Nat.le_of_ble_eq_true rfl) (Nat.le_refl _) ?_
          have e27 := p_X6_addToken c26
          have hY28 := hY.pr okX e27
          refine e_goto (tgt := 116) dX6_splitOne_90 (by decide) ?_
          refine e_iload_n dX6_splitOne_116 rfl ?_
          obtain rfl := Option.some.inj H
          exact z_iret rfl rfl dX6_splitOne_117 rfl rfl
      · replace H := ot c7 H
        refine g_aload_n dX6_splitOne_33 rfl rfl ?_
        refine e_iload_n dX6_splitOne_34 rfl ?_
        replace H := ob H; obtain ⟨q29, c30, H⟩ := H
        refine v1 (hY.t 7 rfl) (by decide) rfl rfl lmX6_87 liX6_endOfDigits lvX6_X6_endOfDigits msX6_endOfDigits dX6_splitOne_35 (t_X6_endOfDigits (d + 4) hY c30) rfl (Nat.le_of_ble_eq_true rfl) (Nat.le_refl _) ?_
        refine e_istore_n dX6_splitOne_38 (Nat.le_of_ble_eq_true rfl) rfl rfl ?_
        refine g_aload_n dX6_splitOne_39 rfl rfl ?_
        refine e_iload_n dX6_splitOne_40 rfl ?_
        refine e_iload_n dX6_splitOne_41 rfl ?_
        refine e_isub dX6_splitOne_42 ?_
        refine e_iconst (v := (4 : Int32)) dX6_splitOne_43 (by decide) ?_
        replace H := ob H; obtain ⟨q32, c36, H⟩ := H
        have k33 : En G (d + 6) miX6_splitOne 59 [dum, .int p1, dum, .int q29] [.int q32, .ref 39] h (some (.int q.1)) (q.2) := by
          refine e_iload_n dX6_splitOne_59 rfl ?_
          replace H := ob H; obtain ⟨q37, c38, H⟩ := H
          refine v0 (hY.t 7 rfl) (by decide) rfl rfl lmX6_76 liX6_addToken lvX6_X6_addToken msX6_addToken dX6_splitOne_60 (t_X6_addToken (d + 5) hY c38) rfl (Nat.le_of_ble_eq_true rfl) (Nat.le_refl _) ?_
          have e39 := p_X6_addToken c38
          have hY40 := hY.pr okX e39
          refine e_goto (tgt := 116) dX6_splitOne_63 (by decide) ?_
          refine e_iload_n dX6_splitOne_116 rfl ?_
          obtain rfl := Option.some.inj H
          exact z_iret rfl rfl dX6_splitOne_117 rfl rfl
        replace H := c36
        refine e_icmp_gt (tgt := 56) dX6_splitOne_44 (by decide) (fun c31 => ?_) (fun c31 => ?_)
        · replace H := ot c31 H
          refine e_sipush (v := (10301 : Int32)) dX6_splitOne_56 (by decide) ?_
          obtain rfl := Option.some.inj H
          exact e_wk (lk0 (lk1 (lk0 (lk1 lkn)))) k33
        · replace H := of_ c31 H
          refine g_aload_n dX6_splitOne_47 rfl rfl ?_
          refine e_iload_n dX6_splitOne_48 rfl ?_
          refine e_iload_n dX6_splitOne_49 rfl ?_
          replace H := ob H; obtain ⟨q34, c35, H⟩ := H
          refine v1 (hY.t 7 rfl) (by decide) rfl rfl lmX6_90 liX6_numberToken lvX6_X6_numberToken msX6_numberToken dX6_splitOne_50 (t_X6_numberToken (d + 4) hY c35) rfl (Nat.le_of_ble_eq_true rfl) (Nat.le_refl _) ?_
          refine e_goto (tgt := 59) dX6_splitOne_53 (by decide) ?_
          obtain rfl := Option.some.inj H
          exact e_wk (lk0 (lk1 (lk0 (lk1 lkn)))) k33
    · replace H := ot c4 H
      refine e_iload_n dX6_splitOne_18 rfl ?_
      refine e_iconst (v := (1 : Int32)) dX6_splitOne_19 (by decide) ?_
      refine e_iadd dX6_splitOne_20 ?_
      obtain rfl := Option.some.inj H
      exact z_iret rfl rfl dX6_splitOne_21 rfl rfl
-- X6_split
def l_X6_split_9  : Nat → Int32 → Int32 → HS → Option HS
  | 0, _, _, _ => none
  | n + 1, x1, x2, h => (if (160 : Int32) ≤ x2 then (some h) else (if (hI h 39 1) ≤ x1 then (some h) else (Option.bind (f_X6_splitOne x1 h) (fun q9 => (l_X6_split_9  n q9.1 (x2 + (1 : Int32)) q9.2)))))
set_option maxHeartbeats 4000000 in
set_option maxRecDepth 20000 in
theorem p_X6_split_9  : ∀ (n : Nat) {x1 : Int32} {x2 : Int32} {h : HS} {q : HS}, l_X6_split_9  n x1 x2 h = some q → Pr h q := by
  intro n
  induction n with
  | zero => intro x1 x2 h q H; exact nz H
  | succ n ih =>
    intro x1 x2 h q H
    unfold l_X6_split_9 at H
    replace H := oi H; obtain ⟨c7, H⟩ | ⟨c7, H⟩ := H
    · obtain rfl := Option.some.inj H
      exact Pr.rf
    · replace H := oi H; obtain ⟨c8, H⟩ | ⟨c8, H⟩ := H
      · obtain rfl := Option.some.inj H
        exact Pr.rf
      · replace H := ob H; obtain ⟨q9, c10, H⟩ := H
        have e11 := p_X6_splitOne c10
        exact e11.tr (ih H)
set_option maxHeartbeats 4000000 in
set_option maxRecDepth 20000 in
theorem w_X6_split_9 {G : GE} (d : Nat)  {r : Option Value} {h' : HS}  : ∀ (n : Nat) {x1 : Int32} {x2 : Int32} {h : HS} {q : HS}, LY TX h → l_X6_split_9  n x1 x2 h = some q → En G (d + 7) miX6_split 36 [.ref 39, dum, dum] [] q r h' → En G (d + 7) miX6_split 9 [.ref 39, .int x1, .int x2] [] h r h' := by
  intro n
  induction n with
  | zero => intro x1 x2 h q hYTX H kE; exact nz H
  | succ n ih =>
    intro x1 x2 h q hYTX H kE
    unfold l_X6_split_9 at H
    refine e_iload_n dX6_split_9 rfl ?_
    refine e_sipush (v := (160 : Int32)) dX6_split_10 (by decide) ?_
    refine e_icmp_ge (tgt := 36) dX6_split_13 (by decide) (fun c7 => ?_) (fun c7 => ?_)
    · replace H := ot c7 H
      obtain rfl := Option.some.inj H
      exact e_wk (lk1 (lk0 (lk0 lkn))) kE
    · replace H := of_ c7 H
      refine e_iload_n dX6_split_16 rfl ?_
      refine g_aload_n dX6_split_17 rfl rfl ?_
      refine e_getI (hYTX.t 7 rfl) flX6_15_7 dX6_split_18 rfl ?_
      refine e_icmp_ge (tgt := 36) dX6_split_21 (by decide) (fun c8 => ?_) (fun c8 => ?_)
      · replace H := ot c8 H
        obtain rfl := Option.some.inj H
        exact e_wk (lk1 (lk0 (lk0 lkn))) kE
      · replace H := of_ c8 H
        refine g_aload_n dX6_split_24 rfl rfl ?_
        refine e_iload_n dX6_split_25 rfl ?_
        replace H := ob H; obtain ⟨q9, c10, H⟩ := H
        refine v1 (hYTX.t 7 rfl) (by decide) rfl rfl lmX6_72 liX6_splitOne lvX6_X6_splitOne msX6_splitOne dX6_split_26 (t_X6_splitOne (d + 0) hYTX c10) rfl (Nat.le_of_ble_eq_true rfl) (Nat.le_refl _) ?_
        have e11 := p_X6_splitOne c10
        have hY12 := hYTX.pr okX e11
        refine e_istore_n dX6_split_29 (Nat.le_of_ble_eq_true rfl) rfl rfl ?_
        refine e_iinc dX6_split_30 rfl (ii_ (by decide : Int32.ofInt (1) = (1 : Int32))) (Nat.le_of_ble_eq_true rfl) rfl rfl ?_
        refine e_goto (tgt := 9) dX6_split_33 (by decide) ?_
        exact e_wk (lk1 (lk1 (lk1 lkn))) (ih hY12 H kE)
def f_X6_split  (h : HS) : Option HS := (Option.bind (l_X6_split_9  1000 (0 : Int32) (0 : Int32) (sI h 39 4 (0 : Int32))) (fun q13 => (Option.bind (f_X6_addToken (10300 : Int32) (hI q13 39 1) q13) (fun q17 => (some q17)))))
set_option maxHeartbeats 4000000 in
set_option maxRecDepth 20000 in
theorem p_X6_split  {h : HS} {q : HS} (H : f_X6_split h = some q) : Pr h q := by
  unfold f_X6_split at H
  replace H := ob H; obtain ⟨q13, c14, H⟩ := H
  have e15 := p_X6_split_9 1000 c14
  replace H := ob H; obtain ⟨q17, c18, H⟩ := H
  have e19 := p_X6_addToken c18
  obtain rfl := Option.some.inj H
  exact (((Pr.rf.sI).tr e15).tr e19)
set_option maxHeartbeats 4000000 in
set_option maxRecDepth 20000 in
theorem t_X6_split {G : GE} (d : Nat)  {h : HS} {q : HS} (hY : LY TX h) (H : f_X6_split h = some q) : CE G (d + 7) yX6_split miX6_split [.ref 39] h (none) (q) := by
  unfold f_X6_split at H
  refine ce_of rfl (by decide) (fun q => by first | rfl | cases q) (Nat.le_of_ble_eq_true rfl) rfl ?_
  refine g_aload_n dX6_split_0 rfl rfl ?_
  refine e_iconst (v := (0 : Int32)) dX6_split_1 (by decide) ?_
  refine e_putI (hY.t 7 rfl) fpX6_25_7 rfl dX6_split_2 ?_
  refine e_iconst (v := (0 : Int32)) dX6_split_5 (by decide) ?_
  refine e_istore_n dX6_split_6 (Nat.le_of_ble_eq_true rfl) rfl rfl ?_
  refine e_iconst (v := (0 : Int32)) dX6_split_7 (by decide) ?_
  refine e_istore_n dX6_split_8 (Nat.le_of_ble_eq_true rfl) rfl rfl ?_
  replace H := ob H; obtain ⟨q13, c14, H⟩ := H
  have e15 := p_X6_split_9 1000 c14
  have hY16 := (hY.sI).pr okX e15
  refine e_wk (lk1 (lk1 (lk1 lkn))) (w_X6_split_9 d 1000 (hY.sI) c14 ?_)
  refine g_aload_n dX6_split_36 rfl rfl ?_
  refine e_sipush (v := (10300 : Int32)) dX6_split_37 (by decide) ?_
  refine g_aload_n dX6_split_40 rfl rfl ?_
  refine e_getI (hY16.t 7 rfl) flX6_15_7 dX6_split_41 rfl ?_
  replace H := ob H; obtain ⟨q17, c18, H⟩ := H
  refine v0 (hY16.t 7 rfl) (by decide) rfl rfl lmX6_76 liX6_addToken lvX6_X6_addToken msX6_addToken dX6_split_44 (t_X6_addToken (d + 6) hY16 c18) rfl (Nat.le_of_ble_eq_true rfl) (Nat.le_refl _) ?_
  have e19 := p_X6_addToken c18
  have hY20 := hY16.pr okX e19
  obtain rfl := Option.some.inj H
  exact z_vret rfl dX6_split_47 rfl rfl
-- X6_token
def f_X6_token  (h : HS) : Option Int32 := (if (hI h 39 5) < 0 then (some (10300 : Int32)) else (if (hI h 39 4) ≤ (hI h 39 5) then (some (10300 : Int32)) else (if (160 : Int32) < (hI h 39 5) then (some (10300 : Int32)) else (if ixb (hI h 39 5) 161 = true then (some (hI h 41 (hI h 39 5).toNatClampNeg)) else none))))
set_option maxHeartbeats 4000000 in
set_option maxRecDepth 20000 in
theorem t_X6_token {G : GE} (d : Nat)  {h : HS} {q : Int32} (hY : LY TX h) (H : f_X6_token h = some q) : CE G (d + 0) yX6_token miX6_token [.ref 39] h (some (.int q)) (h) := by
  unfold f_X6_token at H
  refine ce_of rfl (by decide) (fun q => by first | rfl | cases q) (Nat.le_of_ble_eq_true rfl) rfl ?_
  refine g_aload_n dX6_token_0 rfl rfl ?_
  refine e_getI (hY.t 7 rfl) flX6_28_7 dX6_token_1 rfl ?_
  refine e_if_lt (tgt := 40) dX6_token_4 (by decide) (fun c1 => ?_) (fun c1 => ?_)
  · replace H := ot c1 H
    refine e_sipush (v := (10300 : Int32)) dX6_token_40 (by decide) ?_
    obtain rfl := Option.some.inj H
    exact z_iret rfl rfl dX6_token_43 rfl rfl
  · replace H := of_ c1 H
    refine g_aload_n dX6_token_7 rfl rfl ?_
    refine e_getI (hY.t 7 rfl) flX6_28_7 dX6_token_8 rfl ?_
    refine g_aload_n dX6_token_11 rfl rfl ?_
    refine e_getI (hY.t 7 rfl) flX6_25_7 dX6_token_12 rfl ?_
    refine e_icmp_ge (tgt := 40) dX6_token_15 (by decide) (fun c2 => ?_) (fun c2 => ?_)
    · replace H := ot c2 H
      refine e_sipush (v := (10300 : Int32)) dX6_token_40 (by decide) ?_
      obtain rfl := Option.some.inj H
      exact z_iret rfl rfl dX6_token_43 rfl rfl
    · replace H := of_ c2 H
      refine g_aload_n dX6_token_18 rfl rfl ?_
      refine e_getI (hY.t 7 rfl) flX6_28_7 dX6_token_19 rfl ?_
      refine e_sipush (v := (160 : Int32)) dX6_token_22 (by decide) ?_
      refine e_icmp_gt (tgt := 40) dX6_token_25 (by decide) (fun c3 => ?_) (fun c3 => ?_)
      · replace H := ot c3 H
        refine e_sipush (v := (10300 : Int32)) dX6_token_40 (by decide) ?_
        obtain rfl := Option.some.inj H
        exact z_iret rfl rfl dX6_token_43 rfl rfl
      · replace H := of_ c3 H
        refine g_aload_n dX6_token_28 rfl rfl ?_
        refine e_getR (hY.t 7 rfl) flX6_19_7 dX6_token_29 rfl (hY.r 18 rfl) ?_
        refine g_aload_n dX6_token_32 rfl rfl ?_
        refine e_getI (hY.t 7 rfl) flX6_28_7 dX6_token_33 rfl ?_
        replace H := og H; obtain ⟨g4, H⟩ := H
        refine e_iald (hY.t 9 rfl) (ixb_y (hY.n 9 rfl) g4) dX6_token_36 ?_
        refine e_goto (tgt := 43) dX6_token_37 (by decide) ?_
        obtain rfl := Option.some.inj H
        exact z_iret rfl rfl dX6_token_43 rfl rfl
-- X6_takes
def f_X6_takes (p1 : Int32) (h : HS) : Option (Bool × HS) := (if 0 ≤ (hI h 39 8) then (some (false, h)) else (Option.bind (f_X6_token h) (fun q2 => (if q2 = p1 then (some (true, (sI h 39 5 ((hI h 39 5) + (1 : Int32))))) else (some (false, h))))))
set_option maxHeartbeats 4000000 in
set_option maxRecDepth 20000 in
theorem p_X6_takes {p1 : Int32} {h : HS} {q : (Bool × HS)} (H : f_X6_takes p1 h = some q) : Pr h q.2 := by
  unfold f_X6_takes at H
  replace H := oi H; obtain ⟨c1, H⟩ | ⟨c1, H⟩ := H
  · obtain rfl := Option.some.inj H
    exact Pr.rf
  · replace H := ob H; obtain ⟨q2, c3, H⟩ := H
    replace H := oi H; obtain ⟨c4, H⟩ | ⟨c4, H⟩ := H
    · obtain rfl := Option.some.inj H
      exact (Pr.rf.sI)
    · obtain rfl := Option.some.inj H
      exact Pr.rf
set_option maxHeartbeats 4000000 in
set_option maxRecDepth 20000 in
theorem t_X6_takes {G : GE} (d : Nat) {p1 : Int32} {h : HS} {q : (Bool × HS)} (hY : LY TX h) (H : f_X6_takes p1 h = some q) : CE G (d + 1) yX6_takes miX6_takes [.ref 39, .int p1] h (some (.int (b2i q.1))) (q.2) := by
  unfold f_X6_takes at H
  refine ce_of rfl (by decide) (fun q => by first | rfl | cases q) (Nat.le_of_ble_eq_true rfl) rfl ?_
  refine g_aload_n dX6_takes_0 rfl rfl ?_
  refine e_getI (hY.t 7 rfl) flX6_37_7 dX6_takes_1 rfl ?_
  refine e_if_ge (tgt := 15) dX6_takes_4 (by decide) (fun c1 => ?_) (fun c1 => ?_)
  · replace H := ot c1 H
    refine e_iconst (v := (0 : Int32)) dX6_takes_15 (by decide) ?_
    obtain rfl := Option.some.inj H
    exact z_iret rfl rfl dX6_takes_16 rfl rfl
  · replace H := of_ c1 H
    refine g_aload_n dX6_takes_7 rfl rfl ?_
    replace H := ob H; obtain ⟨q2, c3, H⟩ := H
    refine v1 (hY.t 7 rfl) (by decide) rfl rfl lmX6_152 liX6_token lvX6_X6_token msX6_token dX6_takes_8 (t_X6_token (d + 0) hY c3) rfl (Nat.le_of_ble_eq_true rfl) (Nat.le_refl _) ?_
    refine e_iload_n dX6_takes_11 rfl ?_
    refine e_icmp_eq (tgt := 17) dX6_takes_12 (by decide) (fun c4 => ?_) (fun c4 => ?_)
    · replace H := ot c4 H
      refine g_aload_n dX6_takes_17 rfl rfl ?_
      refine e_dup dX6_takes_18 rfl ?_
      refine e_getI (hY.t 7 rfl) flX6_28_7 dX6_takes_19 rfl ?_
      refine e_iconst (v := (1 : Int32)) dX6_takes_22 (by decide) ?_
      refine e_iadd dX6_takes_23 ?_
      refine e_putI (hY.t 7 rfl) fpX6_28_7 rfl dX6_takes_24 ?_
      refine e_iconst (v := (1 : Int32)) dX6_takes_27 (by decide) ?_
      obtain rfl := Option.some.inj H
      exact z_iret rfl rfl dX6_takes_28 rfl rfl
    · replace H := of_ c4 H
      refine e_iconst (v := (0 : Int32)) dX6_takes_15 (by decide) ?_
      obtain rfl := Option.some.inj H
      exact z_iret rfl rfl dX6_takes_16 rfl rfl
-- X6_refuse
def f_X6_refuse  (h : HS) : Option HS := (if 0 ≤ (hI h 39 8) then (some h) else (if (hI h 39 5) < 0 then (some (sI h 39 8 (hI h 39 1))) else (if (hI h 39 4) ≤ (hI h 39 5) then (some (sI h 39 8 (hI h 39 1))) else (if (160 : Int32) < (hI h 39 5) then (some (sI h 39 8 (hI h 39 1))) else (if ixb (hI h 39 5) 161 = true then (some (sI h 39 8 (hI h 42 (hI h 39 5).toNatClampNeg))) else none)))))
set_option maxHeartbeats 4000000 in
set_option maxRecDepth 20000 in
theorem p_X6_refuse  {h : HS} {q : HS} (H : f_X6_refuse h = some q) : Pr h q := by
  unfold f_X6_refuse at H
  replace H := oi H; obtain ⟨c1, H⟩ | ⟨c1, H⟩ := H
  · obtain rfl := Option.some.inj H
    exact Pr.rf
  · replace H := oi H; obtain ⟨c2, H⟩ | ⟨c2, H⟩ := H
    · obtain rfl := Option.some.inj H
      exact (Pr.rf.sI)
    · replace H := oi H; obtain ⟨c3, H⟩ | ⟨c3, H⟩ := H
      · obtain rfl := Option.some.inj H
        exact (Pr.rf.sI)
      · replace H := oi H; obtain ⟨c4, H⟩ | ⟨c4, H⟩ := H
        · obtain rfl := Option.some.inj H
          exact (Pr.rf.sI)
        · replace H := og H; obtain ⟨g5, H⟩ := H
          obtain rfl := Option.some.inj H
          exact (Pr.rf.sI)
set_option maxHeartbeats 4000000 in
set_option maxRecDepth 20000 in
theorem t_X6_refuse {G : GE} (d : Nat)  {h : HS} {q : HS} (hY : LY TX h) (H : f_X6_refuse h = some q) : CE G (d + 0) yX6_refuse miX6_refuse [.ref 39] h (none) (q) := by
  unfold f_X6_refuse at H
  refine ce_of rfl (by decide) (fun q => by first | rfl | cases q) (Nat.le_of_ble_eq_true rfl) rfl ?_
  refine g_aload_n dX6_refuse_0 rfl rfl ?_
  refine e_getI (hY.t 7 rfl) flX6_37_7 dX6_refuse_1 rfl ?_
  refine e_if_ge (tgt := 55) dX6_refuse_4 (by decide) (fun c1 => ?_) (fun c1 => ?_)
  · replace H := ot c1 H
    obtain rfl := Option.some.inj H
    exact z_vret rfl dX6_refuse_55 rfl rfl
  · replace H := of_ c1 H
    refine g_aload_n dX6_refuse_7 rfl rfl ?_
    refine g_aload_n dX6_refuse_8 rfl rfl ?_
    refine e_getI (hY.t 7 rfl) flX6_28_7 dX6_refuse_9 rfl ?_
    refine e_if_lt (tgt := 48) dX6_refuse_12 (by decide) (fun c2 => ?_) (fun c2 => ?_)
    · replace H := ot c2 H
      refine g_aload_n dX6_refuse_48 rfl rfl ?_
      refine e_getI (hY.t 7 rfl) flX6_15_7 dX6_refuse_49 rfl ?_
      refine e_putI (hY.t 7 rfl) fpX6_37_7 rfl dX6_refuse_52 ?_
      obtain rfl := Option.some.inj H
      exact z_vret rfl dX6_refuse_55 rfl rfl
    · replace H := of_ c2 H
      refine g_aload_n dX6_refuse_15 rfl rfl ?_
      refine e_getI (hY.t 7 rfl) flX6_28_7 dX6_refuse_16 rfl ?_
      refine g_aload_n dX6_refuse_19 rfl rfl ?_
      refine e_getI (hY.t 7 rfl) flX6_25_7 dX6_refuse_20 rfl ?_
      refine e_icmp_ge (tgt := 48) dX6_refuse_23 (by decide) (fun c3 => ?_) (fun c3 => ?_)
      · replace H := ot c3 H
        refine g_aload_n dX6_refuse_48 rfl rfl ?_
        refine e_getI (hY.t 7 rfl) flX6_15_7 dX6_refuse_49 rfl ?_
        refine e_putI (hY.t 7 rfl) fpX6_37_7 rfl dX6_refuse_52 ?_
        obtain rfl := Option.some.inj H
        exact z_vret rfl dX6_refuse_55 rfl rfl
      · replace H := of_ c3 H
        refine g_aload_n dX6_refuse_26 rfl rfl ?_
        refine e_getI (hY.t 7 rfl) flX6_28_7 dX6_refuse_27 rfl ?_
        refine e_sipush (v := (160 : Int32)) dX6_refuse_30 (by decide) ?_
        refine e_icmp_gt (tgt := 48) dX6_refuse_33 (by decide) (fun c4 => ?_) (fun c4 => ?_)
        · replace H := ot c4 H
          refine g_aload_n dX6_refuse_48 rfl rfl ?_
          refine e_getI (hY.t 7 rfl) flX6_15_7 dX6_refuse_49 rfl ?_
          refine e_putI (hY.t 7 rfl) fpX6_37_7 rfl dX6_refuse_52 ?_
          obtain rfl := Option.some.inj H
          exact z_vret rfl dX6_refuse_55 rfl rfl
        · replace H := of_ c4 H
          refine g_aload_n dX6_refuse_36 rfl rfl ?_
          refine e_getR (hY.t 7 rfl) flX6_22_7 dX6_refuse_37 rfl (hY.r 19 rfl) ?_
          refine g_aload_n dX6_refuse_40 rfl rfl ?_
          refine e_getI (hY.t 7 rfl) flX6_28_7 dX6_refuse_41 rfl ?_
          replace H := og H; obtain ⟨g5, H⟩ := H
          refine e_iald (hY.t 10 rfl) (ixb_y (hY.n 10 rfl) g5) dX6_refuse_44 ?_
          refine e_goto (tgt := 52) dX6_refuse_45 (by decide) ?_
          refine e_putI (hY.t 7 rfl) fpX6_37_7 rfl dX6_refuse_52 ?_
          obtain rfl := Option.some.inj H
          exact z_vret rfl dX6_refuse_55 rfl rfl
-- X6_ask
def f_X6_ask (p1 : Int32) (h : HS) : Option HS := (Option.bind (f_X6_takes p1 h) (fun q1 => (if q1.1 = true then (some q1.2) else (Option.bind (f_X6_refuse q1.2) (fun q6 => (some q6))))))
set_option maxHeartbeats 4000000 in
set_option maxRecDepth 20000 in
theorem p_X6_ask {p1 : Int32} {h : HS} {q : HS} (H : f_X6_ask p1 h = some q) : Pr h q := by
  unfold f_X6_ask at H
  replace H := ob H; obtain ⟨q1, c2, H⟩ := H
  have e3 := p_X6_takes c2
  replace H := oi H; obtain ⟨c5, H⟩ | ⟨c5, H⟩ := H
  · obtain rfl := Option.some.inj H
    exact e3
  · replace H := ob H; obtain ⟨q6, c7, H⟩ := H
    have e8 := p_X6_refuse c7
    obtain rfl := Option.some.inj H
    exact (e3.tr e8)
set_option maxHeartbeats 4000000 in
set_option maxRecDepth 20000 in
theorem t_X6_ask {G : GE} (d : Nat) {p1 : Int32} {h : HS} {q : HS} (hY : LY TX h) (H : f_X6_ask p1 h = some q) : CE G (d + 2) yX6_ask miX6_ask [.ref 39, .int p1] h (none) (q) := by
  unfold f_X6_ask at H
  refine ce_of rfl (by decide) (fun q => by first | rfl | cases q) (Nat.le_of_ble_eq_true rfl) rfl ?_
  refine g_aload_n dX6_ask_0 rfl rfl ?_
  refine e_iload_n dX6_ask_1 rfl ?_
  replace H := ob H; obtain ⟨q1, c2, H⟩ := H
  refine v1 (hY.t 7 rfl) (by decide) rfl rfl lmX6_140 liX6_takes lvX6_X6_takes msX6_takes dX6_ask_2 (t_X6_takes (d + 0) hY c2) rfl (Nat.le_of_ble_eq_true rfl) (Nat.le_refl _) ?_
  have e3 := p_X6_takes c2
  have hY4 := hY.pr okX e3
  refine e_ifB_ne (tgt := 12) dX6_ask_5 (by decide) (fun c5 => ?_) (fun c5 => ?_)
  · replace H := ot c5 H
    obtain rfl := Option.some.inj H
    exact z_vret rfl dX6_ask_12 rfl rfl
  · replace H := of_ (nb c5) H
    refine g_aload_n dX6_ask_8 rfl rfl ?_
    replace H := ob H; obtain ⟨q6, c7, H⟩ := H
    refine v0 (hY4.t 7 rfl) (by decide) rfl rfl lmX6_164 liX6_refuse lvX6_X6_refuse msX6_refuse dX6_ask_9 (t_X6_refuse (d + 1) hY4 c7) rfl (Nat.le_of_ble_eq_true rfl) (Nat.le_refl _) ?_
    have e8 := p_X6_refuse c7
    have hY9 := hY4.pr okX e8
    obtain rfl := Option.some.inj H
    exact z_vret rfl dX6_ask_12 rfl rfl
