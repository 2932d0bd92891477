/-! ===== what makes no cell ===== -/
def Nx (h h' : HS) : Prop := hN h' = hN h ∧ hS h' = hS h ∧ hT h' = hT h
theorem Nx.rf {h : HS} : Nx h h := ⟨rfl, rfl, rfl⟩
theorem Nx.tr {h h1 h2 : HS} (e : Nx h h1) (f : Nx h1 h2) : Nx h h2 := ⟨f.1.trans e.1, f.2.1.trans e.2.1, f.2.2.trans e.2.2⟩
theorem Nx.sI {h0 h : HS} {a k : Nat} {v : Int32} (e : Nx h0 h) : Nx h0 (sI h a k v) := e
theorem Nx.sL {h0 h : HS} {a k : Nat} {v : Int64} (e : Nx h0 h) : Nx h0 (sL h a k v) := e
theorem Nx.sR {h0 h : HS} {a k : Nat} {v : Option Nat} (e : Nx h0 h) (g : fixR a k = false) : Nx h0 (sR h a k v) := e
theorem kN {h0 E h : HS} (e : E = h) (p : Nx h0 E) : Nx h0 h := by rw [← e]; exact p
theorem Nx.sC {h0 h : HS} {a0 sp a1 dp n : Nat} (e : Nx h0 h) : Nx h0 (sC h a0 sp a1 dp n) := e
set_option maxHeartbeats 4000000 in
set_option maxRecDepth 20000 in
theorem n_X8_init {p0 : Nat} {p1 : Int32} {p2 : Int32} {p3 : Int32} {p4 : Int32} {h : HS} {q : HS} (H : f_X8_init p0 p1 p2 p3 p4 h = some q) : Nx h q := by
  unfold f_X8_init at H
  replace H := og H; obtain ⟨g1, H⟩ := H
  replace H := obh H; obtain ⟨h2, e3, H⟩ := H
  obtain rfl := Option.some.inj H
  exact (((kN e3 ((((((Nx.rf.sI).sI).sI).sI).sI).sI)).sI).sI)
set_option maxHeartbeats 4000000 in
set_option maxRecDepth 20000 in
theorem n_X0_init {p0 : Nat} {p1 : Int32} {p2 : Int32} {p3 : Int32} {p4 : Int32} {h : HS} {q : HS} (H : f_X0_init p0 p1 p2 p3 p4 h = some q) : Nx h q := by
  unfold f_X0_init at H
  replace H := ob H; obtain ⟨q1, c2, H⟩ := H
  have e3 := n_X8_init c2
  obtain rfl := Option.some.inj H
  exact e3
set_option maxHeartbeats 4000000 in
set_option maxRecDepth 20000 in
theorem n_X4_init {p0 : Nat} {p1 : Int32} {p2 : Int32} {p3 : Int32} {p4 : Int32} {h : HS} {q : HS} (H : f_X4_init p0 p1 p2 p3 p4 h = some q) : Nx h q := by
  unfold f_X4_init at H
  replace H := ob H; obtain ⟨q1, c2, H⟩ := H
  have e3 := n_X8_init c2
  obtain rfl := Option.some.inj H
  exact e3
set_option maxHeartbeats 4000000 in
set_option maxRecDepth 20000 in
theorem n_X1_init {p0 : Nat} {p1 : Int32} {p2 : Int32} {p3 : Int32} {p4 : Int32} {h : HS} {q : HS} (H : f_X1_init p0 p1 p2 p3 p4 h = some q) : Nx h q := by
  unfold f_X1_init at H
  replace H := ob H; obtain ⟨q1, c2, H⟩ := H
  have e3 := n_X4_init c2
  obtain rfl := Option.some.inj H
  exact e3
set_option maxHeartbeats 4000000 in
set_option maxRecDepth 20000 in
theorem n_X2_fill_30 {y1 : Nat} {y2 : Int32} {y3 : Int32} : ∀ (n : Nat) {x4 : Int32} {x5 : Int32} {h : HS} {q : HS}, l_X2_fill_30 y1 y2 y3 n x4 x5 h = some q → Nx h q := by
  intro n
  induction n with
  | zero => intro x4 x5 h q H; exact nz H
  | succ n ih =>
    intro x4 x5 h q H
    unfold l_X2_fill_30 at H
    replace H := oi H; obtain ⟨c35, H⟩ | ⟨c35, H⟩ := H
    · obtain rfl := Option.some.inj H
      exact Nx.rf
    · replace H := ob H; obtain ⟨q36, c37, H⟩ := H
      replace H := ob H; obtain ⟨q39, c41, H⟩ := H
      replace H := og H; obtain ⟨g42, H⟩ := H
      replace H := og H; obtain ⟨g43, H⟩ := H
      exact (Nx.rf.sI).tr (ih H)
set_option maxHeartbeats 4000000 in
set_option maxRecDepth 20000 in
theorem n_X2_fill_18 {y1 : Nat} {y2 : Int32} : ∀ (n : Nat) {x3 : Int32} {h : HS} {q : HS}, l_X2_fill_18 y1 y2 n x3 h = some q → Nx h q := by
  intro n
  induction n with
  | zero => intro x3 h q H; exact nz H
  | succ n ih =>
    intro x3 h q H
    unfold l_X2_fill_18 at H
    replace H := oi H; obtain ⟨c25, H⟩ | ⟨c25, H⟩ := H
    · obtain rfl := Option.some.inj H
      exact Nx.rf
    · replace H := ob H; obtain ⟨q44, c45, H⟩ := H
      have e46 := n_X2_fill_30 1000 c45
      exact e46.tr (ih H)
set_option maxHeartbeats 4000000 in
set_option maxRecDepth 20000 in
theorem n_X2_fill {p1 : Nat} {p2 : Int32} {h : HS} {q : HS} (H : f_X2_fill p1 p2 h = some q) : Nx h q := by
  unfold f_X2_fill at H
  replace H := og H; obtain ⟨g1, H⟩ := H
  replace H := ob H; obtain ⟨q48, c49, H⟩ := H
  have e50 := n_X2_fill_18 1000 c49
  obtain rfl := Option.some.inj H
  exact (((Nx.rf.sI).sI).tr e50)
set_option maxHeartbeats 4000000 in
set_option maxRecDepth 20000 in
theorem n_X3_init {p0 : Nat} {p1 : Int32} {p2 : Int32} {p3 : Int32} {h : HS} {q : HS} (H : f_X3_init p0 p1 p2 p3 h = some q) : Nx h q := by
  unfold f_X3_init at H
  replace H := og H; obtain ⟨g1, H⟩ := H
  replace H := obh H; obtain ⟨h2, e3, H⟩ := H
  obtain rfl := Option.some.inj H
  exact (kN e3 (((((Nx.rf.sI).sI).sI).sI).sI))
set_option maxHeartbeats 4000000 in
set_option maxRecDepth 20000 in
theorem n_X5_keep_12 {y1 : Int32} {y2 : Nat} : ∀ (n : Nat) {x3 : Int32} {h : HS} {q : HS}, l_X5_keep_12 y1 y2 n x3 h = some q → Nx h q := by
  intro n
  induction n with
  | zero => intro x3 h q H; exact nz H
  | succ n ih =>
    intro x3 h q H
    unfold l_X5_keep_12 at H
    replace H := oi H; obtain ⟨c8, H⟩ | ⟨c8, H⟩ := H
    · obtain rfl := Option.some.inj H
      exact Nx.rf
    · replace H := ob H; obtain ⟨q9, c10, H⟩ := H
      replace H := og H; obtain ⟨g11, H⟩ := H
      exact (Nx.rf.sI).tr (ih H)
set_option maxHeartbeats 4000000 in
set_option maxRecDepth 20000 in
theorem n_X5_keep {p1 : Int32} {p2 : Nat} {h : HS} {q : HS} (H : f_X5_keep p1 p2 h = some q) : Nx h q := by
  unfold f_X5_keep at H
  replace H := ob H; obtain ⟨q1, c2, H⟩ := H
  replace H := oi H; obtain ⟨c3, H⟩ | ⟨c3, H⟩ := H
  · replace H := ob H; obtain ⟨q12, c13, H⟩ := H
    have e14 := n_X5_keep_12 1000 c13
    obtain rfl := Option.some.inj H
    exact e14
  · obtain rfl := Option.some.inj H
    exact Nx.rf
set_option maxHeartbeats 4000000 in
set_option maxRecDepth 20000 in
theorem n_X8_change {p0 : Nat} {p1 : Int32} {p2 : Int32} {h : HS} {q : HS} (H : f_X8_change p0 p1 p2 h = some q) : Nx h q := by
  unfold f_X8_change at H
  replace H := oi H; obtain ⟨k1, H⟩ | ⟨k1, H⟩ := H
  · replace H := og H; obtain ⟨g7, H⟩ := H
    obtain rfl := Option.some.inj H
    exact (Nx.rf.sI)
  · replace H := oi H; obtain ⟨k2, H⟩ | ⟨k2, H⟩ := H
    · replace H := og H; obtain ⟨g6, H⟩ := H
      obtain rfl := Option.some.inj H
      exact (Nx.rf.sI)
    · replace H := oi H; obtain ⟨k3, H⟩ | ⟨k3, H⟩ := H
      · replace H := og H; obtain ⟨g5, H⟩ := H
        obtain rfl := Option.some.inj H
        exact (Nx.rf.sI)
      · replace H := og H; obtain ⟨g4, H⟩ := H
        obtain rfl := Option.some.inj H
        exact (Nx.rf.sI)
set_option maxHeartbeats 4000000 in
set_option maxRecDepth 20000 in
theorem n_V_change {p0 : Nat} {p1 : Int32} {p2 : Int32} {h : HS} {q : HS} (H : f_V_change p0 p1 p2 h = some q) : Nx h q := by
  unfold f_V_change at H
  replace H := oi H; obtain ⟨-, H⟩ | ⟨-, H⟩ := H
  · exact n_X8_change H
  replace H := oi H; obtain ⟨-, H⟩ | ⟨-, H⟩ := H
  · exact n_X8_change H
  replace H := oi H; obtain ⟨-, H⟩ | ⟨-, H⟩ := H
  · exact n_X8_change H
  replace H := oi H; obtain ⟨-, H⟩ | ⟨-, H⟩ := H
  · exact n_X8_change H
  replace H := oi H; obtain ⟨-, H⟩ | ⟨-, H⟩ := H
  · exact n_X8_change H
  replace H := oi H; obtain ⟨-, H⟩ | ⟨-, H⟩ := H
  · exact n_X8_change H
  exact nz H
set_option maxHeartbeats 4000000 in
set_option maxRecDepth 20000 in
theorem n_X5_layBack_12 {y1 : Int32} {y2 : Nat} : ∀ (n : Nat) {x3 : Int32} {h : HS} {q : HS}, l_X5_layBack_12 y1 y2 n x3 h = some q → Nx h q := by
  intro n
  induction n with
  | zero => intro x3 h q H; exact nz H
  | succ n ih =>
    intro x3 h q H
    unfold l_X5_layBack_12 at H
    replace H := oi H; obtain ⟨c10, H⟩ | ⟨c10, H⟩ := H
    · obtain rfl := Option.some.inj H
      exact Nx.rf
    · replace H := og H; obtain ⟨g11, H⟩ := H
      replace H := ob H; obtain ⟨q12, c13, H⟩ := H
      have e14 := n_V_change c13
      exact e14.tr (ih H)
set_option maxHeartbeats 4000000 in
set_option maxRecDepth 20000 in
theorem n_X5_layBack {p1 : Int32} {p2 : Nat} {h : HS} {q : HS} (H : f_X5_layBack p1 p2 h = some q) : Nx h q := by
  unfold f_X5_layBack at H
  replace H := ob H; obtain ⟨q1, c2, H⟩ := H
  replace H := oi H; obtain ⟨c3, H⟩ | ⟨c3, H⟩ := H
  · replace H := ob H; obtain ⟨q16, c17, H⟩ := H
    have e18 := n_X5_layBack_12 1000 c17
    obtain rfl := Option.some.inj H
    exact e18
  · obtain rfl := Option.some.inj H
    exact Nx.rf
set_option maxHeartbeats 4000000 in
set_option maxRecDepth 20000 in
theorem n_X6_put {p1 : Int32} {h : HS} {q : HS} (H : f_X6_put p1 h = some q) : Nx h q := by
  unfold f_X6_put at H
  replace H := oi H; obtain ⟨c1, H⟩ | ⟨c1, H⟩ := H
  · obtain rfl := Option.some.inj H
    exact Nx.rf
  · replace H := oi H; obtain ⟨c2, H⟩ | ⟨c2, H⟩ := H
    · obtain rfl := Option.some.inj H
      exact Nx.rf
    · replace H := og H; obtain ⟨g3, H⟩ := H
      obtain rfl := Option.some.inj H
      exact ((Nx.rf.sI).sI)
set_option maxHeartbeats 4000000 in
set_option maxRecDepth 20000 in
theorem n_X6_spell_2 {y1 : Nat} : ∀ (n : Nat) {x2 : Int32} {h : HS} {q : HS}, l_X6_spell_2 y1 n x2 h = some q → Nx h q := by
  intro n
  induction n with
  | zero => intro x2 h q H; exact nz H
  | succ n ih =>
    intro x2 h q H
    unfold l_X6_spell_2 at H
    replace H := og H; obtain ⟨g13, H⟩ := H
    replace H := ob H; obtain ⟨q11, c12, H⟩ := H
    replace H := oi H; obtain ⟨c14, H⟩ | ⟨c14, H⟩ := H
    · obtain rfl := Option.some.inj H
      exact Nx.rf
    · replace H := ob H; obtain ⟨q15, c16, H⟩ := H
      replace H := ob H; obtain ⟨q17, c18, H⟩ := H
      have e19 := n_X6_put c18
      exact e19.tr (ih H)
set_option maxHeartbeats 4000000 in
set_option maxRecDepth 20000 in
theorem n_X6_spell {p1 : Nat} {h : HS} {q : HS} (H : f_X6_spell p1 h = some q) : Nx h q := by
  unfold f_X6_spell at H
  replace H := ob H; obtain ⟨q21, c22, H⟩ := H
  have e23 := n_X6_spell_2 1000 c22
  obtain rfl := Option.some.inj H
  exact e23
set_option maxHeartbeats 4000000 in
set_option maxRecDepth 20000 in
theorem n_X6_addToken {p1 : Int32} {p2 : Int32} {h : HS} {q : HS} (H : f_X6_addToken p1 p2 h = some q) : Nx h q := by
  unfold f_X6_addToken at H
  replace H := oi H; obtain ⟨c1, H⟩ | ⟨c1, H⟩ := H
  · obtain rfl := Option.some.inj H
    exact Nx.rf
  · replace H := oi H; obtain ⟨c2, H⟩ | ⟨c2, H⟩ := H
    · obtain rfl := Option.some.inj H
      exact Nx.rf
    · replace H := og H; obtain ⟨g3, H⟩ := H
      replace H := og H; obtain ⟨g4, H⟩ := H
      replace H := obh H; obtain ⟨h5, e6, H⟩ := H
      obtain rfl := Option.some.inj H
      exact (kN e6 (((Nx.rf.sI).sI).sI))
set_option maxHeartbeats 4000000 in
set_option maxRecDepth 20000 in
theorem n_X6_splitOne {p1 : Int32} {h : HS} {q : (Int32 × HS)} (H : f_X6_splitOne p1 h = some q) : Nx h q.2 := by
  unfold f_X6_splitOne at H
  replace H := ob H; obtain ⟨q1, c2, H⟩ := H
  replace H := oi H; obtain ⟨c3, H⟩ | ⟨c3, H⟩ := H
  · obtain rfl := Option.some.inj H
    exact Nx.rf
  · replace H := oi H; obtain ⟨c4, H⟩ | ⟨c4, H⟩ := H
    · obtain rfl := Option.some.inj H
      exact Nx.rf
    · replace H := ob H; obtain ⟨q5, c6, H⟩ := H
      replace H := oi H; obtain ⟨c7, H⟩ | ⟨c7, H⟩ := H
      · replace H := ob H; obtain ⟨q29, c30, H⟩ := H
        replace H := ob H; obtain ⟨q32, c36, H⟩ := H
        replace H := ob H; obtain ⟨q37, c38, H⟩ := H
        have e39 := n_X6_addToken c38
        obtain rfl := Option.some.inj H
        exact e39
      · replace H := ob H; obtain ⟨q8, c9, H⟩ := H
        replace H := oi H; obtain ⟨c10, H⟩ | ⟨c10, H⟩ := H
        · replace H := ob H; obtain ⟨q21, c22, H⟩ := H
          replace H := ob H; obtain ⟨q23, c24, H⟩ := H
          replace H := ob H; obtain ⟨q25, c26, H⟩ := H
          have e27 := n_X6_addToken c26
          obtain rfl := Option.some.inj H
          exact e27
        · replace H := ob H; obtain ⟨q11, c12, H⟩ := H
          replace H := ob H; obtain ⟨q14, c16, H⟩ := H
          replace H := ob H; obtain ⟨q17, c18, H⟩ := H
          have e19 := n_X6_addToken c18
          obtain rfl := Option.some.inj H
          exact e19
set_option maxHeartbeats 4000000 in
set_option maxRecDepth 20000 in
theorem n_X6_split_9  : ∀ (n : Nat) {x1 : Int32} {x2 : Int32} {h : HS} {q : HS}, l_X6_split_9  n x1 x2 h = some q → Nx h q := by
  intro n
  induction n with
  | zero => intro x1 x2 h q H; exact nz H
  | succ n ih =>
    intro x1 x2 h q H
    unfold l_X6_split_9 at H
    replace H := oi H; obtain ⟨c7, H⟩ | ⟨c7, H⟩ := H
    · obtain rfl := Option.some.inj H
      exact Nx.rf
    · replace H := oi H; obtain ⟨c8, H⟩ | ⟨c8, H⟩ := H
      · obtain rfl := Option.some.inj H
        exact Nx.rf
      · replace H := ob H; obtain ⟨q9, c10, H⟩ := H
        have e11 := n_X6_splitOne c10
        exact e11.tr (ih H)
set_option maxHeartbeats 4000000 in
set_option maxRecDepth 20000 in
theorem n_X6_split  {h : HS} {q : HS} (H : f_X6_split h = some q) : Nx h q := by
  unfold f_X6_split at H
  replace H := ob H; obtain ⟨q13, c14, H⟩ := H
  have e15 := n_X6_split_9 1000 c14
  replace H := ob H; obtain ⟨q17, c18, H⟩ := H
  have e19 := n_X6_addToken c18
  obtain rfl := Option.some.inj H
  exact (((Nx.rf.sI).tr e15).tr e19)
set_option maxHeartbeats 4000000 in
set_option maxRecDepth 20000 in
theorem n_X6_takes {p1 : Int32} {h : HS} {q : (Bool × HS)} (H : f_X6_takes p1 h = some q) : Nx h q.2 := by
  unfold f_X6_takes at H
  replace H := oi H; obtain ⟨c1, H⟩ | ⟨c1, H⟩ := H
  · obtain rfl := Option.some.inj H
    exact Nx.rf
  · replace H := ob H; obtain ⟨q2, c3, H⟩ := H
    replace H := oi H; obtain ⟨c4, H⟩ | ⟨c4, H⟩ := H
    · obtain rfl := Option.some.inj H
      exact (Nx.rf.sI)
    · obtain rfl := Option.some.inj H
      exact Nx.rf
set_option maxHeartbeats 4000000 in
set_option maxRecDepth 20000 in
theorem n_X6_refuse  {h : HS} {q : HS} (H : f_X6_refuse h = some q) : Nx h q := by
  unfold f_X6_refuse at H
  replace H := oi H; obtain ⟨c1, H⟩ | ⟨c1, H⟩ := H
  · obtain rfl := Option.some.inj H
    exact Nx.rf
  · replace H := oi H; obtain ⟨c2, H⟩ | ⟨c2, H⟩ := H
    · obtain rfl := Option.some.inj H
      exact (Nx.rf.sI)
    · replace H := oi H; obtain ⟨c3, H⟩ | ⟨c3, H⟩ := H
      · obtain rfl := Option.some.inj H
        exact (Nx.rf.sI)
      · replace H := oi H; obtain ⟨c4, H⟩ | ⟨c4, H⟩ := H
        · obtain rfl := Option.some.inj H
          exact (Nx.rf.sI)
        · replace H := og H; obtain ⟨g5, H⟩ := H
          obtain rfl := Option.some.inj H
          exact (Nx.rf.sI)
set_option maxHeartbeats 4000000 in
set_option maxRecDepth 20000 in
theorem n_X6_ask {p1 : Int32} {h : HS} {q : HS} (H : f_X6_ask p1 h = some q) : Nx h q := by
  unfold f_X6_ask at H
  replace H := ob H; obtain ⟨q1, c2, H⟩ := H
  have e3 := n_X6_takes c2
  replace H := oi H; obtain ⟨c5, H⟩ | ⟨c5, H⟩ := H
  · obtain rfl := Option.some.inj H
    exact e3
  · replace H := ob H; obtain ⟨q6, c7, H⟩ := H
    have e8 := n_X6_refuse c7
    obtain rfl := Option.some.inj H
    exact (e3.tr e8)
set_option maxHeartbeats 4000000 in
set_option maxRecDepth 20000 in
theorem n_X6_write {p1 : Int32} {h : HS} {q : HS} (H : f_X6_write p1 h = some q) : Nx h q := by
  unfold f_X6_write at H
  replace H := oi H; obtain ⟨c1, H⟩ | ⟨c1, H⟩ := H
  · obtain rfl := Option.some.inj H
    exact Nx.rf
  · replace H := oi H; obtain ⟨c2, H⟩ | ⟨c2, H⟩ := H
    · obtain rfl := Option.some.inj H
      exact Nx.rf
    · replace H := og H; obtain ⟨g3, H⟩ := H
      obtain rfl := Option.some.inj H
      exact ((Nx.rf.sI).sI)
abbrev RNX6 (rc : Nat → Int32 → HS → Option HS) : Prop := ∀ {m : Nat} {o : Int32} {h : HS} {q : HS}, rc m o h = some q → Nx h q
set_option maxHeartbeats 4000000 in
set_option maxRecDepth 20000 in
theorem n_X6_readAny_7 {rc : Nat → Int32 → HS → Option HS} (hpc : RNX6 rc) {y1 : Int32} : ∀ (n : Nat) {x2 : Int32} {h : HS} {q : HS}, l_X6_readAny_7 rc y1 n x2 h = some q → Nx h q := by
  intro n
  induction n with
  | zero => intro x2 h q H; exact nz H
  | succ n ih =>
    intro x2 h q H
    unfold l_X6_readAny_7 at H
    replace H := oi H; obtain ⟨c19, H⟩ | ⟨c19, H⟩ := H
    · obtain rfl := Option.some.inj H
      exact Nx.rf
    · replace H := ob H; obtain ⟨q20, c21, H⟩ := H
      have e22 := n_X6_takes c21
      replace H := oi H; obtain ⟨c24, H⟩ | ⟨c24, H⟩ := H
      · replace H := ob H; obtain ⟨q25, c26, H⟩ := H
        have e27 := hpc c26
        replace H := ob H; obtain ⟨q29, c30, H⟩ := H
        have e31 := n_X6_write c30
        exact ((e22.tr e27).tr e31).tr (ih H)
      · obtain rfl := Option.some.inj H
        exact e22
set_option maxHeartbeats 4000000 in
set_option maxRecDepth 20000 in
theorem n_X6_readAny {rc : Nat → Int32 → HS → Option HS} (hpc : RNX6 rc) {p1 : Int32} {h : HS} {q : HS} (H : g_X6_readAny rc p1 h = some q) : Nx h q := by
  unfold g_X6_readAny at H
  replace H := ob H; obtain ⟨q1, c2, H⟩ := H
  have e3 := hpc c2
  replace H := ob H; obtain ⟨q33, c34, H⟩ := H
  have e35 := n_X6_readAny_7 hpc 1000 c34
  obtain rfl := Option.some.inj H
  exact (e3.tr e35)
set_option maxHeartbeats 4000000 in
set_option maxRecDepth 20000 in
theorem n_X6_readEach_7 {rc : Nat → Int32 → HS → Option HS} (hpc : RNX6 rc) {y1 : Int32} : ∀ (n : Nat) {x2 : Int32} {h : HS} {q : HS}, l_X6_readEach_7 rc y1 n x2 h = some q → Nx h q := by
  intro n
  induction n with
  | zero => intro x2 h q H; exact nz H
  | succ n ih =>
    intro x2 h q H
    unfold l_X6_readEach_7 at H
    replace H := oi H; obtain ⟨c19, H⟩ | ⟨c19, H⟩ := H
    · obtain rfl := Option.some.inj H
      exact Nx.rf
    · replace H := ob H; obtain ⟨q20, c21, H⟩ := H
      have e22 := n_X6_takes c21
      replace H := oi H; obtain ⟨c24, H⟩ | ⟨c24, H⟩ := H
      · replace H := ob H; obtain ⟨q25, c26, H⟩ := H
        have e27 := hpc c26
        replace H := ob H; obtain ⟨q29, c30, H⟩ := H
        have e31 := n_X6_write c30
        exact ((e22.tr e27).tr e31).tr (ih H)
      · obtain rfl := Option.some.inj H
        exact e22
set_option maxHeartbeats 4000000 in
set_option maxRecDepth 20000 in
theorem n_X6_readEach {rc : Nat → Int32 → HS → Option HS} (hpc : RNX6 rc) {p1 : Int32} {h : HS} {q : HS} (H : g_X6_readEach rc p1 h = some q) : Nx h q := by
  unfold g_X6_readEach at H
  replace H := ob H; obtain ⟨q1, c2, H⟩ := H
  have e3 := hpc c2
  replace H := ob H; obtain ⟨q33, c34, H⟩ := H
  have e35 := n_X6_readEach_7 hpc 1000 c34
  obtain rfl := Option.some.inj H
  exact (e3.tr e35)
set_option maxHeartbeats 4000000 in
set_option maxRecDepth 20000 in
theorem n_X6_readNot {rc : Nat → Int32 → HS → Option HS} (hpc : RNX6 rc) {p1 : Int32} {h : HS} {q : HS} (H : g_X6_readNot rc p1 h = some q) : Nx h q := by
  unfold g_X6_readNot at H
  replace H := oi H; obtain ⟨c1, H⟩ | ⟨c1, H⟩ := H
  · replace H := ob H; obtain ⟨q2, c3, H⟩ := H
    have e4 := hpc c3
    replace H := ob H; obtain ⟨q6, c7, H⟩ := H
    replace H := ob H; obtain ⟨q8, c9, H⟩ := H
    have e10 := n_X6_takes c9
    replace H := oi H; obtain ⟨c12, H⟩ | ⟨c12, H⟩ := H
    · replace H := ob H; obtain ⟨q13, c14, H⟩ := H
      have e15 := hpc c14
      replace H := ob H; obtain ⟨q17, c18, H⟩ := H
      have e19 := n_X6_write c18
      obtain rfl := Option.some.inj H
      exact (((e4.tr e10).tr e15).tr e19)
    · replace H := ob H; obtain ⟨q21, c22, H⟩ := H
      have e23 := n_X6_takes c22
      replace H := oi H; obtain ⟨c25, H⟩ | ⟨c25, H⟩ := H
      · replace H := ob H; obtain ⟨q26, c27, H⟩ := H
        have e28 := hpc c27
        replace H := ob H; obtain ⟨q30, c31, H⟩ := H
        have e32 := n_X6_write c31
        obtain rfl := Option.some.inj H
        exact ((((e4.tr e10).tr e23).tr e28).tr e32)
      · obtain rfl := Option.some.inj H
        exact ((e4.tr e10).tr e23)
  · replace H := ob H; obtain ⟨q34, c35, H⟩ := H
    have e36 := n_X6_takes c35
    replace H := oi H; obtain ⟨c38, H⟩ | ⟨c38, H⟩ := H
    · replace H := ob H; obtain ⟨q71, c72, H⟩ := H
      have e73 := hpc c72
      replace H := ob H; obtain ⟨q75, c76, H⟩ := H
      have e77 := n_X6_write c76
      obtain rfl := Option.some.inj H
      exact ((e36.tr e73).tr e77)
    · replace H := ob H; obtain ⟨q39, c40, H⟩ := H
      have e41 := hpc c40
      replace H := ob H; obtain ⟨q43, c44, H⟩ := H
      replace H := ob H; obtain ⟨q45, c46, H⟩ := H
      have e47 := n_X6_takes c46
      replace H := oi H; obtain ⟨c49, H⟩ | ⟨c49, H⟩ := H
      · replace H := ob H; obtain ⟨q50, c51, H⟩ := H
        have e52 := hpc c51
        replace H := ob H; obtain ⟨q54, c55, H⟩ := H
        have e56 := n_X6_write c55
        obtain rfl := Option.some.inj H
        exact ((((e36.tr e41).tr e47).tr e52).tr e56)
      · replace H := ob H; obtain ⟨q58, c59, H⟩ := H
        have e60 := n_X6_takes c59
        replace H := oi H; obtain ⟨c62, H⟩ | ⟨c62, H⟩ := H
        · replace H := ob H; obtain ⟨q63, c64, H⟩ := H
          have e65 := hpc c64
          replace H := ob H; obtain ⟨q67, c68, H⟩ := H
          have e69 := n_X6_write c68
          obtain rfl := Option.some.inj H
          exact (((((e36.tr e41).tr e47).tr e60).tr e65).tr e69)
        · obtain rfl := Option.some.inj H
          exact (((e36.tr e41).tr e47).tr e60)
set_option maxHeartbeats 4000000 in
set_option maxRecDepth 20000 in
theorem n_X6_readSum_12 {rc : Nat → Int32 → HS → Option HS} (hpc : RNX6 rc) {y1 : Int32} : ∀ (n : Nat) {x2 : Int32} {x3 : Int32} {h : HS} {q : HS}, l_X6_readSum_12 rc y1 n x2 x3 h = some q → Nx h q := by
  intro n
  induction n with
  | zero => intro x2 x3 h q H; exact nz H
  | succ n ih =>
    intro x2 x3 h q H
    unfold l_X6_readSum_12 at H
    replace H := oi H; obtain ⟨c38, H⟩ | ⟨c38, H⟩ := H
    · obtain rfl := Option.some.inj H
      exact Nx.rf
    · replace H := ob H; obtain ⟨q39, c40, H⟩ := H
      have e41 := n_X6_takes c40
      replace H := oi H; obtain ⟨c43, H⟩ | ⟨c43, H⟩ := H
      · replace H := ob H; obtain ⟨q44, c45, H⟩ := H
        have e46 := hpc c45
        replace H := ob H; obtain ⟨q48, c49, H⟩ := H
        have e50 := n_X6_write c49
        replace H := ob H; obtain ⟨q52, c53, H⟩ := H
        exact ((e41.tr e46).tr e50).tr (ih H)
      · replace H := ob H; obtain ⟨q54, c55, H⟩ := H
        have e56 := n_X6_takes c55
        replace H := oi H; obtain ⟨c58, H⟩ | ⟨c58, H⟩ := H
        · replace H := ob H; obtain ⟨q59, c60, H⟩ := H
          have e61 := hpc c60
          replace H := ob H; obtain ⟨q63, c64, H⟩ := H
          have e65 := n_X6_write c64
          replace H := ob H; obtain ⟨q67, c68, H⟩ := H
          exact (((e41.tr e56).tr e61).tr e65).tr (ih H)
        · obtain rfl := Option.some.inj H
          exact (e41.tr e56)
set_option maxHeartbeats 4000000 in
set_option maxRecDepth 20000 in
theorem n_X6_readSum {rc : Nat → Int32 → HS → Option HS} (hpc : RNX6 rc) {p1 : Int32} {h : HS} {q : HS} (H : g_X6_readSum rc p1 h = some q) : Nx h q := by
  unfold g_X6_readSum at H
  replace H := ob H; obtain ⟨q1, c2, H⟩ := H
  have e3 := hpc c2
  replace H := ob H; obtain ⟨q5, c6, H⟩ := H
  replace H := ob H; obtain ⟨q69, c70, H⟩ := H
  have e71 := n_X6_readSum_12 hpc 1000 c70
  obtain rfl := Option.some.inj H
  exact (e3.tr e71)
set_option maxHeartbeats 4000000 in
set_option maxRecDepth 20000 in
theorem n_X6_readTerm_7 {rc : Nat → Int32 → HS → Option HS} (hpc : RNX6 rc) {y1 : Int32} : ∀ (n : Nat) {x2 : Int32} {h : HS} {q : HS}, l_X6_readTerm_7 rc y1 n x2 h = some q → Nx h q := by
  intro n
  induction n with
  | zero => intro x2 h q H; exact nz H
  | succ n ih =>
    intro x2 h q H
    unfold l_X6_readTerm_7 at H
    replace H := oi H; obtain ⟨c19, H⟩ | ⟨c19, H⟩ := H
    · obtain rfl := Option.some.inj H
      exact Nx.rf
    · replace H := ob H; obtain ⟨q20, c21, H⟩ := H
      have e22 := n_X6_takes c21
      replace H := oi H; obtain ⟨c24, H⟩ | ⟨c24, H⟩ := H
      · replace H := ob H; obtain ⟨q25, c26, H⟩ := H
        have e27 := hpc c26
        replace H := ob H; obtain ⟨q29, c30, H⟩ := H
        have e31 := n_X6_write c30
        exact ((e22.tr e27).tr e31).tr (ih H)
      · obtain rfl := Option.some.inj H
        exact e22
set_option maxHeartbeats 4000000 in
set_option maxRecDepth 20000 in
theorem n_X6_readTerm {rc : Nat → Int32 → HS → Option HS} (hpc : RNX6 rc) {p1 : Int32} {h : HS} {q : HS} (H : g_X6_readTerm rc p1 h = some q) : Nx h q := by
  unfold g_X6_readTerm at H
  replace H := ob H; obtain ⟨q1, c2, H⟩ := H
  have e3 := hpc c2
  replace H := ob H; obtain ⟨q33, c34, H⟩ := H
  have e35 := n_X6_readTerm_7 hpc 1000 c34
  obtain rfl := Option.some.inj H
  exact (e3.tr e35)
set_option maxHeartbeats 4000000 in
set_option maxRecDepth 20000 in
theorem n_X6_readOne {rc : Nat → Int32 → HS → Option HS} (hpc : RNX6 rc) {p1 : Int32} {h : HS} {q : HS} (H : g_X6_readOne rc p1 h = some q) : Nx h q := by
  unfold g_X6_readOne at H
  replace H := ob H; obtain ⟨q1, c2, H⟩ := H
  replace H := ob H; obtain ⟨q3, c4, H⟩ := H
  replace H := oi H; obtain ⟨c5, H⟩ | ⟨c5, H⟩ := H
  · replace H := ob H; obtain ⟨q64, c65, H⟩ := H
    have e66 := n_X6_takes c65
    replace H := oi H; obtain ⟨c68, H⟩ | ⟨c68, H⟩ := H
    · replace H := ob H; obtain ⟨q127, c128, H⟩ := H
      have e129 := n_X6_write c128
      obtain rfl := Option.some.inj H
      exact (e66.tr e129)
    · replace H := oi H; obtain ⟨c69, H⟩ | ⟨c69, H⟩ := H
      · replace H := oi H; obtain ⟨c70, H⟩ | ⟨c70, H⟩ := H
        · replace H := ob H; obtain ⟨q71, c72, H⟩ := H
          have e73 := n_X6_refuse c72
          obtain rfl := Option.some.inj H
          exact (e66.tr e73)
        · replace H := ob H; obtain ⟨q75, c76, H⟩ := H
          have e77 := n_X6_takes c76
          replace H := oi H; obtain ⟨c79, H⟩ | ⟨c79, H⟩ := H
          · replace H := ob H; obtain ⟨q84, c85, H⟩ := H
            have e86 := hpc c85
            replace H := ob H; obtain ⟨q88, c89, H⟩ := H
            have e90 := n_X6_ask c89
            obtain rfl := Option.some.inj H
            exact (((e66.tr e77).tr e86).tr e90)
          · replace H := ob H; obtain ⟨q80, c81, H⟩ := H
            have e82 := n_X6_refuse c81
            obtain rfl := Option.some.inj H
            exact ((e66.tr e77).tr e82)
      · replace H := ob H; obtain ⟨q92, c93, H⟩ := H
        have e94 := n_X6_takes c93
        replace H := oi H; obtain ⟨c96, H⟩ | ⟨c96, H⟩ := H
        · replace H := ob H; obtain ⟨q119, c120, H⟩ := H
          have e121 := hpc c120
          replace H := ob H; obtain ⟨q123, c124, H⟩ := H
          have e125 := n_X6_write c124
          obtain rfl := Option.some.inj H
          exact (((e66.tr e94).tr e121).tr e125)
        · replace H := oi H; obtain ⟨c97, H⟩ | ⟨c97, H⟩ := H
          · replace H := ob H; obtain ⟨q98, c99, H⟩ := H
            have e100 := n_X6_refuse c99
            obtain rfl := Option.some.inj H
            exact ((e66.tr e94).tr e100)
          · replace H := ob H; obtain ⟨q102, c103, H⟩ := H
            have e104 := n_X6_takes c103
            replace H := oi H; obtain ⟨c106, H⟩ | ⟨c106, H⟩ := H
            · replace H := ob H; obtain ⟨q111, c112, H⟩ := H
              have e113 := hpc c112
              replace H := ob H; obtain ⟨q115, c116, H⟩ := H
              have e117 := n_X6_ask c116
              obtain rfl := Option.some.inj H
              exact ((((e66.tr e94).tr e104).tr e113).tr e117)
            · replace H := ob H; obtain ⟨q107, c108, H⟩ := H
              have e109 := n_X6_refuse c108
              obtain rfl := Option.some.inj H
              exact (((e66.tr e94).tr e104).tr e109)
  · replace H := oi H; obtain ⟨c6, H⟩ | ⟨c6, H⟩ := H
    · replace H := oi H; obtain ⟨c7, H⟩ | ⟨c7, H⟩ := H
      · replace H := ob H; obtain ⟨q8, c9, H⟩ := H
        have e10 := n_X6_refuse c9
        obtain rfl := Option.some.inj H
        exact e10
      · replace H := ob H; obtain ⟨q12, c13, H⟩ := H
        have e14 := n_X6_takes c13
        replace H := oi H; obtain ⟨c16, H⟩ | ⟨c16, H⟩ := H
        · replace H := ob H; obtain ⟨q21, c22, H⟩ := H
          have e23 := hpc c22
          replace H := ob H; obtain ⟨q25, c26, H⟩ := H
          have e27 := n_X6_ask c26
          obtain rfl := Option.some.inj H
          exact ((e14.tr e23).tr e27)
        · replace H := ob H; obtain ⟨q17, c18, H⟩ := H
          have e19 := n_X6_refuse c18
          obtain rfl := Option.some.inj H
          exact (e14.tr e19)
    · replace H := ob H; obtain ⟨q29, c30, H⟩ := H
      have e31 := n_X6_takes c30
      replace H := oi H; obtain ⟨c33, H⟩ | ⟨c33, H⟩ := H
      · replace H := ob H; obtain ⟨q56, c57, H⟩ := H
        have e58 := hpc c57
        replace H := ob H; obtain ⟨q60, c61, H⟩ := H
        have e62 := n_X6_write c61
        obtain rfl := Option.some.inj H
        exact ((e31.tr e58).tr e62)
      · replace H := oi H; obtain ⟨c34, H⟩ | ⟨c34, H⟩ := H
        · replace H := ob H; obtain ⟨q35, c36, H⟩ := H
          have e37 := n_X6_refuse c36
          obtain rfl := Option.some.inj H
          exact (e31.tr e37)
        · replace H := ob H; obtain ⟨q39, c40, H⟩ := H
          have e41 := n_X6_takes c40
          replace H := oi H; obtain ⟨c43, H⟩ | ⟨c43, H⟩ := H
          · replace H := ob H; obtain ⟨q48, c49, H⟩ := H
            have e50 := hpc c49
            replace H := ob H; obtain ⟨q52, c53, H⟩ := H
            have e54 := n_X6_ask c53
            obtain rfl := Option.some.inj H
            exact (((e31.tr e41).tr e50).tr e54)
          · replace H := ob H; obtain ⟨q44, c45, H⟩ := H
            have e46 := n_X6_refuse c45
            obtain rfl := Option.some.inj H
            exact ((e31.tr e41).tr e46)
set_option maxHeartbeats 4000000 in
set_option maxRecDepth 20000 in
theorem n_rX6 : ∀ n, RNX6 (r_X6 n) := by
  intro n
  induction n with
  | zero => intro m o h q H; exact nz H
  | succ n ih =>
    intro m o h q H
    unfold r_X6 at H
    replace H := oi H; obtain ⟨-, H⟩ | ⟨-, H⟩ := H
    · exact n_X6_readAny ih H
    replace H := oi H; obtain ⟨-, H⟩ | ⟨-, H⟩ := H
    · exact n_X6_readEach ih H
    replace H := oi H; obtain ⟨-, H⟩ | ⟨-, H⟩ := H
    · exact n_X6_readNot ih H
    replace H := oi H; obtain ⟨-, H⟩ | ⟨-, H⟩ := H
    · exact n_X6_readSum ih H
    replace H := oi H; obtain ⟨-, H⟩ | ⟨-, H⟩ := H
    · exact n_X6_readTerm ih H
    replace H := oi H; obtain ⟨-, H⟩ | ⟨-, H⟩ := H
    · exact n_X6_readOne ih H
    exact nz H
set_option maxHeartbeats 4000000 in
set_option maxRecDepth 20000 in
theorem n_E_X6_readAny {o : Int32} {h : HS} {q : HS} (H : r_X6 60 0 o h = some q) : Nx h q := n_rX6 60 H
set_option maxHeartbeats 4000000 in
set_option maxRecDepth 20000 in
theorem n_E_X6_readEach {o : Int32} {h : HS} {q : HS} (H : r_X6 60 1 o h = some q) : Nx h q := n_rX6 60 H
set_option maxHeartbeats 4000000 in
set_option maxRecDepth 20000 in
theorem n_E_X6_readNot {o : Int32} {h : HS} {q : HS} (H : r_X6 60 2 o h = some q) : Nx h q := n_rX6 60 H
set_option maxHeartbeats 4000000 in
set_option maxRecDepth 20000 in
theorem n_E_X6_readSum {o : Int32} {h : HS} {q : HS} (H : r_X6 60 3 o h = some q) : Nx h q := n_rX6 60 H
set_option maxHeartbeats 4000000 in
set_option maxRecDepth 20000 in
theorem n_E_X6_readTerm {o : Int32} {h : HS} {q : HS} (H : r_X6 60 4 o h = some q) : Nx h q := n_rX6 60 H
set_option maxHeartbeats 4000000 in
set_option maxRecDepth 20000 in
theorem n_E_X6_readOne {o : Int32} {h : HS} {q : HS} (H : r_X6 60 5 o h = some q) : Nx h q := n_rX6 60 H
set_option maxHeartbeats 4000000 in
set_option maxRecDepth 20000 in
theorem n_X6_readPart {p1 : Int32} {h : HS} {q : HS} (H : f_X6_readPart p1 h = some q) : Nx h q := by
  unfold f_X6_readPart at H
  replace H := ob H; obtain ⟨q1, c2, H⟩ := H
  have e3 := n_X6_ask c2
  replace H := ob H; obtain ⟨q5, c6, H⟩ := H
  have e7 := n_E_X6_readAny c6
  replace H := ob H; obtain ⟨q9, c10, H⟩ := H
  have e11 := n_X6_ask c10
  obtain rfl := Option.some.inj H
  exact ((e3.tr e7).tr e11)
set_option maxHeartbeats 4000000 in
set_option maxRecDepth 20000 in
theorem n_X10_init {p0 : Nat} {p1 : Int32} {p2 : Int32} {p3 : Int32} {p4 : Int32} {h : HS} {q : HS} (H : f_X10_init p0 p1 p2 p3 p4 h = some q) : Nx h q := by
  unfold f_X10_init at H
  replace H := ob H; obtain ⟨q1, c2, H⟩ := H
  have e3 := n_X8_init c2
  obtain rfl := Option.some.inj H
  exact e3
set_option maxHeartbeats 4000000 in
set_option maxRecDepth 20000 in
theorem n_X7_init {p0 : Nat} {p1 : Int32} {p2 : Int32} {p3 : Int32} {p4 : Int32} {h : HS} {q : HS} (H : f_X7_init p0 p1 p2 p3 p4 h = some q) : Nx h q := by
  unfold f_X7_init at H
  replace H := ob H; obtain ⟨q1, c2, H⟩ := H
  have e3 := n_X10_init c2
  obtain rfl := Option.some.inj H
  exact e3
set_option maxHeartbeats 4000000 in
set_option maxRecDepth 20000 in
theorem n_X9_push {p0 : Nat} {p1 : Int32} {p2 : Int32} {h : HS} {q : (Int32 × HS)} (H : f_X9_push p0 p1 p2 h = some q) : Nx h q.2 := by
  unfold f_X9_push at H
  replace H := oi H; obtain ⟨c1, H⟩ | ⟨c1, H⟩ := H
  · obtain rfl := Option.some.inj H
    exact Nx.rf
  · replace H := og H; obtain ⟨g2, H⟩ := H
    replace H := oom H; obtain ⟨-, H⟩ | ⟨b3, e4, H⟩ := H
    · exact nz H
    replace H := og H; obtain ⟨g5, H⟩ := H
    replace H := oi H; obtain ⟨c6, H⟩ | ⟨c6, H⟩ := H
    · replace H := oom H; obtain ⟨-, H⟩ | ⟨b7, e8, H⟩ := H
      · exact nz H
      replace H := og H; obtain ⟨g9, H⟩ := H
      replace H := og H; obtain ⟨g10, H⟩ := H
      obtain rfl := Option.some.inj H
      exact (Nx.rf.sI)
    · obtain rfl := Option.some.inj H
      exact Nx.rf
set_option maxHeartbeats 4000000 in
set_option maxRecDepth 20000 in
theorem n_X9_alter {p0 : Nat} {p1 : Int32} {p2 : Int32} {h : HS} {q : (Int32 × HS)} (H : f_X9_alter p0 p1 p2 h = some q) : Nx h q.2 := by
  unfold f_X9_alter at H
  replace H := oi H; obtain ⟨c1, H⟩ | ⟨c1, H⟩ := H
  · obtain rfl := Option.some.inj H
    exact Nx.rf
  · replace H := og H; obtain ⟨g2, H⟩ := H
    replace H := oom H; obtain ⟨-, H⟩ | ⟨b3, e4, H⟩ := H
    · exact nz H
    replace H := og H; obtain ⟨g5, H⟩ := H
    replace H := oi H; obtain ⟨c6, H⟩ | ⟨c6, H⟩ := H
    · replace H := oom H; obtain ⟨-, H⟩ | ⟨b7, e8, H⟩ := H
      · exact nz H
      replace H := og H; obtain ⟨g9, H⟩ := H
      replace H := og H; obtain ⟨g10, H⟩ := H
      replace H := oom H; obtain ⟨-, H⟩ | ⟨b11, e12, H⟩ := H
      · exact nz H
      replace H := oi H; obtain ⟨c13, H⟩ | ⟨c13, H⟩ := H
      · replace H := og H; obtain ⟨g19, H⟩ := H
        replace H := og H; obtain ⟨g20, H⟩ := H
        obtain rfl := Option.some.inj H
        exact (Nx.rf.sI)
      · replace H := oi H; obtain ⟨c14, H⟩ | ⟨c14, H⟩ := H
        · replace H := og H; obtain ⟨g17, H⟩ := H
          replace H := og H; obtain ⟨g18, H⟩ := H
          obtain rfl := Option.some.inj H
          exact (Nx.rf.sI)
        · replace H := og H; obtain ⟨g15, H⟩ := H
          replace H := og H; obtain ⟨g16, H⟩ := H
          obtain rfl := Option.some.inj H
          exact (Nx.rf.sI)
    · obtain rfl := Option.some.inj H
      exact Nx.rf
set_option maxHeartbeats 4000000 in
set_option maxRecDepth 20000 in
theorem n_X9_step {p0 : Nat} {p1 : Int32} {p2 : Int32} {p3 : Nat} {h : HS} {q : (Int32 × HS)} (H : f_X9_step p0 p1 p2 p3 h = some q) : Nx h q.2 := by
  unfold f_X9_step at H
  replace H := oi H; obtain ⟨c1, H⟩ | ⟨c1, H⟩ := H
  · replace H := oi H; obtain ⟨c2, H⟩ | ⟨c2, H⟩ := H
    · replace H := oi H; obtain ⟨c3, H⟩ | ⟨c3, H⟩ := H
      · replace H := og H; obtain ⟨g6, H⟩ := H
        replace H := ob H; obtain ⟨q4, c5, H⟩ := H
        have e7 := n_X9_alter c5
        obtain rfl := Option.some.inj H
        exact e7
      · replace H := oi H; obtain ⟨c9, H⟩ | ⟨c9, H⟩ := H
        · replace H := og H; obtain ⟨g32, H⟩ := H
          replace H := ob H; obtain ⟨q30, c31, H⟩ := H
          have e33 := n_X9_alter c31
          obtain rfl := Option.some.inj H
          exact e33
        · replace H := oi H; obtain ⟨c10, H⟩ | ⟨c10, H⟩ := H
          · obtain rfl := Option.some.inj H
            exact Nx.rf
          · replace H := og H; obtain ⟨g11, H⟩ := H
            replace H := oom H; obtain ⟨-, H⟩ | ⟨b12, e13, H⟩ := H
            · exact nz H
            replace H := og H; obtain ⟨g14, H⟩ := H
            replace H := oi H; obtain ⟨c15, H⟩ | ⟨c15, H⟩ := H
            · replace H := oom H; obtain ⟨-, H⟩ | ⟨b16, e17, H⟩ := H
              · exact nz H
              replace H := oom H; obtain ⟨-, H⟩ | ⟨b18, e19, H⟩ := H
              · exact nz H
              replace H := og H; obtain ⟨g20, H⟩ := H
              replace H := og H; obtain ⟨g21, H⟩ := H
              replace H := oom H; obtain ⟨-, H⟩ | ⟨b22, e23, H⟩ := H
              · exact nz H
              replace H := og H; obtain ⟨g24, H⟩ := H
              replace H := og H; obtain ⟨g25, H⟩ := H
              replace H := ob H; obtain ⟨q26, c27, H⟩ := H
              replace H := og H; obtain ⟨g28, H⟩ := H
              replace H := og H; obtain ⟨g29, H⟩ := H
              obtain rfl := Option.some.inj H
              exact (Nx.rf.sI)
            · obtain rfl := Option.some.inj H
              exact Nx.rf
    · replace H := oi H; obtain ⟨c35, H⟩ | ⟨c35, H⟩ := H
      · replace H := oi H; obtain ⟨c36, H⟩ | ⟨c36, H⟩ := H
        · replace H := og H; obtain ⟨g39, H⟩ := H
          replace H := ob H; obtain ⟨q37, c38, H⟩ := H
          have e40 := n_X9_alter c38
          obtain rfl := Option.some.inj H
          exact e40
        · replace H := oi H; obtain ⟨c42, H⟩ | ⟨c42, H⟩ := H
          · replace H := og H; obtain ⟨g65, H⟩ := H
            replace H := ob H; obtain ⟨q63, c64, H⟩ := H
            have e66 := n_X9_alter c64
            obtain rfl := Option.some.inj H
            exact e66
          · replace H := oi H; obtain ⟨c43, H⟩ | ⟨c43, H⟩ := H
            · obtain rfl := Option.some.inj H
              exact Nx.rf
            · replace H := og H; obtain ⟨g44, H⟩ := H
              replace H := oom H; obtain ⟨-, H⟩ | ⟨b45, e46, H⟩ := H
              · exact nz H
              replace H := og H; obtain ⟨g47, H⟩ := H
              replace H := oi H; obtain ⟨c48, H⟩ | ⟨c48, H⟩ := H
              · replace H := oom H; obtain ⟨-, H⟩ | ⟨b49, e50, H⟩ := H
                · exact nz H
                replace H := oom H; obtain ⟨-, H⟩ | ⟨b51, e52, H⟩ := H
                · exact nz H
                replace H := og H; obtain ⟨g53, H⟩ := H
                replace H := og H; obtain ⟨g54, H⟩ := H
                replace H := oom H; obtain ⟨-, H⟩ | ⟨b55, e56, H⟩ := H
                · exact nz H
                replace H := og H; obtain ⟨g57, H⟩ := H
                replace H := og H; obtain ⟨g58, H⟩ := H
                replace H := ob H; obtain ⟨q59, c60, H⟩ := H
                replace H := og H; obtain ⟨g61, H⟩ := H
                replace H := og H; obtain ⟨g62, H⟩ := H
                obtain rfl := Option.some.inj H
                exact (Nx.rf.sI)
              · obtain rfl := Option.some.inj H
                exact Nx.rf
      · replace H := og H; obtain ⟨g68, H⟩ := H
        replace H := oi H; obtain ⟨c69, H⟩ | ⟨c69, H⟩ := H
        · replace H := oi H; obtain ⟨c70, H⟩ | ⟨c70, H⟩ := H
          · replace H := og H; obtain ⟨g73, H⟩ := H
            replace H := ob H; obtain ⟨q71, c72, H⟩ := H
            have e74 := n_X9_alter c72
            obtain rfl := Option.some.inj H
            exact e74
          · replace H := oi H; obtain ⟨c77, H⟩ | ⟨c77, H⟩ := H
            · replace H := og H; obtain ⟨g100, H⟩ := H
              replace H := ob H; obtain ⟨q98, c99, H⟩ := H
              have e101 := n_X9_alter c99
              obtain rfl := Option.some.inj H
              exact e101
            · replace H := oi H; obtain ⟨c78, H⟩ | ⟨c78, H⟩ := H
              · obtain rfl := Option.some.inj H
                exact Nx.rf
              · replace H := og H; obtain ⟨g79, H⟩ := H
                replace H := oom H; obtain ⟨-, H⟩ | ⟨b80, e81, H⟩ := H
                · exact nz H
                replace H := og H; obtain ⟨g82, H⟩ := H
                replace H := oi H; obtain ⟨c83, H⟩ | ⟨c83, H⟩ := H
                · replace H := oom H; obtain ⟨-, H⟩ | ⟨b84, e85, H⟩ := H
                  · exact nz H
                  replace H := oom H; obtain ⟨-, H⟩ | ⟨b86, e87, H⟩ := H
                  · exact nz H
                  replace H := og H; obtain ⟨g88, H⟩ := H
                  replace H := og H; obtain ⟨g89, H⟩ := H
                  replace H := oom H; obtain ⟨-, H⟩ | ⟨b90, e91, H⟩ := H
                  · exact nz H
                  replace H := og H; obtain ⟨g92, H⟩ := H
                  replace H := og H; obtain ⟨g93, H⟩ := H
                  replace H := ob H; obtain ⟨q94, c95, H⟩ := H
                  replace H := og H; obtain ⟨g96, H⟩ := H
                  replace H := og H; obtain ⟨g97, H⟩ := H
                  obtain rfl := Option.some.inj H
                  exact (Nx.rf.sI)
                · obtain rfl := Option.some.inj H
                  exact Nx.rf
        · replace H := og H; obtain ⟨g104, H⟩ := H
          replace H := og H; obtain ⟨g107, H⟩ := H
          replace H := ob H; obtain ⟨q105, c106, H⟩ := H
          have e108 := n_X9_push c106
          obtain rfl := Option.some.inj H
          exact e108
  · replace H := og H; obtain ⟨g113, H⟩ := H
    replace H := ob H; obtain ⟨q111, c112, H⟩ := H
    have e114 := n_X9_push c112
    obtain rfl := Option.some.inj H
    exact e114
set_option maxHeartbeats 4000000 in
set_option maxRecDepth 20000 in
theorem n_X9_comesTo_61 {y0 : Nat} {y2 : Nat} {y4 : Int32} : ∀ (n : Nat) {x5 : Int32} {x6 : Int32} {h : HS} {q : (Int32 × HS)}, l_X9_comesTo_61 y0 y2 y4 n x5 x6 h = some q → Nx h q.2 := by
  intro n
  induction n with
  | zero => intro x5 x6 h q H; exact nz H
  | succ n ih =>
    intro x5 x6 h q H
    unfold l_X9_comesTo_61 at H
    replace H := oi H; obtain ⟨c36, H⟩ | ⟨c36, H⟩ := H
    · obtain rfl := Option.some.inj H
      exact Nx.rf
    · replace H := oi H; obtain ⟨c37, H⟩ | ⟨c37, H⟩ := H
      · obtain rfl := Option.some.inj H
        exact Nx.rf
      · replace H := og H; obtain ⟨g38, H⟩ := H
        replace H := oom H; obtain ⟨-, H⟩ | ⟨b39, e40, H⟩ := H
        · exact nz H
        replace H := og H; obtain ⟨g41, H⟩ := H
        replace H := oi H; obtain ⟨c42, H⟩ | ⟨c42, H⟩ := H
        · obtain rfl := Option.some.inj H
          exact Nx.rf
        · replace H := oom H; obtain ⟨-, H⟩ | ⟨b43, e44, H⟩ := H
          · exact nz H
          replace H := og H; obtain ⟨g45, H⟩ := H
          replace H := og H; obtain ⟨g46, H⟩ := H
          replace H := ob H; obtain ⟨q47, c48, H⟩ := H
          have e49 := n_X9_step c48
          exact e49.tr (ih H)
set_option maxHeartbeats 4000000 in
set_option maxRecDepth 20000 in
theorem n_X9_comesTo {p0 : Nat} {p1 : Int32} {p2 : Nat} {h : HS} {q : (Int32 × HS)} (H : f_X9_comesTo p0 p1 p2 h = some q) : Nx h q.2 := by
  unfold f_X9_comesTo at H
  replace H := ob H; obtain ⟨q2, c7, H⟩ := H
  replace H := ob H; obtain ⟨q9, c18, H⟩ := H
  replace H := ob H; obtain ⟨q53, c54, H⟩ := H
  have e55 := n_X9_comesTo_61 1000 c54
  replace H := oi H; obtain ⟨c56, H⟩ | ⟨c56, H⟩ := H
  · obtain rfl := Option.some.inj H
    exact e55
  · replace H := og H; obtain ⟨g57, H⟩ := H
    replace H := oom H; obtain ⟨-, H⟩ | ⟨b58, e59, H⟩ := H
    · exact nz H
    replace H := og H; obtain ⟨g60, H⟩ := H
    replace H := oi H; obtain ⟨c61, H⟩ | ⟨c61, H⟩ := H
    · obtain rfl := Option.some.inj H
      exact e55
    · replace H := oom H; obtain ⟨-, H⟩ | ⟨b62, e63, H⟩ := H
      · exact nz H
      replace H := og H; obtain ⟨g64, H⟩ := H
      replace H := og H; obtain ⟨g65, H⟩ := H
      obtain rfl := Option.some.inj H
      exact e55
set_option maxHeartbeats 4000000 in
set_option maxRecDepth 20000 in
theorem n_Jxc12de_init_da8c8 {p0 : Nat} {h : HS} {q : HS} (H : f_Jxc12de_init_da8c8 p0 h = some q) : Nx h q := by
  unfold f_Jxc12de_init_da8c8 at H
  replace H := ob H; obtain ⟨q1, c2, H⟩ := H
  replace H := og H; obtain ⟨g3, H⟩ := H
  obtain rfl := Option.some.inj H
  exact (Nx.rf.sI)
set_option maxHeartbeats 4000000 in
set_option maxRecDepth 20000 in
theorem n_Jx4a65c_init_da8c8 {p0 : Nat} {h : HS} {q : HS} (H : f_Jx4a65c_init_da8c8 p0 h = some q) : Nx h q := by
  unfold f_Jx4a65c_init_da8c8 at H
  replace H := ob H; obtain ⟨q1, c2, H⟩ := H
  have e3 := n_Jxc12de_init_da8c8 c2
  replace H := og H; obtain ⟨g4, H⟩ := H
  replace H := og H; obtain ⟨g5, H⟩ := H
  have e6 := Nx.sR (h := q1) (a := p0) (k := 1) (v := some 27) Nx.rf g5
  obtain rfl := Option.some.inj H
  exact (e3.tr e6)
set_option maxHeartbeats 4000000 in
set_option maxRecDepth 20000 in
theorem n_X11_set {p1 : Int32} {p2 : Int32} {p3 : Int32} {h : HS} {q : (Int32 × HS)} (H : f_X11_set p1 p2 p3 h = some q) : Nx h q.2 := by
  unfold f_X11_set at H
  replace H := ob H; obtain ⟨q1, c2, H⟩ := H
  replace H := oom H; obtain ⟨e3, H⟩ | ⟨b4, e3, H⟩ := H
  · obtain rfl := Option.some.inj H
    exact Nx.rf
  · replace H := ob H; obtain ⟨q7, c8, H⟩ := H
    replace H := oi H; obtain ⟨c9, H⟩ | ⟨c9, H⟩ := H
    · replace H := ob H; obtain ⟨q10, c11, H⟩ := H
      replace H := ob H; obtain ⟨q12, c13, H⟩ := H
      have e14 := n_V_change c13
      obtain rfl := Option.some.inj H
      exact e14
    · obtain rfl := Option.some.inj H
      exact Nx.rf
set_option maxHeartbeats 4000000 in
set_option maxRecDepth 20000 in
theorem n_X11_tellValues {p1 : Nat} {p2 : Int32} {h : HS} {q : HS} (H : f_X11_tellValues p1 p2 h = some q) : Nx h q := by
  unfold f_X11_tellValues at H
  replace H := og H; obtain ⟨g1, H⟩ := H
  replace H := obh H; obtain ⟨h2, e3, H⟩ := H
  obtain rfl := Option.some.inj H
  exact ((kN e3 (((Nx.rf.sI).sI).sI)).sI)
set_option maxHeartbeats 4000000 in
set_option maxRecDepth 20000 in
theorem n_X11_ruleSays {p1 : Int32} {p2 : Int32} {p3 : Int32} {h : HS} {q : (Int32 × HS)} (H : f_X11_ruleSays p1 p2 p3 h = some q) : Nx h q.2 := by
  unfold f_X11_ruleSays at H
  replace H := og H; obtain ⟨g3, H⟩ := H
  replace H := ob H; obtain ⟨q1, c2, H⟩ := H
  replace H := ob H; obtain ⟨q4, c5, H⟩ := H
  replace H := oi H; obtain ⟨c6, H⟩ | ⟨c6, H⟩ := H
  · replace H := ob H; obtain ⟨q7, c8, H⟩ := H
    replace H := oom H; obtain ⟨e9, H⟩ | ⟨b10, e9, H⟩ := H
    · exact nz H
    · replace H := og H; obtain ⟨g11, H⟩ := H
      replace H := ob H; obtain ⟨q12, c13, H⟩ := H
      have e14 := n_X9_comesTo c13
      obtain rfl := Option.some.inj H
      exact (((Nx.rf.sI).sI).tr e14)
  · obtain rfl := Option.some.inj H
    exact Nx.rf
set_option maxHeartbeats 4000000 in
set_option maxRecDepth 20000 in
theorem n_X11_lookHours {p1 : Nat} {h : HS} {q : (Int32 × HS)} (H : f_X11_lookHours p1 h = some q) : Nx h q.2 := by
  unfold f_X11_lookHours at H
  replace H := ob H; obtain ⟨q1, c2, H⟩ := H
  have e3 := n_X11_tellValues c2
  replace H := ob H; obtain ⟨q5, c6, H⟩ := H
  have e7 := n_X11_ruleSays c6
  obtain rfl := Option.some.inj H
  exact (e3.tr e7)
set_option maxHeartbeats 4000000 in
set_option maxRecDepth 20000 in
theorem n_X11_told {p1 : Int32} {p2 : Int32} {h : HS} {q : (Int32 × HS)} (H : f_X11_told p1 p2 h = some q) : Nx h q.2 := by
  unfold f_X11_told at H
  replace H := ob H; obtain ⟨q1, c2, H⟩ := H
  replace H := oom H; obtain ⟨e3, H⟩ | ⟨b4, e3, H⟩ := H
  · obtain rfl := Option.some.inj H
    exact Nx.rf
  · replace H := oi H; obtain ⟨k7, H⟩ | ⟨k7, H⟩ := H
    · replace H := og H; obtain ⟨g28, H⟩ := H
      obtain rfl := Option.some.inj H
      exact Nx.rf
    · replace H := oi H; obtain ⟨k8, H⟩ | ⟨k8, H⟩ := H
      · replace H := og H; obtain ⟨g27, H⟩ := H
        obtain rfl := Option.some.inj H
        exact Nx.rf
      · replace H := oi H; obtain ⟨k9, H⟩ | ⟨k9, H⟩ := H
        · replace H := og H; obtain ⟨g26, H⟩ := H
          obtain rfl := Option.some.inj H
          exact Nx.rf
        · replace H := oi H; obtain ⟨k10, H⟩ | ⟨k10, H⟩ := H
          · replace H := og H; obtain ⟨g25, H⟩ := H
            obtain rfl := Option.some.inj H
            exact Nx.rf
          · replace H := oi H; obtain ⟨k11, H⟩ | ⟨k11, H⟩ := H
            · replace H := og H; obtain ⟨g24, H⟩ := H
              obtain rfl := Option.some.inj H
              exact Nx.rf
            · replace H := oi H; obtain ⟨k12, H⟩ | ⟨k12, H⟩ := H
              · replace H := og H; obtain ⟨g23, H⟩ := H
                obtain rfl := Option.some.inj H
                exact Nx.rf
              · replace H := oi H; obtain ⟨k13, H⟩ | ⟨k13, H⟩ := H
                · replace H := og H; obtain ⟨g22, H⟩ := H
                  obtain rfl := Option.some.inj H
                  exact Nx.rf
                · replace H := oi H; obtain ⟨k14, H⟩ | ⟨k14, H⟩ := H
                  · replace H := ob H; obtain ⟨q20, c21, H⟩ := H
                    obtain rfl := Option.some.inj H
                    exact Nx.rf
                  · replace H := oi H; obtain ⟨k15, H⟩ | ⟨k15, H⟩ := H
                    · replace H := ob H; obtain ⟨q16, c17, H⟩ := H
                      have e18 := n_X11_lookHours c17
                      obtain rfl := Option.some.inj H
                      exact e18
                    · obtain rfl := Option.some.inj H
                      exact Nx.rf
set_option maxHeartbeats 4000000 in
set_option maxRecDepth 20000 in
theorem n_X11_odds {p1 : Int32} {p2 : Int32} {p3 : Int32} {p4 : Int32} {h : HS} {q : (Int64 × HS)} (H : f_X11_odds p1 p2 p3 p4 h = some q) : Nx h q.2 := by
  unfold f_X11_odds at H
  replace H := ob H; obtain ⟨q1, c2, H⟩ := H
  replace H := oom H; obtain ⟨e3, H⟩ | ⟨b4, e3, H⟩ := H
  · replace H := ob H; obtain ⟨q5, c6, H⟩ := H
    replace H := oom H; obtain ⟨e7, H⟩ | ⟨b8, e7, H⟩ := H
    · obtain rfl := Option.some.inj H
      exact Nx.rf
    · obtain rfl := Option.some.inj H
      exact Nx.rf
  · replace H := ob H; obtain ⟨q11, c12, H⟩ := H
    replace H := oom H; obtain ⟨e13, H⟩ | ⟨b14, e13, H⟩ := H
    · obtain rfl := Option.some.inj H
      exact Nx.rf
    · replace H := ob H; obtain ⟨q19, c20, H⟩ := H
      replace H := oi H; obtain ⟨c21, H⟩ | ⟨c21, H⟩ := H
      · replace H := ob H; obtain ⟨q22, c23, H⟩ := H
        replace H := oi H; obtain ⟨c24, H⟩ | ⟨c24, H⟩ := H
        · replace H := og H; obtain ⟨g25, H⟩ := H
          replace H := ob H; obtain ⟨q26, c27, H⟩ := H
          have e28 := n_X2_fill c27
          replace H := ob H; obtain ⟨q31, c32, H⟩ := H
          replace H := og H; obtain ⟨g33, H⟩ := H
          replace H := ob H; obtain ⟨q34, c35, H⟩ := H
          obtain rfl := Option.some.inj H
          exact e28
        · obtain rfl := Option.some.inj H
          exact Nx.rf
      · obtain rfl := Option.some.inj H
        exact Nx.rf
set_option maxHeartbeats 4000000 in
set_option maxRecDepth 20000 in
theorem n_X11_best {p1 : Int32} {p2 : Int32} {p3 : Int32} {h : HS} {q : (Int64 × HS)} (H : f_X11_best p1 p2 p3 h = some q) : Nx h q.2 := by
  unfold f_X11_best at H
  replace H := ob H; obtain ⟨q1, c2, H⟩ := H
  replace H := oom H; obtain ⟨e3, H⟩ | ⟨b4, e3, H⟩ := H
  · replace H := ob H; obtain ⟨q5, c6, H⟩ := H
    replace H := oom H; obtain ⟨e7, H⟩ | ⟨b8, e7, H⟩ := H
    · obtain rfl := Option.some.inj H
      exact Nx.rf
    · obtain rfl := Option.some.inj H
      exact Nx.rf
  · replace H := ob H; obtain ⟨q11, c12, H⟩ := H
    replace H := oom H; obtain ⟨e13, H⟩ | ⟨b14, e13, H⟩ := H
    · obtain rfl := Option.some.inj H
      exact Nx.rf
    · replace H := ob H; obtain ⟨q19, c20, H⟩ := H
      replace H := oi H; obtain ⟨c21, H⟩ | ⟨c21, H⟩ := H
      · replace H := og H; obtain ⟨g22, H⟩ := H
        replace H := ob H; obtain ⟨q23, c24, H⟩ := H
        have e25 := n_X2_fill c24
        replace H := ob H; obtain ⟨q28, c29, H⟩ := H
        replace H := oi H; obtain ⟨c30, H⟩ | ⟨c30, H⟩ := H
        · obtain rfl := Option.some.inj H
          exact e25
        · replace H := ob H; obtain ⟨q31, c32, H⟩ := H
          replace H := og H; obtain ⟨g33, H⟩ := H
          replace H := ob H; obtain ⟨q34, c35, H⟩ := H
          obtain rfl := Option.some.inj H
          exact e25
      · obtain rfl := Option.some.inj H
        exact Nx.rf
set_option maxHeartbeats 4000000 in
set_option maxRecDepth 20000 in
theorem n_X11_keepTry {p1 : Int32} {p2 : Int32} {p3 : Int32} {p4 : Int32} {h : HS} {q : HS} (H : f_X11_keepTry p1 p2 p3 p4 h = some q) : Nx h q := by
  unfold f_X11_keepTry at H
  replace H := ob H; obtain ⟨q1, c2, H⟩ := H
  replace H := oom H; obtain ⟨e3, H⟩ | ⟨b4, e3, H⟩ := H
  · obtain rfl := Option.some.inj H
    exact Nx.rf
  · replace H := ob H; obtain ⟨q7, c8, H⟩ := H
    replace H := oi H; obtain ⟨c9, H⟩ | ⟨c9, H⟩ := H
    · replace H := og H; obtain ⟨g10, H⟩ := H
      replace H := og H; obtain ⟨g11, H⟩ := H
      replace H := og H; obtain ⟨g12, H⟩ := H
      replace H := obh H; obtain ⟨h13, e14, H⟩ := H
      replace H := og H; obtain ⟨g16, H⟩ := H
      replace H := og H; obtain ⟨g17, H⟩ := H
      replace H := og H; obtain ⟨g18, H⟩ := H
      replace H := obh H; obtain ⟨h19, e20, H⟩ := H
      obtain rfl := Option.some.inj H
      exact ((kN e20 (((kN e14 (((Nx.rf.sI).sI).sI)).sI).sI)).sI)
    · obtain rfl := Option.some.inj H
      exact Nx.rf
set_option maxHeartbeats 4000000 in
set_option maxRecDepth 20000 in
theorem n_X11_tried {p1 : Int32} {p2 : Int32} {p3 : Int32} {p4 : Int32} {h : HS} {q : (Int32 × HS)} (H : f_X11_tried p1 p2 p3 p4 h = some q) : Nx h q.2 := by
  unfold f_X11_tried at H
  replace H := ob H; obtain ⟨q1, c2, H⟩ := H
  replace H := oom H; obtain ⟨e3, H⟩ | ⟨b4, e3, H⟩ := H
  · replace H := ob H; obtain ⟨q5, c6, H⟩ := H
    replace H := oom H; obtain ⟨e7, H⟩ | ⟨b8, e7, H⟩ := H
    · obtain rfl := Option.some.inj H
      exact Nx.rf
    · obtain rfl := Option.some.inj H
      exact Nx.rf
  · replace H := ob H; obtain ⟨q11, c12, H⟩ := H
    replace H := oom H; obtain ⟨e13, H⟩ | ⟨b14, e13, H⟩ := H
    · obtain rfl := Option.some.inj H
      exact Nx.rf
    · replace H := ob H; obtain ⟨q19, c20, H⟩ := H
      replace H := oi H; obtain ⟨c21, H⟩ | ⟨c21, H⟩ := H
      · replace H := ob H; obtain ⟨q22, c23, H⟩ := H
        replace H := oi H; obtain ⟨c24, H⟩ | ⟨c24, H⟩ := H
        · replace H := oi H; obtain ⟨c25, H⟩ | ⟨c25, H⟩ := H
          · replace H := ob H; obtain ⟨q26, c27, H⟩ := H
            replace H := ob H; obtain ⟨q28, c29, H⟩ := H
            replace H := ob H; obtain ⟨q30, c31, H⟩ := H
            replace H := ob H; obtain ⟨q32, c33, H⟩ := H
            have e34 := n_X11_keepTry c33
            obtain rfl := Option.some.inj H
            exact e34
          · obtain rfl := Option.some.inj H
            exact Nx.rf
        · obtain rfl := Option.some.inj H
          exact Nx.rf
      · obtain rfl := Option.some.inj H
        exact Nx.rf
set_option maxHeartbeats 4000000 in
set_option maxRecDepth 20000 in
theorem n_X11_shown {p1 : Int32} {p2 : Int32} {p3 : Int32} {p4 : Int32} {h : HS} {q : (Int32 × HS)} (H : f_X11_shown p1 p2 p3 p4 h = some q) : Nx h q.2 := by
  unfold f_X11_shown at H
  replace H := ob H; obtain ⟨q1, c2, H⟩ := H
  replace H := oi H; obtain ⟨c3, H⟩ | ⟨c3, H⟩ := H
  · replace H := oi H; obtain ⟨c4, H⟩ | ⟨c4, H⟩ := H
    · replace H := ob H; obtain ⟨q5, c6, H⟩ := H
      have e7 := n_X11_keepTry c6
      obtain rfl := Option.some.inj H
      exact e7
    · obtain rfl := Option.some.inj H
      exact Nx.rf
  · obtain rfl := Option.some.inj H
    exact Nx.rf
set_option maxHeartbeats 4000000 in
set_option maxRecDepth 20000 in
theorem n_X11_setAll {p1 : Int32} {p2 : Int32} {p3 : Int32} {h : HS} {q : (Int64 × HS)} (H : f_X11_setAll p1 p2 p3 h = some q) : Nx h q.2 := by
  unfold f_X11_setAll at H
  replace H := ob H; obtain ⟨q1, c2, H⟩ := H
  replace H := oom H; obtain ⟨e3, H⟩ | ⟨b4, e3, H⟩ := H
  · obtain rfl := Option.some.inj H
    exact Nx.rf
  · replace H := ob H; obtain ⟨q7, c8, H⟩ := H
    replace H := oi H; obtain ⟨c9, H⟩ | ⟨c9, H⟩ := H
    · replace H := ob H; obtain ⟨q10, c11, H⟩ := H
      replace H := oi H; obtain ⟨c12, H⟩ | ⟨c12, H⟩ := H
      · replace H := ob H; obtain ⟨q13, c14, H⟩ := H
        have e15 := n_X2_fill c14
        replace H := ob H; obtain ⟨q31, c32, H⟩ := H
        obtain rfl := Option.some.inj H
        exact e15
      · obtain rfl := Option.some.inj H
        exact Nx.rf
    · obtain rfl := Option.some.inj H
      exact Nx.rf
set_option maxHeartbeats 4000000 in
set_option maxRecDepth 20000 in
theorem n_X11_worth {p1 : Int32} {p2 : Int32} {p3 : Int32} {p4 : Int32} {p5 : Int32} {h : HS} {q : (Int64 × HS)} (H : f_X11_worth p1 p2 p3 p4 p5 h = some q) : Nx h q.2 := by
  unfold f_X11_worth at H
  replace H := ob H; obtain ⟨q1, c2, H⟩ := H
  replace H := oom H; obtain ⟨e3, H⟩ | ⟨b4, e3, H⟩ := H
  · replace H := ob H; obtain ⟨q5, c6, H⟩ := H
    replace H := oom H; obtain ⟨e7, H⟩ | ⟨b8, e7, H⟩ := H
    · obtain rfl := Option.some.inj H
      exact Nx.rf
    · obtain rfl := Option.some.inj H
      exact Nx.rf
  · replace H := ob H; obtain ⟨q11, c12, H⟩ := H
    replace H := oom H; obtain ⟨e13, H⟩ | ⟨b14, e13, H⟩ := H
    · obtain rfl := Option.some.inj H
      exact Nx.rf
    · replace H := ob H; obtain ⟨q19, c20, H⟩ := H
      replace H := oi H; obtain ⟨c21, H⟩ | ⟨c21, H⟩ := H
      · replace H := ob H; obtain ⟨q22, c23, H⟩ := H
        replace H := oi H; obtain ⟨c24, H⟩ | ⟨c24, H⟩ := H
        · replace H := ob H; obtain ⟨q25, c26, H⟩ := H
          replace H := oi H; obtain ⟨c27, H⟩ | ⟨c27, H⟩ := H
          · replace H := og H; obtain ⟨g28, H⟩ := H
            replace H := ob H; obtain ⟨q29, c30, H⟩ := H
            have e31 := n_X2_fill c30
            replace H := ob H; obtain ⟨q35, c37, H⟩ := H
            replace H := ob H; obtain ⟨q38, c39, H⟩ := H
            replace H := og H; obtain ⟨g40, H⟩ := H
            replace H := ob H; obtain ⟨q41, c42, H⟩ := H
            obtain rfl := Option.some.inj H
            exact e31
          · obtain rfl := Option.some.inj H
            exact Nx.rf
        · obtain rfl := Option.some.inj H
          exact Nx.rf
      · obtain rfl := Option.some.inj H
        exact Nx.rf
set_option maxHeartbeats 4000000 in
set_option maxRecDepth 20000 in
theorem n_X11_mostWinning {p1 : Nat} {p2 : Nat} {h : HS} {q : (Int32 × HS)} (H : f_X11_mostWinning p1 p2 h = some q) : Nx h q.2 := by
  unfold f_X11_mostWinning at H
  replace H := og H; obtain ⟨g1, H⟩ := H
  replace H := ob H; obtain ⟨q2, c3, H⟩ := H
  have e4 := n_X2_fill c3
  replace H := ob H; obtain ⟨q7, c8, H⟩ := H
  replace H := ob H; obtain ⟨q9, c10, H⟩ := H
  obtain rfl := Option.some.inj H
  exact e4
set_option maxHeartbeats 4000000 in
set_option maxRecDepth 20000 in
theorem n_X11_leaves_27 {y2 : Int32} {y3 : Nat} : ∀ (n : Nat) {x4 : Int64} {x6 : Int32} {h : HS} {q : (Int64 × HS)}, l_X11_leaves_27 y2 y3 n x4 x6 h = some q → Nx h q.2 := by
  intro n
  induction n with
  | zero => intro x4 x6 h q H; exact nz H
  | succ n ih =>
    intro x4 x6 h q H
    unfold l_X11_leaves_27 at H
    replace H := og H; obtain ⟨g29, H⟩ := H
    replace H := ob H; obtain ⟨q27, c28, H⟩ := H
    replace H := oi H; obtain ⟨c30, H⟩ | ⟨c30, H⟩ := H
    · obtain rfl := Option.some.inj H
      exact Nx.rf
    · replace H := ob H; obtain ⟨q31, c32, H⟩ := H
      replace H := oom H; obtain ⟨e33, H⟩ | ⟨b34, e33, H⟩ := H
      · exact nz H
      · replace H := og H; obtain ⟨g35, H⟩ := H
        replace H := og H; obtain ⟨g36, H⟩ := H
        replace H := ob H; obtain ⟨q37, c38, H⟩ := H
        have e39 := n_X11_mostWinning c38
        exact e39.tr (ih H)
set_option maxHeartbeats 4000000 in
set_option maxRecDepth 20000 in
theorem n_X11_leaves {p1 : Int32} {p2 : Int32} {h : HS} {q : (Int64 × HS)} (H : f_X11_leaves p1 p2 h = some q) : Nx h q.2 := by
  unfold f_X11_leaves at H
  replace H := ob H; obtain ⟨q1, c2, H⟩ := H
  replace H := oom H; obtain ⟨e3, H⟩ | ⟨b4, e3, H⟩ := H
  · obtain rfl := Option.some.inj H
    exact Nx.rf
  · replace H := ob H; obtain ⟨q7, c8, H⟩ := H
    replace H := oi H; obtain ⟨c9, H⟩ | ⟨c9, H⟩ := H
    · replace H := ob H; obtain ⟨q44, c45, H⟩ := H
      have e46 := n_X11_leaves_27 1000 c45
      replace H := og H; obtain ⟨g48, H⟩ := H
      replace H := ob H; obtain ⟨q49, c50, H⟩ := H
      obtain rfl := Option.some.inj H
      exact e46
    · obtain rfl := Option.some.inj H
      exact Nx.rf
set_option maxHeartbeats 4000000 in
set_option maxRecDepth 20000 in
theorem n_X11_feed_34 {y1 : Int32} {y2 : Int64} : ∀ (n : Nat) {x4 : Int32} {h : HS} {q : HS}, l_X11_feed_34 y1 y2 n x4 h = some q → Nx h q := by
  intro n
  induction n with
  | zero => intro x4 h q H; exact nz H
  | succ n ih =>
    intro x4 h q H
    unfold l_X11_feed_34 at H
    replace H := oi H; obtain ⟨c10, H⟩ | ⟨c10, H⟩ := H
    · obtain rfl := Option.some.inj H
      exact Nx.rf
    · replace H := ob H; obtain ⟨q11, c12, H⟩ := H
      have e13 := n_X6_put c12
      exact e13.tr (ih H)
set_option maxHeartbeats 4000000 in
set_option maxRecDepth 20000 in
theorem n_X11_feed {p1 : Int32} {p2 : Int64} {h : HS} {q : (Int32 × HS)} (H : f_X11_feed p1 p2 h = some q) : Nx h q.2 := by
  unfold f_X11_feed at H
  replace H := ob H; obtain ⟨q1, c2, H⟩ := H
  replace H := oi H; obtain ⟨c3, H⟩ | ⟨c3, H⟩ := H
  · replace H := oi H; obtain ⟨c4, H⟩ | ⟨c4, H⟩ := H
    · replace H := ob H; obtain ⟨q15, c16, H⟩ := H
      have e17 := n_X11_feed_34 1000 c16
      obtain rfl := Option.some.inj H
      exact e17
    · obtain rfl := Option.some.inj H
      exact Nx.rf
  · obtain rfl := Option.some.inj H
    exact Nx.rf
set_option maxHeartbeats 4000000 in
set_option maxRecDepth 20000 in
theorem n_X11_force {p1 : Int32} {h : HS} {q : (Int32 × HS)} (H : f_X11_force p1 h = some q) : Nx h q.2 := by
  unfold f_X11_force at H
  replace H := og H; obtain ⟨g3, H⟩ := H
  replace H := ob H; obtain ⟨q1, c2, H⟩ := H
  replace H := ob H; obtain ⟨q4, c5, H⟩ := H
  replace H := oi H; obtain ⟨c6, H⟩ | ⟨c6, H⟩ := H
  · obtain rfl := Option.some.inj H
    exact (Nx.rf.sI)
  · obtain rfl := Option.some.inj H
    exact Nx.rf
set_option maxHeartbeats 4000000 in
set_option maxRecDepth 20000 in
theorem n_X11_thousandths {p1 : Nat} {p2 : Nat} {p3 : Int32} {h : HS} {q : (Int32 × HS)} (H : f_X11_thousandths p1 p2 p3 h = some q) : Nx h q.2 := by
  unfold f_X11_thousandths at H
  replace H := og H; obtain ⟨g1, H⟩ := H
  replace H := ob H; obtain ⟨q2, c3, H⟩ := H
  have e4 := n_X2_fill c3
  replace H := ob H; obtain ⟨q7, c8, H⟩ := H
  replace H := og H; obtain ⟨g9, H⟩ := H
  replace H := ob H; obtain ⟨q10, c11, H⟩ := H
  obtain rfl := Option.some.inj H
  exact e4
set_option maxHeartbeats 4000000 in
set_option maxRecDepth 20000 in
theorem n_X11_says {p1 : Int32} {p2 : Int32} {p3 : Int32} {p4 : Int32} {p5 : Int32} {h : HS} {q : (Int64 × HS)} (H : f_X11_says p1 p2 p3 p4 p5 h = some q) : Nx h q.2 := by
  unfold f_X11_says at H
  replace H := ob H; obtain ⟨q1, c2, H⟩ := H
  replace H := oom H; obtain ⟨e3, H⟩ | ⟨b4, e3, H⟩ := H
  · replace H := ob H; obtain ⟨q5, c6, H⟩ := H
    replace H := oom H; obtain ⟨e7, H⟩ | ⟨b8, e7, H⟩ := H
    · obtain rfl := Option.some.inj H
      exact Nx.rf
    · obtain rfl := Option.some.inj H
      exact Nx.rf
  · replace H := ob H; obtain ⟨q11, c12, H⟩ := H
    replace H := oom H; obtain ⟨e13, H⟩ | ⟨b14, e13, H⟩ := H
    · obtain rfl := Option.some.inj H
      exact Nx.rf
    · replace H := ob H; obtain ⟨q19, c20, H⟩ := H
      replace H := oi H; obtain ⟨c21, H⟩ | ⟨c21, H⟩ := H
      · replace H := ob H; obtain ⟨q22, c23, H⟩ := H
        replace H := oi H; obtain ⟨c24, H⟩ | ⟨c24, H⟩ := H
        · replace H := ob H; obtain ⟨q25, c26, H⟩ := H
          replace H := oi H; obtain ⟨c27, H⟩ | ⟨c27, H⟩ := H
          · replace H := ob H; obtain ⟨q28, c29, H⟩ := H
            have e30 := n_X11_thousandths c29
            replace H := ob H; obtain ⟨q32, c33, H⟩ := H
            have e34 := n_X11_tellValues c33
            replace H := oi H; obtain ⟨c36, H⟩ | ⟨c36, H⟩ := H
            · replace H := ob H; obtain ⟨q41, c42, H⟩ := H
              have e43 := n_X11_ruleSays c42
              obtain rfl := Option.some.inj H
              exact ((e30.tr e34).tr e43)
            · replace H := ob H; obtain ⟨q37, c38, H⟩ := H
              have e39 := n_X11_ruleSays c38
              obtain rfl := Option.some.inj H
              exact ((e30.tr e34).tr e39)
          · obtain rfl := Option.some.inj H
            exact Nx.rf
        · obtain rfl := Option.some.inj H
          exact Nx.rf
      · obtain rfl := Option.some.inj H
        exact Nx.rf
set_option maxHeartbeats 4000000 in
set_option maxRecDepth 20000 in
theorem n_J7_fill_d0a16_6 {y0 : Nat} {y1 : Int64} {y4 : Int32} : ∀ (n : Nat) {x3 : Int32} {h : HS} {q : HS}, l_J7_fill_d0a16_6 y0 y1 y4 n x3 h = some q → Nx h q := by
  intro n
  induction n with
  | zero => intro x3 h q H; exact nz H
  | succ n ih =>
    intro x3 h q H
    unfold l_J7_fill_d0a16_6 at H
    replace H := oi H; obtain ⟨c5, H⟩ | ⟨c5, H⟩ := H
    · obtain rfl := Option.some.inj H
      exact Nx.rf
    · replace H := og H; obtain ⟨g6, H⟩ := H
      replace H := og H; obtain ⟨g7, H⟩ := H
      exact (Nx.rf.sL).tr (ih H)
set_option maxHeartbeats 4000000 in
set_option maxRecDepth 20000 in
theorem n_J7_fill_d0a16 {p0 : Nat} {p1 : Int64} {h : HS} {q : HS} (H : f_J7_fill_d0a16 p0 p1 h = some q) : Nx h q := by
  unfold f_J7_fill_d0a16 at H
  replace H := og H; obtain ⟨g1, H⟩ := H
  replace H := ob H; obtain ⟨q8, c9, H⟩ := H
  have e10 := n_J7_fill_d0a16_6 1000 c9
  obtain rfl := Option.some.inj H
  exact e10
set_option maxHeartbeats 4000000 in
set_option maxRecDepth 20000 in
theorem n_X11_askPlayer {p1 : Nat} {p2 : Nat} {p3 : Int32} {h : HS} {q : HS} (H : f_X11_askPlayer p1 p2 p3 h = some q) : Nx h q := by
  unfold f_X11_askPlayer at H
  replace H := ob H; obtain ⟨q1, c2, H⟩ := H
  have e3 := n_X11_thousandths c2
  replace H := ob H; obtain ⟨q5, c6, H⟩ := H
  have e7 := n_X11_tellValues c6
  replace H := ob H; obtain ⟨q9, c10, H⟩ := H
  have e11 := n_J7_fill_d0a16 c10
  replace H := ob H; obtain ⟨q13, c14, H⟩ := H
  have e15 := n_J7_fill_d0a16 c14
  obtain rfl := Option.some.inj H
  exact (((e3.tr e7).tr e11).tr e15)
set_option maxHeartbeats 4000000 in
set_option maxRecDepth 20000 in
theorem n_X11_goesOn {p1 : Int32} {p2 : Int32} {h : HS} {q : (Bool × HS)} (H : f_X11_goesOn p1 p2 h = some q) : Nx h q.2 := by
  unfold f_X11_goesOn at H
  replace H := ob H; obtain ⟨q1, c2, H⟩ := H
  replace H := oi H; obtain ⟨c3, H⟩ | ⟨c3, H⟩ := H
  · replace H := og H; obtain ⟨g4, H⟩ := H
    replace H := ob H; obtain ⟨q6, c18, H⟩ := H
    have e19 : Nx h q6 := by
      replace H := c18
      replace H := oi H; obtain ⟨c5, H⟩ | ⟨c5, H⟩ := H
      · replace H := og H; obtain ⟨g8, H⟩ := H
        replace H := og H; obtain ⟨g9, H⟩ := H
        replace H := og H; obtain ⟨g10, H⟩ := H
        replace H := ob H; obtain ⟨q11, c12, H⟩ := H
        have e13 := n_X11_ruleSays c12
        replace H := oi H; obtain ⟨c15, H⟩ | ⟨c15, H⟩ := H
        · replace H := og H; obtain ⟨g16, H⟩ := H
          obtain rfl := Option.some.inj H
          exact (((Nx.rf.sL).tr e13).sL)
        · replace H := og H; obtain ⟨g17, H⟩ := H
          obtain rfl := Option.some.inj H
          exact (((Nx.rf.sL).tr e13).sL)
      · obtain rfl := Option.some.inj H
        exact Nx.rf
    replace H := og H; obtain ⟨g21, H⟩ := H
    replace H := oi H; obtain ⟨c22, H⟩ | ⟨c22, H⟩ := H
    · obtain rfl := Option.some.inj H
      exact e19
    · obtain rfl := Option.some.inj H
      exact e19
  · obtain rfl := Option.some.inj H
    exact Nx.rf
set_option maxHeartbeats 4000000 in
set_option maxRecDepth 20000 in
theorem n_X11_playOut_9 {y1 : Nat} {y3 : Int64} : ∀ (n : Nat) {x5 : Int32} {x6 : Int32} {x7 : Int32} {h : HS} {q : (Int32 × Int32 × Int32 × HS)}, l_X11_playOut_9 y1 y3 n x5 x6 x7 h = some q → Nx h q.2.2.2 := by
  intro n
  induction n with
  | zero => intro x5 x6 x7 h q H; exact nz H
  | succ n ih =>
    intro x5 x6 x7 h q H
    unfold l_X11_playOut_9 at H
    replace H := oi H; obtain ⟨c14, H⟩ | ⟨c14, H⟩ := H
    · obtain rfl := Option.some.inj H
      exact Nx.rf
    · replace H := og H; obtain ⟨g15, H⟩ := H
      replace H := oi H; obtain ⟨c16, H⟩ | ⟨c16, H⟩ := H
      · obtain rfl := Option.some.inj H
        exact Nx.rf
      · replace H := ob H; obtain ⟨q17, c18, H⟩ := H
        have e19 := n_X11_goesOn c18
        replace H := oi H; obtain ⟨c22, H⟩ | ⟨c22, H⟩ := H
        · replace H := ob H; obtain ⟨q24, c26, H⟩ := H
          exact e19.tr (ih H)
        · obtain rfl := Option.some.inj H
          exact e19
set_option maxHeartbeats 4000000 in
set_option maxRecDepth 20000 in
theorem n_X11_playOut {p1 : Nat} {p2 : Int32} {p3 : Int64} {h : HS} {q : HS} (H : f_X11_playOut p1 p2 p3 h = some q) : Nx h q := by
  unfold f_X11_playOut at H
  replace H := ob H; obtain ⟨q27, c28, H⟩ := H
  have e29 := n_X11_playOut_9 1000 c28
  replace H := og H; obtain ⟨g31, H⟩ := H
  replace H := obh H; obtain ⟨h32, e33, H⟩ := H
  obtain rfl := Option.some.inj H
  exact (kN e33 ((((e29.sI).sI).sI).sI))
set_option maxHeartbeats 4000000 in
set_option maxRecDepth 20000 in
theorem n_X11_player {p1 : Int32} {p2 : Int32} {p3 : Int32} {p4 : Int32} {p5 : Int32} {h : HS} {q : (Int64 × HS)} (H : f_X11_player p1 p2 p3 p4 p5 h = some q) : Nx h q.2 := by
  unfold f_X11_player at H
  replace H := ob H; obtain ⟨q1, c2, H⟩ := H
  replace H := oi H; obtain ⟨c3, H⟩ | ⟨c3, H⟩ := H
  · replace H := ob H; obtain ⟨q4, c5, H⟩ := H
    replace H := oi H; obtain ⟨c6, H⟩ | ⟨c6, H⟩ := H
    · replace H := ob H; obtain ⟨q7, c8, H⟩ := H
      replace H := oom H; obtain ⟨e9, H⟩ | ⟨b10, e9, H⟩ := H
      · replace H := ob H; obtain ⟨q11, c12, H⟩ := H
        replace H := oom H; obtain ⟨e13, H⟩ | ⟨b14, e13, H⟩ := H
        · obtain rfl := Option.some.inj H
          exact Nx.rf
        · obtain rfl := Option.some.inj H
          exact Nx.rf
      · replace H := ob H; obtain ⟨q17, c18, H⟩ := H
        replace H := oom H; obtain ⟨e19, H⟩ | ⟨b20, e19, H⟩ := H
        · obtain rfl := Option.some.inj H
          exact Nx.rf
        · replace H := oi H; obtain ⟨c25, H⟩ | ⟨c25, H⟩ := H
          · replace H := ob H; obtain ⟨q26, c27, H⟩ := H
            have e28 := n_X11_askPlayer c27
            replace H := ob H; obtain ⟨q30, c31, H⟩ := H
            replace H := ob H; obtain ⟨q32, c33, H⟩ := H
            have e34 := n_X11_playOut c33
            replace H := og H; obtain ⟨g36, H⟩ := H
            obtain rfl := Option.some.inj H
            exact (e28.tr e34)
          · obtain rfl := Option.some.inj H
            exact Nx.rf
    · obtain rfl := Option.some.inj H
      exact Nx.rf
  · obtain rfl := Option.some.inj H
    exact Nx.rf
set_option maxHeartbeats 4000000 in
set_option maxRecDepth 20000 in
theorem n_X11_most_88 {y4 : Int32} {y5 : Int32} {y6 : Nat} {y8 : Int64} : ∀ (n : Nat) {x10 : Int32} {x11 : Int32} {x12 : Int32} {h : HS} {q : (Int32 × HS)}, l_X11_most_88 y4 y5 y6 y8 n x10 x11 x12 h = some q → Nx h q.2 := by
  intro n
  induction n with
  | zero => intro x10 x11 x12 h q H; exact nz H
  | succ n ih =>
    intro x10 x11 x12 h q H
    unfold l_X11_most_88 at H
    replace H := oi H; obtain ⟨c40, H⟩ | ⟨c40, H⟩ := H
    · obtain rfl := Option.some.inj H
      exact Nx.rf
    · replace H := ob H; obtain ⟨q41, c42, H⟩ := H
      replace H := oi H; obtain ⟨c43, H⟩ | ⟨c43, H⟩ := H
      · exact id (ih H)
      · replace H := ob H; obtain ⟨q44, c45, H⟩ := H
        have e46 := n_X11_playOut c45
        replace H := oi H; obtain ⟨c48, H⟩ | ⟨c48, H⟩ := H
        · exact e46.tr (ih H)
        · exact e46.tr (ih H)
set_option maxHeartbeats 4000000 in
set_option maxRecDepth 20000 in
theorem n_X11_most {p1 : Int32} {p2 : Int32} {p3 : Int32} {p4 : Int32} {p5 : Int32} {h : HS} {q : (Int32 × HS)} (H : f_X11_most p1 p2 p3 p4 p5 h = some q) : Nx h q.2 := by
  unfold f_X11_most at H
  replace H := ob H; obtain ⟨q1, c2, H⟩ := H
  replace H := oi H; obtain ⟨c3, H⟩ | ⟨c3, H⟩ := H
  · replace H := ob H; obtain ⟨q4, c5, H⟩ := H
    replace H := oi H; obtain ⟨c6, H⟩ | ⟨c6, H⟩ := H
    · replace H := ob H; obtain ⟨q7, c8, H⟩ := H
      replace H := oom H; obtain ⟨e9, H⟩ | ⟨b10, e9, H⟩ := H
      · replace H := ob H; obtain ⟨q11, c12, H⟩ := H
        replace H := oom H; obtain ⟨e13, H⟩ | ⟨b14, e13, H⟩ := H
        · obtain rfl := Option.some.inj H
          exact Nx.rf
        · obtain rfl := Option.some.inj H
          exact Nx.rf
      · replace H := ob H; obtain ⟨q17, c18, H⟩ := H
        replace H := oom H; obtain ⟨e19, H⟩ | ⟨b20, e19, H⟩ := H
        · obtain rfl := Option.some.inj H
          exact Nx.rf
        · replace H := ob H; obtain ⟨q25, c26, H⟩ := H
          have e27 := n_X11_askPlayer c26
          replace H := ob H; obtain ⟨q29, c30, H⟩ := H
          replace H := ob H; obtain ⟨q49, c50, H⟩ := H
          have e51 := n_X11_most_88 1000 c50
          obtain rfl := Option.some.inj H
          exact (e27.tr e51)
    · obtain rfl := Option.some.inj H
      exact Nx.rf
  · obtain rfl := Option.some.inj H
    exact Nx.rf
set_option maxHeartbeats 4000000 in
set_option maxRecDepth 20000 in
theorem n_X11_test {p1 : Int32} {p2 : Int32} {h : HS} {q : (Int32 × HS)} (H : f_X11_test p1 p2 h = some q) : Nx h q.2 := by
  unfold f_X11_test at H
  replace H := ob H; obtain ⟨q1, c2, H⟩ := H
  replace H := oi H; obtain ⟨c3, H⟩ | ⟨c3, H⟩ := H
  · replace H := ob H; obtain ⟨q4, c5, H⟩ := H
    replace H := oi H; obtain ⟨c6, H⟩ | ⟨c6, H⟩ := H
    · replace H := oi H; obtain ⟨c7, H⟩ | ⟨c7, H⟩ := H
      · replace H := og H; obtain ⟨g8, H⟩ := H
        replace H := og H; obtain ⟨g9, H⟩ := H
        replace H := obh H; obtain ⟨h10, e11, H⟩ := H
        obtain rfl := Option.some.inj H
        exact (kN e11 (((Nx.rf.sI).sI).sI))
      · obtain rfl := Option.some.inj H
        exact Nx.rf
    · obtain rfl := Option.some.inj H
      exact Nx.rf
  · obtain rfl := Option.some.inj H
    exact Nx.rf
set_option maxHeartbeats 4000000 in
set_option maxRecDepth 20000 in
theorem n_X11_year_25 {y1 : Int32} {y2 : Int32} : ∀ (n : Nat) {x3 : Int32} {h : HS} {q : HS}, l_X11_year_25 y1 y2 n x3 h = some q → Nx h q := by
  intro n
  induction n with
  | zero => intro x3 h q H; exact nz H
  | succ n ih =>
    intro x3 h q H
    unfold l_X11_year_25 at H
    replace H := og H; obtain ⟨g26, H⟩ := H
    replace H := ob H; obtain ⟨q24, c25, H⟩ := H
    replace H := oi H; obtain ⟨c27, H⟩ | ⟨c27, H⟩ := H
    · obtain rfl := Option.some.inj H
      exact Nx.rf
    · replace H := oi H; obtain ⟨c28, H⟩ | ⟨c28, H⟩ := H
      · obtain rfl := Option.some.inj H
        exact Nx.rf
      · replace H := ob H; obtain ⟨q29, c30, H⟩ := H
        replace H := oom H; obtain ⟨e31, H⟩ | ⟨b32, e31, H⟩ := H
        · exact nz H
        · replace H := og H; obtain ⟨g33, H⟩ := H
          replace H := ob H; obtain ⟨q34, c35, H⟩ := H
          have e36 := n_X11_lookHours c35
          replace H := og H; obtain ⟨g40, H⟩ := H
          exact (e36.sI).tr (ih H)
set_option maxHeartbeats 4000000 in
set_option maxRecDepth 20000 in
theorem n_X11_year {p1 : Int32} {p2 : Int32} {h : HS} {q : (Int32 × HS)} (H : f_X11_year p1 p2 h = some q) : Nx h q.2 := by
  unfold f_X11_year at H
  replace H := ob H; obtain ⟨q1, c2, H⟩ := H
  replace H := oi H; obtain ⟨c3, H⟩ | ⟨c3, H⟩ := H
  · replace H := ob H; obtain ⟨q4, c5, H⟩ := H
    replace H := oi H; obtain ⟨c6, H⟩ | ⟨c6, H⟩ := H
    · replace H := ob H; obtain ⟨q41, c42, H⟩ := H
      have e43 := n_X11_year_25 1000 c42
      replace H := ob H; obtain ⟨q45, c46, H⟩ := H
      replace H := ob H; obtain ⟨q81, c82, H⟩ := H
      replace H := oi H; obtain ⟨c83, H⟩ | ⟨c83, H⟩ := H
      · obtain rfl := Option.some.inj H
        exact e43
      · replace H := oi H; obtain ⟨c84, H⟩ | ⟨c84, H⟩ := H
        · obtain rfl := Option.some.inj H
          exact e43
        · obtain rfl := Option.some.inj H
          exact e43
    · obtain rfl := Option.some.inj H
      exact Nx.rf
  · obtain rfl := Option.some.inj H
    exact Nx.rf
set_option maxHeartbeats 4000000 in
set_option maxRecDepth 20000 in
theorem n_X11_leastFail_27 {y1 : Nat} {y3 : Int32} : ∀ (n : Nat) {x4 : Int32} {h : HS} {q : HS}, l_X11_leastFail_27 y1 y3 n x4 h = some q → Nx h q := by
  intro n
  induction n with
  | zero => intro x4 h q H; exact nz H
  | succ n ih =>
    intro x4 h q H
    unfold l_X11_leastFail_27 at H
    replace H := oi H; obtain ⟨c39, H⟩ | ⟨c39, H⟩ := H
    · obtain rfl := Option.some.inj H
      exact Nx.rf
    · replace H := og H; obtain ⟨g40, H⟩ := H
      replace H := ob H; obtain ⟨q71, c72, H⟩ := H
      replace H := og H; obtain ⟨g73, H⟩ := H
      exact (Nx.rf.sI).tr (ih H)
set_option maxHeartbeats 4000000 in
set_option maxRecDepth 20000 in
theorem n_X11_leastFail {p1 : Nat} {p2 : Int32} {p3 : Int32} {h : HS} {q : (Int32 × HS)} (H : f_X11_leastFail p1 p2 p3 h = some q) : Nx h q.2 := by
  unfold f_X11_leastFail at H
  replace H := ob H; obtain ⟨q1, c2, H⟩ := H
  replace H := oi H; obtain ⟨c3, H⟩ | ⟨c3, H⟩ := H
  · replace H := ob H; obtain ⟨q74, c75, H⟩ := H
    have e76 := n_X11_leastFail_27 1000 c75
    replace H := og H; obtain ⟨g78, H⟩ := H
    obtain rfl := Option.some.inj H
    exact ((Nx.rf.sI).tr e76)
  · obtain rfl := Option.some.inj H
    exact Nx.rf
set_option maxHeartbeats 4000000 in
set_option maxRecDepth 20000 in
theorem n_X11_firstOfWalk_3 {y1 : Nat} {y2 : Int32} {y3 : Int32} : ∀ (n : Nat) {x4 : Int32} {h : HS} {q : ((Int32 × HS) ⊕ HS)}, l_X11_firstOfWalk_3 y1 y2 y3 n x4 h = some q → Nx h (Sum.elim (fun v => v.2) (fun e => e) q) := by
  intro n
  induction n with
  | zero => intro x4 h q H; exact nz H
  | succ n ih =>
    intro x4 h q H
    unfold l_X11_firstOfWalk_3 at H
    replace H := og H; obtain ⟨g22, H⟩ := H
    replace H := ob H; obtain ⟨q20, c21, H⟩ := H
    replace H := oi H; obtain ⟨c23, H⟩ | ⟨c23, H⟩ := H
    · obtain rfl := Option.some.inj H
      exact Nx.rf
    · replace H := ob H; obtain ⟨q24, c25, H⟩ := H
      replace H := oom H; obtain ⟨e26, H⟩ | ⟨b27, e26, H⟩ := H
      · exact nz H
      · replace H := og H; obtain ⟨g28, H⟩ := H
        replace H := oi H; obtain ⟨c29, H⟩ | ⟨c29, H⟩ := H
        · exact id (ih H)
        · replace H := ob H; obtain ⟨q30, c31, H⟩ := H
          replace H := ob H; obtain ⟨q32, c33, H⟩ := H
          have e34 := n_X11_leastFail c33
          replace H := oi H; obtain ⟨c38, H⟩ | ⟨c38, H⟩ := H
          · obtain rfl := Option.some.inj H
            exact e34
          · exact e34.tr (ih H)
set_option maxHeartbeats 4000000 in
set_option maxRecDepth 20000 in
theorem n_X11_firstOfWalk {p1 : Nat} {p2 : Int32} {p3 : Int32} {h : HS} {q : (Int32 × HS)} (H : f_X11_firstOfWalk p1 p2 p3 h = some q) : Nx h q.2 := by
  unfold f_X11_firstOfWalk at H
  replace H := ob H; obtain ⟨q39, c40, H⟩ := H
  rcases q39 with v44 | e41
  · replace H := oSl H; obtain rfl := Option.some.inj H
    exact n_X11_firstOfWalk_3 1000 c40
  · replace H := oSr H
    have e42 : Nx h e41 := n_X11_firstOfWalk_3 1000 c40
    obtain rfl := Option.some.inj H
    exact e42
set_option maxHeartbeats 4000000 in
set_option maxRecDepth 20000 in
theorem n_X11_walk_36 {y2 : Int32} {y3 : Int32} {y4 : Nat} : ∀ (n : Nat) {x5 : Int32} {h : HS} {q : HS}, l_X11_walk_36 y2 y3 y4 n x5 h = some q → Nx h q := by
  intro n
  induction n with
  | zero => intro x5 h q H; exact nz H
  | succ n ih =>
    intro x5 h q H
    unfold l_X11_walk_36 at H
    replace H := og H; obtain ⟨g34, H⟩ := H
    replace H := ob H; obtain ⟨q32, c33, H⟩ := H
    replace H := oi H; obtain ⟨c35, H⟩ | ⟨c35, H⟩ := H
    · obtain rfl := Option.some.inj H
      exact Nx.rf
    · replace H := oi H; obtain ⟨c36, H⟩ | ⟨c36, H⟩ := H
      · obtain rfl := Option.some.inj H
        exact Nx.rf
      · replace H := og H; obtain ⟨g37, H⟩ := H
        replace H := ob H; obtain ⟨q38, c39, H⟩ := H
        replace H := oom H; obtain ⟨e40, H⟩ | ⟨b41, e40, H⟩ := H
        · exact nz H
        · replace H := og H; obtain ⟨g42, H⟩ := H
          replace H := ob H; obtain ⟨q43, c44, H⟩ := H
          have e45 := n_X11_mostWinning c44
          replace H := og H; obtain ⟨g50, H⟩ := H
          exact (e45.sI).tr (ih H)
set_option maxHeartbeats 4000000 in
set_option maxRecDepth 20000 in
theorem n_X11_walk {p1 : Int32} {p2 : Int32} {p3 : Int32} {h : HS} {q : (Int32 × HS)} (H : f_X11_walk p1 p2 p3 h = some q) : Nx h q.2 := by
  unfold f_X11_walk at H
  replace H := ob H; obtain ⟨q1, c2, H⟩ := H
  replace H := oom H; obtain ⟨e3, H⟩ | ⟨b4, e3, H⟩ := H
  · obtain rfl := Option.some.inj H
    exact Nx.rf
  · replace H := ob H; obtain ⟨q7, c8, H⟩ := H
    replace H := oi H; obtain ⟨c9, H⟩ | ⟨c9, H⟩ := H
    · replace H := ob H; obtain ⟨q10, c11, H⟩ := H
      replace H := oi H; obtain ⟨c12, H⟩ | ⟨c12, H⟩ := H
      · replace H := ob H; obtain ⟨q51, c52, H⟩ := H
        have e53 := n_X11_walk_36 1000 c52
        replace H := ob H; obtain ⟨q55, c56, H⟩ := H
        have e57 := n_X11_leastFail c56
        replace H := oi H; obtain ⟨c59, H⟩ | ⟨c59, H⟩ := H
        · obtain rfl := Option.some.inj H
          exact (e53.tr e57)
        · replace H := oi H; obtain ⟨c60, H⟩ | ⟨c60, H⟩ := H
          · obtain rfl := Option.some.inj H
            exact (e53.tr e57)
          · replace H := ob H; obtain ⟨q61, c62, H⟩ := H
            have e63 := n_X11_firstOfWalk c62
            obtain rfl := Option.some.inj H
            exact ((e53.tr e57).tr e63)
      · obtain rfl := Option.some.inj H
        exact Nx.rf
    · obtain rfl := Option.some.inj H
      exact Nx.rf
set_option maxHeartbeats 4000000 in
set_option maxRecDepth 20000 in
theorem n_X11_image_46  : ∀ (n : Nat) {x1 : Int32} {h : HS} {q : HS}, l_X11_image_46  n x1 h = some q → Nx h q := by
  intro n
  induction n with
  | zero => intro x1 h q H; exact nz H
  | succ n ih =>
    intro x1 h q H
    unfold l_X11_image_46 at H
    replace H := og H; obtain ⟨g25, H⟩ := H
    replace H := ob H; obtain ⟨q23, c24, H⟩ := H
    replace H := oi H; obtain ⟨c26, H⟩ | ⟨c26, H⟩ := H
    · obtain rfl := Option.some.inj H
      exact Nx.rf
    · replace H := ob H; obtain ⟨q27, c28, H⟩ := H
      replace H := oom H; obtain ⟨e29, H⟩ | ⟨b30, e29, H⟩ := H
      · exact nz H
      · replace H := og H; obtain ⟨g31, H⟩ := H
        replace H := ob H; obtain ⟨q32, c33, H⟩ := H
        have e34 := n_X5_keep c33
        exact e34.tr (ih H)
set_option maxHeartbeats 4000000 in
set_option maxRecDepth 20000 in
theorem n_X11_image  {h : HS} {q : (Int32 × HS)} (H : f_X11_image h = some q) : Nx h q.2 := by
  unfold f_X11_image at H
  replace H := og H; obtain ⟨g3, H⟩ := H
  replace H := ob H; obtain ⟨q1, c2, H⟩ := H
  replace H := obh H; obtain ⟨h4, e5, H⟩ := H
  replace H := ob H; obtain ⟨q38, c39, H⟩ := H
  have e40 := n_X11_image_46 1000 c39
  obtain rfl := Option.some.inj H
  exact ((kN e5 ((((Nx.rf.sI).sI).sI).sI)).tr e40)
set_option maxHeartbeats 4000000 in
set_option maxRecDepth 20000 in
theorem n_X11_back_37  : ∀ (n : Nat) {x1 : Int32} {h : HS} {q : HS}, l_X11_back_37  n x1 h = some q → Nx h q := by
  intro n
  induction n with
  | zero => intro x1 h q H; exact nz H
  | succ n ih =>
    intro x1 h q H
    unfold l_X11_back_37 at H
    replace H := oi H; obtain ⟨c18, H⟩ | ⟨c18, H⟩ := H
    · obtain rfl := Option.some.inj H
      exact Nx.rf
    · replace H := og H; obtain ⟨g21, H⟩ := H
      replace H := ob H; obtain ⟨q19, c20, H⟩ := H
      replace H := oi H; obtain ⟨c22, H⟩ | ⟨c22, H⟩ := H
      · obtain rfl := Option.some.inj H
        exact Nx.rf
      · replace H := ob H; obtain ⟨q23, c24, H⟩ := H
        replace H := oom H; obtain ⟨e25, H⟩ | ⟨b26, e25, H⟩ := H
        · exact nz H
        · replace H := og H; obtain ⟨g27, H⟩ := H
          replace H := ob H; obtain ⟨q28, c29, H⟩ := H
          have e30 := n_X5_layBack c29
          exact e30.tr (ih H)
set_option maxHeartbeats 4000000 in
set_option maxRecDepth 20000 in
theorem n_X11_back  {h : HS} {q : (Int32 × HS)} (H : f_X11_back h = some q) : Nx h q.2 := by
  unfold f_X11_back at H
  replace H := oi H; obtain ⟨c1, H⟩ | ⟨c1, H⟩ := H
  · obtain rfl := Option.some.inj H
    exact Nx.rf
  · replace H := ob H; obtain ⟨q34, c35, H⟩ := H
    have e36 := n_X11_back_37 1000 c35
    obtain rfl := Option.some.inj H
    exact (((Nx.rf.sI).sI).tr e36)
set_option maxHeartbeats 4000000 in
set_option maxRecDepth 20000 in
theorem n_X11_cell {p1 : Int32} {p2 : Int32} {p3 : Int32} {h : HS} {q : (Int32 × HS)} (H : f_X11_cell p1 p2 p3 h = some q) : Nx h q.2 := by
  unfold f_X11_cell at H
  replace H := ob H; obtain ⟨q1, c2, H⟩ := H
  replace H := oi H; obtain ⟨c3, H⟩ | ⟨c3, H⟩ := H
  · replace H := og H; obtain ⟨g4, H⟩ := H
    replace H := oom H; obtain ⟨e6, H⟩ | ⟨b5, e6, H⟩ := H
    · obtain rfl := Option.some.inj H
      exact Nx.rf
    · replace H := og H; obtain ⟨g9, H⟩ := H
      replace H := ob H; obtain ⟨q10, c11, H⟩ := H
      replace H := oi H; obtain ⟨c12, H⟩ | ⟨c12, H⟩ := H
      · replace H := og H; obtain ⟨g13, H⟩ := H
        replace H := ob H; obtain ⟨q14, c15, H⟩ := H
        replace H := og H; obtain ⟨g16, H⟩ := H
        obtain rfl := Option.some.inj H
        exact (Nx.rf.sI)
      · obtain rfl := Option.some.inj H
        exact Nx.rf
  · obtain rfl := Option.some.inj H
    exact Nx.rf
set_option maxHeartbeats 4000000 in
set_option maxRecDepth 20000 in
theorem n_X11_copy {p1 : Int32} {p2 : Int32} {p3 : Int32} {p4 : Int32} {p5 : Int32} {h : HS} {q : (Int32 × HS)} (H : f_X11_copy p1 p2 p3 p4 p5 h = some q) : Nx h q.2 := by
  unfold f_X11_copy at H
  replace H := ob H; obtain ⟨q1, c2, H⟩ := H
  replace H := oi H; obtain ⟨c3, H⟩ | ⟨c3, H⟩ := H
  · replace H := ob H; obtain ⟨q4, c5, H⟩ := H
    replace H := oi H; obtain ⟨c6, H⟩ | ⟨c6, H⟩ := H
    · replace H := og H; obtain ⟨g7, H⟩ := H
      replace H := oom H; obtain ⟨e9, H⟩ | ⟨b8, e9, H⟩ := H
      · replace H := og H; obtain ⟨g10, H⟩ := H
        replace H := oom H; obtain ⟨e12, H⟩ | ⟨b11, e12, H⟩ := H
        · obtain rfl := Option.some.inj H
          exact Nx.rf
        · obtain rfl := Option.some.inj H
          exact Nx.rf
      · replace H := og H; obtain ⟨g15, H⟩ := H
        replace H := oom H; obtain ⟨e17, H⟩ | ⟨b16, e17, H⟩ := H
        · obtain rfl := Option.some.inj H
          exact Nx.rf
        · replace H := og H; obtain ⟨g22, H⟩ := H
          replace H := og H; obtain ⟨g23, H⟩ := H
          replace H := oi H; obtain ⟨c24, H⟩ | ⟨c24, H⟩ := H
          · replace H := ob H; obtain ⟨q25, c26, H⟩ := H
            replace H := oi H; obtain ⟨c27, H⟩ | ⟨c27, H⟩ := H
            · replace H := ob H; obtain ⟨q28, c29, H⟩ := H
              replace H := oi H; obtain ⟨c30, H⟩ | ⟨c30, H⟩ := H
              · replace H := og H; obtain ⟨g31, H⟩ := H
                replace H := og H; obtain ⟨g32, H⟩ := H
                replace H := og H; obtain ⟨g33, H⟩ := H
                obtain rfl := Option.some.inj H
                exact (Nx.rf.sC)
              · obtain rfl := Option.some.inj H
                exact Nx.rf
            · obtain rfl := Option.some.inj H
              exact Nx.rf
          · obtain rfl := Option.some.inj H
            exact Nx.rf
    · obtain rfl := Option.some.inj H
      exact Nx.rf
  · obtain rfl := Option.some.inj H
    exact Nx.rf
set_option maxHeartbeats 4000000 in
set_option maxRecDepth 20000 in
theorem n_X11_tries_68 {y4 : Int32} {y5 : Nat} : ∀ (n : Nat) {x6 : Int32} {x7 : Int32} {x8 : Int32} {h : HS} {q : ((Int32 × HS) ⊕ (Int32 × HS))}, l_X11_tries_68 y4 y5 n x6 x7 x8 h = some q → Nx h (Sum.elim (fun v => v.2) (fun e => e.2) q) := by
  intro n
  induction n with
  | zero => intro x6 x7 x8 h q H; exact nz H
  | succ n ih =>
    intro x6 x7 x8 h q H
    unfold l_X11_tries_68 at H
    replace H := oi H; obtain ⟨c32, H⟩ | ⟨c32, H⟩ := H
    · obtain rfl := Option.some.inj H
      exact Nx.rf
    · replace H := ob H; obtain ⟨q33, c34, H⟩ := H
      replace H := oi H; obtain ⟨c35, H⟩ | ⟨c35, H⟩ := H
      · replace H := og H; obtain ⟨g36, H⟩ := H
        replace H := og H; obtain ⟨g37, H⟩ := H
        replace H := og H; obtain ⟨g38, H⟩ := H
        replace H := og H; obtain ⟨g39, H⟩ := H
        replace H := og H; obtain ⟨g40, H⟩ := H
        replace H := ob H; obtain ⟨q41, c42, H⟩ := H
        have e43 := n_X11_shown c42
        replace H := oi H; obtain ⟨c46, H⟩ | ⟨c46, H⟩ := H
        · exact e43.tr (ih H)
        · exact e43.tr (ih H)
      · obtain rfl := Option.some.inj H
        exact Nx.rf
set_option maxHeartbeats 4000000 in
set_option maxRecDepth 20000 in
theorem n_X11_tries {p1 : Int32} {p2 : Int32} {p3 : Int32} {p4 : Int32} {h : HS} {q : (Int32 × HS)} (H : f_X11_tries p1 p2 p3 p4 h = some q) : Nx h q.2 := by
  unfold f_X11_tries at H
  replace H := ob H; obtain ⟨q1, c2, H⟩ := H
  replace H := oi H; obtain ⟨c3, H⟩ | ⟨c3, H⟩ := H
  · replace H := ob H; obtain ⟨q4, c5, H⟩ := H
    replace H := oi H; obtain ⟨c6, H⟩ | ⟨c6, H⟩ := H
    · replace H := ob H; obtain ⟨q7, c8, H⟩ := H
      replace H := oi H; obtain ⟨c9, H⟩ | ⟨c9, H⟩ := H
      · replace H := og H; obtain ⟨g10, H⟩ := H
        replace H := oom H; obtain ⟨e12, H⟩ | ⟨b11, e12, H⟩ := H
        · obtain rfl := Option.some.inj H
          exact Nx.rf
        · replace H := og H; obtain ⟨g15, H⟩ := H
          replace H := oi H; obtain ⟨c16, H⟩ | ⟨c16, H⟩ := H
          · replace H := ob H; obtain ⟨q47, c48, H⟩ := H
            rcases q47 with v52 | e49
            · replace H := oSl H; obtain rfl := Option.some.inj H
              exact n_X11_tries_68 1000 c48
            · replace H := oSr H
              have e50 : Nx h e49.2 := n_X11_tries_68 1000 c48
              obtain rfl := Option.some.inj H
              exact e50
          · obtain rfl := Option.some.inj H
            exact Nx.rf
      · obtain rfl := Option.some.inj H
        exact Nx.rf
    · obtain rfl := Option.some.inj H
      exact Nx.rf
  · obtain rfl := Option.some.inj H
    exact Nx.rf
set_option maxHeartbeats 4000000 in
set_option maxRecDepth 20000 in
theorem n_X12_spell_3 {y0 : Nat} {y1 : Int32} {y2 : Int64} : ∀ (n : Nat) {x4 : Int32} {h : HS} {q : HS}, l_X12_spell_3 y0 y1 y2 n x4 h = some q → Nx h q := by
  intro n
  induction n with
  | zero => intro x4 h q H; exact nz H
  | succ n ih =>
    intro x4 h q H
    unfold l_X12_spell_3 at H
    replace H := oi H; obtain ⟨c7, H⟩ | ⟨c7, H⟩ := H
    · obtain rfl := Option.some.inj H
      exact Nx.rf
    · replace H := og H; obtain ⟨g8, H⟩ := H
      replace H := oom H; obtain ⟨-, H⟩ | ⟨b9, e10, H⟩ := H
      · exact nz H
      replace H := og H; obtain ⟨g11, H⟩ := H
      replace H := og H; obtain ⟨g12, H⟩ := H
      exact (Nx.rf.sI).tr (ih H)
set_option maxHeartbeats 4000000 in
set_option maxRecDepth 20000 in
theorem n_X12_spell {p0 : Nat} {p1 : Int32} {p2 : Int64} {h : HS} {q : HS} (H : f_X12_spell p0 p1 p2 h = some q) : Nx h q := by
  unfold f_X12_spell at H
  replace H := ob H; obtain ⟨q13, c14, H⟩ := H
  have e15 := n_X12_spell_3 1000 c14
  obtain rfl := Option.some.inj H
  exact e15
set_option maxHeartbeats 4000000 in
set_option maxRecDepth 20000 in
theorem n_X12_stall {p1 : Int32} {p2 : Int32} {p3 : Int32} {p4 : Int32} {h : HS} {q : (Int32 × HS)} (H : f_X12_stall p1 p2 p3 p4 h = some q) : Nx h q.2 := by
  unfold f_X12_stall at H
  replace H := ob H; obtain ⟨q1, c2, H⟩ := H
  replace H := oi H; obtain ⟨c3, H⟩ | ⟨c3, H⟩ := H
  · replace H := ob H; obtain ⟨q4, c5, H⟩ := H
    replace H := oi H; obtain ⟨c6, H⟩ | ⟨c6, H⟩ := H
    · replace H := ob H; obtain ⟨q7, c8, H⟩ := H
      replace H := oi H; obtain ⟨c9, H⟩ | ⟨c9, H⟩ := H
      · replace H := ob H; obtain ⟨q10, c11, H⟩ := H
        replace H := oi H; obtain ⟨c12, H⟩ | ⟨c12, H⟩ := H
        · replace H := oi H; obtain ⟨c13, H⟩ | ⟨c13, H⟩ := H
          · obtain rfl := Option.some.inj H
            exact Nx.rf
          · replace H := og H; obtain ⟨g14, H⟩ := H
            replace H := og H; obtain ⟨g15, H⟩ := H
            replace H := og H; obtain ⟨g16, H⟩ := H
            replace H := obh H; obtain ⟨h17, e18, H⟩ := H
            replace H := og H; obtain ⟨g20, H⟩ := H
            replace H := og H; obtain ⟨g21, H⟩ := H
            replace H := og H; obtain ⟨g22, H⟩ := H
            replace H := obh H; obtain ⟨h23, e24, H⟩ := H
            replace H := og H; obtain ⟨g26, H⟩ := H
            obtain rfl := Option.some.inj H
            exact (((kN e24 ((((kN e18 (((Nx.rf.sI).sI).sI)).sI).sI).sI)).sI).sI)
        · obtain rfl := Option.some.inj H
          exact Nx.rf
      · obtain rfl := Option.some.inj H
        exact Nx.rf
    · obtain rfl := Option.some.inj H
      exact Nx.rf
  · obtain rfl := Option.some.inj H
    exact Nx.rf
set_option maxHeartbeats 4000000 in
set_option maxRecDepth 20000 in
theorem n_X12_set {p1 : Int32} {p2 : Int32} {p3 : Int32} {h : HS} {q : (Int32 × HS)} (H : f_X12_set p1 p2 p3 h = some q) : Nx h q.2 := by
  unfold f_X12_set at H
  replace H := ob H; obtain ⟨q1, c2, H⟩ := H
  replace H := oi H; obtain ⟨c3, H⟩ | ⟨c3, H⟩ := H
  · replace H := ob H; obtain ⟨q4, c5, H⟩ := H
    replace H := oi H; obtain ⟨c6, H⟩ | ⟨c6, H⟩ := H
    · replace H := ob H; obtain ⟨q8, c10, H⟩ := H
      replace H := ob H; obtain ⟨q12, c15, H⟩ := H
      replace H := ob H; obtain ⟨q16, c17, H⟩ := H
      replace H := oi H; obtain ⟨c18, H⟩ | ⟨c18, H⟩ := H
      · replace H := ob H; obtain ⟨q20, c28, H⟩ := H
        replace H := ob H; obtain ⟨q30, c33, H⟩ := H
        have e34 : Nx h q30 := by
          replace H := c33
          replace H := oi H; obtain ⟨c29, H⟩ | ⟨c29, H⟩ := H
          · replace H := og H; obtain ⟨g32, H⟩ := H
            obtain rfl := Option.some.inj H
            exact (Nx.rf.sI)
          · obtain rfl := Option.some.inj H
            exact Nx.rf
        replace H := ob H; obtain ⟨q37, c40, H⟩ := H
        have e41 : Nx q30 q37 := by
          replace H := c40
          replace H := oi H; obtain ⟨c36, H⟩ | ⟨c36, H⟩ := H
          · replace H := og H; obtain ⟨g39, H⟩ := H
            obtain rfl := Option.some.inj H
            exact (Nx.rf.sI)
          · obtain rfl := Option.some.inj H
            exact Nx.rf
        replace H := ob H; obtain ⟨q44, c47, H⟩ := H
        have e48 : Nx q37 q44 := by
          replace H := c47
          replace H := oi H; obtain ⟨c43, H⟩ | ⟨c43, H⟩ := H
          · replace H := og H; obtain ⟨g46, H⟩ := H
            obtain rfl := Option.some.inj H
            exact (Nx.rf.sI)
          · obtain rfl := Option.some.inj H
            exact Nx.rf
        replace H := oi H; obtain ⟨c50, H⟩ | ⟨c50, H⟩ := H
        · replace H := og H; obtain ⟨g51, H⟩ := H
          obtain rfl := Option.some.inj H
          exact (((e34.tr e41).tr e48).sI)
        · obtain rfl := Option.some.inj H
          exact ((e34.tr e41).tr e48)
      · obtain rfl := Option.some.inj H
        exact Nx.rf
    · obtain rfl := Option.some.inj H
      exact Nx.rf
  · obtain rfl := Option.some.inj H
    exact Nx.rf
set_option maxHeartbeats 4000000 in
set_option maxRecDepth 20000 in
theorem n_X12_next_0  : ∀ (n : Nat)  {h : HS} {q : HS}, l_X12_next_0  n h = some q → Nx h q := by
  intro n
  induction n with
  | zero => intro h q H; exact nz H
  | succ n ih =>
    intro h q H
    unfold l_X12_next_0 at H
    replace H := ob H; obtain ⟨q7, c8, H⟩ := H
    replace H := oi H; obtain ⟨c9, H⟩ | ⟨c9, H⟩ := H
    · exact (Nx.rf.sI).tr (ih H)
    · replace H := ob H; obtain ⟨q10, c11, H⟩ := H
      replace H := oi H; obtain ⟨c12, H⟩ | ⟨c12, H⟩ := H
      · exact (Nx.rf.sI).tr (ih H)
      · obtain rfl := Option.some.inj H
        exact Nx.rf
set_option maxHeartbeats 4000000 in
set_option maxRecDepth 20000 in
theorem n_X12_next_211  : ∀ (n : Nat) {x2 : Int32} {h : HS} {q : (Int32 × HS)}, l_X12_next_211  n x2 h = some q → Nx h q.2 := by
  intro n
  induction n with
  | zero => intro x2 h q H; exact nz H
  | succ n ih =>
    intro x2 h q H
    unfold l_X12_next_211 at H
    replace H := ob H; obtain ⟨q69, c70, H⟩ := H
    replace H := ob H; obtain ⟨q71, c72, H⟩ := H
    replace H := oi H; obtain ⟨c73, H⟩ | ⟨c73, H⟩ := H
    · replace H := ob H; obtain ⟨q75, c79, H⟩ := H
      exact ((Nx.rf.sL).sI).tr (ih H)
    · obtain rfl := Option.some.inj H
      exact Nx.rf
set_option maxHeartbeats 4000000 in
set_option maxRecDepth 20000 in
theorem n_X12_next_107  : ∀ (n : Nat) {x2 : Int32} {h : HS} {q : HS}, l_X12_next_107  n x2 h = some q → Nx h q := by
  intro n
  induction n with
  | zero => intro x2 h q H; exact nz H
  | succ n ih =>
    intro x2 h q H
    unfold l_X12_next_107 at H
    replace H := ob H; obtain ⟨q96, c97, H⟩ := H
    replace H := ob H; obtain ⟨q98, c99, H⟩ := H
    replace H := oi H; obtain ⟨c100, H⟩ | ⟨c100, H⟩ := H
    · replace H := ob H; obtain ⟨q102, c106, H⟩ := H
      exact ((Nx.rf.sL).sI).tr (ih H)
    · obtain rfl := Option.some.inj H
      exact Nx.rf
set_option maxHeartbeats 4000000 in
set_option maxRecDepth 20000 in
theorem n_X12_next  {h : HS} {q : HS} (H : f_X12_next h = some q) : Nx h q := by
  unfold f_X12_next at H
  replace H := ob H; obtain ⟨q13, c14, H⟩ := H
  have e15 := n_X12_next_0 1000 c14
  replace H := ob H; obtain ⟨q17, c18, H⟩ := H
  replace H := oi H; obtain ⟨c19, H⟩ | ⟨c19, H⟩ := H
  · replace H := ob H; obtain ⟨q20, c21, H⟩ := H
    replace H := oi H; obtain ⟨c22, H⟩ | ⟨c22, H⟩ := H
    · replace H := ob H; obtain ⟨q107, c108, H⟩ := H
      have e109 := n_X12_next_107 1000 c108
      obtain rfl := Option.some.inj H
      exact (((((e15.sI).sI).sI).sL).tr e109)
    · replace H := ob H; obtain ⟨q23, c24, H⟩ := H
      replace H := oi H; obtain ⟨c25, H⟩ | ⟨c25, H⟩ := H
      · replace H := ob H; obtain ⟨q80, c81, H⟩ := H
        have e82 := n_X12_next_211 1000 c81
        replace H := oi H; obtain ⟨c84, H⟩ | ⟨c84, H⟩ := H
        · obtain rfl := Option.some.inj H
          exact ((((((e15.sI).sI).sI).sL).tr e82).sI)
        · obtain rfl := Option.some.inj H
          exact ((((((e15.sI).sI).sI).sL).tr e82).sI)
      · replace H := oi H; obtain ⟨c26, H⟩ | ⟨c26, H⟩ := H
        · replace H := obh H; obtain ⟨h27, e28, H⟩ := H
          obtain rfl := Option.some.inj H
          exact (kN e28 (((((e15.sI).sI).sI).sL).sI))
        · replace H := oi H; obtain ⟨c30, H⟩ | ⟨c30, H⟩ := H
          · replace H := obh H; obtain ⟨h31, e32, H⟩ := H
            obtain rfl := Option.some.inj H
            exact (kN e32 (((((e15.sI).sI).sI).sL).sI))
          · replace H := oi H; obtain ⟨c34, H⟩ | ⟨c34, H⟩ := H
            · replace H := obh H; obtain ⟨h35, e36, H⟩ := H
              obtain rfl := Option.some.inj H
              exact (kN e36 (((((e15.sI).sI).sI).sL).sI))
            · replace H := oi H; obtain ⟨c38, H⟩ | ⟨c38, H⟩ := H
              · replace H := obh H; obtain ⟨h39, e40, H⟩ := H
                obtain rfl := Option.some.inj H
                exact (kN e40 (((((e15.sI).sI).sI).sL).sI))
              · replace H := oi H; obtain ⟨c42, H⟩ | ⟨c42, H⟩ := H
                · replace H := obh H; obtain ⟨h43, e44, H⟩ := H
                  obtain rfl := Option.some.inj H
                  exact (kN e44 (((((e15.sI).sI).sI).sL).sI))
                · replace H := oi H; obtain ⟨c46, H⟩ | ⟨c46, H⟩ := H
                  · replace H := obh H; obtain ⟨h47, e48, H⟩ := H
                    obtain rfl := Option.some.inj H
                    exact (kN e48 (((((e15.sI).sI).sI).sL).sI))
                  · replace H := oi H; obtain ⟨c50, H⟩ | ⟨c50, H⟩ := H
                    · replace H := obh H; obtain ⟨h51, e52, H⟩ := H
                      obtain rfl := Option.some.inj H
                      exact (kN e52 (((((e15.sI).sI).sI).sL).sI))
                    · replace H := oi H; obtain ⟨c54, H⟩ | ⟨c54, H⟩ := H
                      · replace H := obh H; obtain ⟨h55, e56, H⟩ := H
                        obtain rfl := Option.some.inj H
                        exact (kN e56 (((((e15.sI).sI).sI).sL).sI))
                      · obtain rfl := Option.some.inj H
                        exact ((e15.sI).sI)
  · replace H := obh H; obtain ⟨h111, e112, H⟩ := H
    obtain rfl := Option.some.inj H
    exact (kN e112 ((((e15.sI).sI).sI).sI))
set_option maxHeartbeats 4000000 in
set_option maxRecDepth 20000 in
theorem n_X12_fail  {h : HS} {q : HS} (H : f_X12_fail h = some q) : Nx h q := by
  unfold f_X12_fail at H
  replace H := oi H; obtain ⟨c1, H⟩ | ⟨c1, H⟩ := H
  · obtain rfl := Option.some.inj H
    exact ((Nx.rf.sI).sI)
  · obtain rfl := Option.some.inj H
    exact Nx.rf
set_option maxHeartbeats 4000000 in
set_option maxRecDepth 20000 in
theorem n_X12_opens  {h : HS} {q : (Bool × HS)} (H : f_X12_opens h = some q) : Nx h q.2 := by
  unfold f_X12_opens at H
  replace H := oi H; obtain ⟨c1, H⟩ | ⟨c1, H⟩ := H
  · replace H := ob H; obtain ⟨q6, c7, H⟩ := H
    have e8 := n_X12_fail c7
    obtain rfl := Option.some.inj H
    exact e8
  · replace H := ob H; obtain ⟨q2, c3, H⟩ := H
    have e4 := n_X12_next c3
    obtain rfl := Option.some.inj H
    exact ((Nx.rf.sI).tr e4)
set_option maxHeartbeats 4000000 in
set_option maxRecDepth 20000 in
theorem n_X12_name  {h : HS} {q : (Int32 × HS)} (H : f_X12_name h = some q) : Nx h q.2 := by
  unfold f_X12_name at H
  replace H := ob H; obtain ⟨q1, c2, H⟩ := H
  replace H := oi H; obtain ⟨c3, H⟩ | ⟨c3, H⟩ := H
  · obtain rfl := Option.some.inj H
    exact Nx.rf
  · replace H := ob H; obtain ⟨q4, c5, H⟩ := H
    replace H := oi H; obtain ⟨c6, H⟩ | ⟨c6, H⟩ := H
    · replace H := og H; obtain ⟨g25, H⟩ := H
      obtain rfl := Option.some.inj H
      exact Nx.rf
    · replace H := ob H; obtain ⟨q7, c8, H⟩ := H
      replace H := oi H; obtain ⟨c9, H⟩ | ⟨c9, H⟩ := H
      · replace H := og H; obtain ⟨g24, H⟩ := H
        obtain rfl := Option.some.inj H
        exact Nx.rf
      · replace H := ob H; obtain ⟨q10, c11, H⟩ := H
        replace H := oi H; obtain ⟨c12, H⟩ | ⟨c12, H⟩ := H
        · replace H := og H; obtain ⟨g23, H⟩ := H
          obtain rfl := Option.some.inj H
          exact Nx.rf
        · replace H := ob H; obtain ⟨q13, c14, H⟩ := H
          replace H := oi H; obtain ⟨c15, H⟩ | ⟨c15, H⟩ := H
          · obtain rfl := Option.some.inj H
            exact Nx.rf
          · replace H := ob H; obtain ⟨q16, c17, H⟩ := H
            replace H := oi H; obtain ⟨c18, H⟩ | ⟨c18, H⟩ := H
            · obtain rfl := Option.some.inj H
              exact Nx.rf
            · replace H := ob H; obtain ⟨q19, c20, H⟩ := H
              have e21 := n_X12_fail c20
              obtain rfl := Option.some.inj H
              exact e21
abbrev RNX12 (rc : Nat → HS → Option (Int32 × HS)) : Prop := ∀ {m : Nat} {h : HS} {q : Int32 × HS}, rc m h = some q → Nx h q.2
set_option maxHeartbeats 4000000 in
set_option maxRecDepth 20000 in
theorem n_X12_either_5 {rc : Nat → HS → Option (Int32 × HS)} (hpc : RNX12 rc)  : ∀ (n : Nat) {x1 : Int32} {h : HS} {q : (Int32 × HS)}, l_X12_either_5 rc n x1 h = some q → Nx h q.2 := by
  intro n
  induction n with
  | zero => intro x1 h q H; exact nz H
  | succ n ih =>
    intro x1 h q H
    unfold l_X12_either_5 at H
    replace H := ob H; obtain ⟨q18, c19, H⟩ := H
    replace H := oi H; obtain ⟨c20, H⟩ | ⟨c20, H⟩ := H
    · replace H := ob H; obtain ⟨q21, c22, H⟩ := H
      have e23 := n_X12_next c22
      replace H := ob H; obtain ⟨q25, c26, H⟩ := H
      have e27 := hpc c26
      replace H := oi H; obtain ⟨c29, H⟩ | ⟨c29, H⟩ := H
      · replace H := oi H; obtain ⟨c30, H⟩ | ⟨c30, H⟩ := H
        · exact (e23.tr e27).tr (ih H)
        · exact (e23.tr e27).tr (ih H)
      · exact (e23.tr e27).tr (ih H)
    · obtain rfl := Option.some.inj H
      exact Nx.rf
set_option maxHeartbeats 4000000 in
set_option maxRecDepth 20000 in
theorem n_X12_either {rc : Nat → HS → Option (Int32 × HS)} (hpc : RNX12 rc)  {h : HS} {q : (Int32 × HS)} (H : g_X12_either rc h = some q) : Nx h q.2 := by
  unfold g_X12_either at H
  replace H := ob H; obtain ⟨q1, c2, H⟩ := H
  have e3 := hpc c2
  replace H := ob H; obtain ⟨q31, c32, H⟩ := H
  have e33 := n_X12_either_5 hpc 1000 c32
  obtain rfl := Option.some.inj H
  exact (e3.tr e33)
set_option maxHeartbeats 4000000 in
set_option maxRecDepth 20000 in
theorem n_X12_both_5 {rc : Nat → HS → Option (Int32 × HS)} (hpc : RNX12 rc)  : ∀ (n : Nat) {x1 : Int32} {h : HS} {q : (Int32 × HS)}, l_X12_both_5 rc n x1 h = some q → Nx h q.2 := by
  intro n
  induction n with
  | zero => intro x1 h q H; exact nz H
  | succ n ih =>
    intro x1 h q H
    unfold l_X12_both_5 at H
    replace H := ob H; obtain ⟨q18, c19, H⟩ := H
    replace H := oi H; obtain ⟨c20, H⟩ | ⟨c20, H⟩ := H
    · replace H := ob H; obtain ⟨q21, c22, H⟩ := H
      have e23 := n_X12_next c22
      replace H := ob H; obtain ⟨q25, c26, H⟩ := H
      have e27 := hpc c26
      replace H := oi H; obtain ⟨c29, H⟩ | ⟨c29, H⟩ := H
      · exact (e23.tr e27).tr (ih H)
      · replace H := oi H; obtain ⟨c30, H⟩ | ⟨c30, H⟩ := H
        · exact (e23.tr e27).tr (ih H)
        · exact (e23.tr e27).tr (ih H)
    · obtain rfl := Option.some.inj H
      exact Nx.rf
set_option maxHeartbeats 4000000 in
set_option maxRecDepth 20000 in
theorem n_X12_both {rc : Nat → HS → Option (Int32 × HS)} (hpc : RNX12 rc)  {h : HS} {q : (Int32 × HS)} (H : g_X12_both rc h = some q) : Nx h q.2 := by
  unfold g_X12_both at H
  replace H := ob H; obtain ⟨q1, c2, H⟩ := H
  have e3 := hpc c2
  replace H := ob H; obtain ⟨q31, c32, H⟩ := H
  have e33 := n_X12_both_5 hpc 1000 c32
  obtain rfl := Option.some.inj H
  exact (e3.tr e33)
set_option maxHeartbeats 4000000 in
set_option maxRecDepth 20000 in
theorem n_X12_not {rc : Nat → HS → Option (Int32 × HS)} (hpc : RNX12 rc)  {h : HS} {q : (Int32 × HS)} (H : g_X12_not rc h = some q) : Nx h q.2 := by
  unfold g_X12_not at H
  replace H := ob H; obtain ⟨q1, c2, H⟩ := H
  replace H := oi H; obtain ⟨c3, H⟩ | ⟨c3, H⟩ := H
  · replace H := ob H; obtain ⟨q44, c45, H⟩ := H
    have e46 := n_X12_opens c45
    replace H := oi H; obtain ⟨c48, H⟩ | ⟨c48, H⟩ := H
    · replace H := ob H; obtain ⟨q49, c50, H⟩ := H
      have e51 := hpc c50
      replace H := oi H; obtain ⟨c53, H⟩ | ⟨c53, H⟩ := H
      · obtain rfl := Option.some.inj H
        exact ((e46.tr e51).sI)
      · obtain rfl := Option.some.inj H
        exact ((e46.tr e51).sI)
    · obtain rfl := Option.some.inj H
      exact e46
  · replace H := ob H; obtain ⟨q4, c5, H⟩ := H
    have e6 := hpc c5
    replace H := ob H; obtain ⟨q8, c9, H⟩ := H
    replace H := oi H; obtain ⟨c10, H⟩ | ⟨c10, H⟩ := H
    · replace H := ob H; obtain ⟨q12, c14, H⟩ := H
      replace H := ob H; obtain ⟨q15, c16, H⟩ := H
      have e17 := n_X12_next c16
      replace H := ob H; obtain ⟨q19, c20, H⟩ := H
      have e21 := hpc c20
      replace H := oi H; obtain ⟨c23, H⟩ | ⟨c23, H⟩ := H
      · replace H := oi H; obtain ⟨c24, H⟩ | ⟨c24, H⟩ := H
        · obtain rfl := Option.some.inj H
          exact ((e6.tr e17).tr e21)
        · obtain rfl := Option.some.inj H
          exact ((e6.tr e17).tr e21)
      · replace H := oi H; obtain ⟨c25, H⟩ | ⟨c25, H⟩ := H
        · obtain rfl := Option.some.inj H
          exact ((e6.tr e17).tr e21)
        · obtain rfl := Option.some.inj H
          exact ((e6.tr e17).tr e21)
    · replace H := ob H; obtain ⟨q26, c27, H⟩ := H
      replace H := oi H; obtain ⟨c28, H⟩ | ⟨c28, H⟩ := H
      · replace H := ob H; obtain ⟨q30, c32, H⟩ := H
        replace H := ob H; obtain ⟨q33, c34, H⟩ := H
        have e35 := n_X12_next c34
        replace H := ob H; obtain ⟨q37, c38, H⟩ := H
        have e39 := hpc c38
        replace H := oi H; obtain ⟨c41, H⟩ | ⟨c41, H⟩ := H
        · replace H := oi H; obtain ⟨c42, H⟩ | ⟨c42, H⟩ := H
          · obtain rfl := Option.some.inj H
            exact ((e6.tr e35).tr e39)
          · obtain rfl := Option.some.inj H
            exact ((e6.tr e35).tr e39)
        · replace H := oi H; obtain ⟨c43, H⟩ | ⟨c43, H⟩ := H
          · obtain rfl := Option.some.inj H
            exact ((e6.tr e35).tr e39)
          · obtain rfl := Option.some.inj H
            exact ((e6.tr e35).tr e39)
      · obtain rfl := Option.some.inj H
        exact e6
set_option maxHeartbeats 4000000 in
set_option maxRecDepth 20000 in
theorem n_X12_added_5 {rc : Nat → HS → Option (Int32 × HS)} (hpc : RNX12 rc)  : ∀ (n : Nat) {x1 : Int32} {h : HS} {q : (Int32 × HS)}, l_X12_added_5 rc n x1 h = some q → Nx h q.2 := by
  intro n
  induction n with
  | zero => intro x1 h q H; exact nz H
  | succ n ih =>
    intro x1 h q H
    unfold l_X12_added_5 at H
    replace H := ob H; obtain ⟨q37, c38, H⟩ := H
    replace H := oi H; obtain ⟨c39, H⟩ | ⟨c39, H⟩ := H
    · replace H := ob H; obtain ⟨q41, c43, H⟩ := H
      replace H := ob H; obtain ⟨q44, c45, H⟩ := H
      have e46 := n_X12_next c45
      replace H := ob H; obtain ⟨q48, c49, H⟩ := H
      have e50 := hpc c49
      replace H := oi H; obtain ⟨c52, H⟩ | ⟨c52, H⟩ := H
      · exact (e46.tr e50).tr (ih H)
      · exact (e46.tr e50).tr (ih H)
    · replace H := ob H; obtain ⟨q53, c54, H⟩ := H
      replace H := oi H; obtain ⟨c55, H⟩ | ⟨c55, H⟩ := H
      · replace H := ob H; obtain ⟨q57, c59, H⟩ := H
        replace H := ob H; obtain ⟨q60, c61, H⟩ := H
        have e62 := n_X12_next c61
        replace H := ob H; obtain ⟨q64, c65, H⟩ := H
        have e66 := hpc c65
        replace H := oi H; obtain ⟨c68, H⟩ | ⟨c68, H⟩ := H
        · exact (e62.tr e66).tr (ih H)
        · exact (e62.tr e66).tr (ih H)
      · obtain rfl := Option.some.inj H
        exact Nx.rf
set_option maxHeartbeats 4000000 in
set_option maxRecDepth 20000 in
theorem n_X12_added {rc : Nat → HS → Option (Int32 × HS)} (hpc : RNX12 rc)  {h : HS} {q : (Int32 × HS)} (H : g_X12_added rc h = some q) : Nx h q.2 := by
  unfold g_X12_added at H
  replace H := ob H; obtain ⟨q1, c2, H⟩ := H
  have e3 := hpc c2
  replace H := ob H; obtain ⟨q69, c70, H⟩ := H
  have e71 := n_X12_added_5 hpc 1000 c70
  obtain rfl := Option.some.inj H
  exact (e3.tr e71)
set_option maxHeartbeats 4000000 in
set_option maxRecDepth 20000 in
theorem n_X12_term_5 {rc : Nat → HS → Option (Int32 × HS)} (hpc : RNX12 rc)  : ∀ (n : Nat) {x1 : Int32} {h : HS} {q : (Int32 × HS)}, l_X12_term_5 rc n x1 h = some q → Nx h q.2 := by
  intro n
  induction n with
  | zero => intro x1 h q H; exact nz H
  | succ n ih =>
    intro x1 h q H
    unfold l_X12_term_5 at H
    replace H := ob H; obtain ⟨q16, c17, H⟩ := H
    replace H := oi H; obtain ⟨c18, H⟩ | ⟨c18, H⟩ := H
    · replace H := ob H; obtain ⟨q19, c20, H⟩ := H
      have e21 := n_X12_next c20
      replace H := ob H; obtain ⟨q23, c24, H⟩ := H
      have e25 := hpc c24
      exact (e21.tr e25).tr (ih H)
    · obtain rfl := Option.some.inj H
      exact Nx.rf
set_option maxHeartbeats 4000000 in
set_option maxRecDepth 20000 in
theorem n_X12_term {rc : Nat → HS → Option (Int32 × HS)} (hpc : RNX12 rc)  {h : HS} {q : (Int32 × HS)} (H : g_X12_term rc h = some q) : Nx h q.2 := by
  unfold g_X12_term at H
  replace H := ob H; obtain ⟨q1, c2, H⟩ := H
  have e3 := hpc c2
  replace H := ob H; obtain ⟨q27, c28, H⟩ := H
  have e29 := n_X12_term_5 hpc 1000 c28
  obtain rfl := Option.some.inj H
  exact (e3.tr e29)
set_option maxHeartbeats 4000000 in
set_option maxRecDepth 20000 in
theorem n_X12_one {rc : Nat → HS → Option (Int32 × HS)} (hpc : RNX12 rc)  {h : HS} {q : (Int32 × HS)} (H : g_X12_one rc h = some q) : Nx h q.2 := by
  unfold g_X12_one at H
  replace H := ob H; obtain ⟨q1, c2, H⟩ := H
  replace H := oi H; obtain ⟨c3, H⟩ | ⟨c3, H⟩ := H
  · replace H := ob H; obtain ⟨q77, c78, H⟩ := H
    have e79 := n_X12_opens c78
    replace H := oi H; obtain ⟨c81, H⟩ | ⟨c81, H⟩ := H
    · replace H := ob H; obtain ⟨q82, c83, H⟩ := H
      have e84 := hpc c83
      obtain rfl := Option.some.inj H
      exact ((e79.tr e84).sI)
    · obtain rfl := Option.some.inj H
      exact e79
  · replace H := ob H; obtain ⟨q4, c5, H⟩ := H
    replace H := oi H; obtain ⟨c6, H⟩ | ⟨c6, H⟩ := H
    · replace H := ob H; obtain ⟨q51, c52, H⟩ := H
      have e53 := n_X12_opens c52
      replace H := oi H; obtain ⟨c55, H⟩ | ⟨c55, H⟩ := H
      · replace H := ob H; obtain ⟨q56, c57, H⟩ := H
        have e58 := hpc c57
        replace H := ob H; obtain ⟨q60, c61, H⟩ := H
        replace H := ob H; obtain ⟨q63, c69, H⟩ := H
        have e70 : Nx q56.2 q63 := by
          replace H := c69
          replace H := oi H; obtain ⟨c62, H⟩ | ⟨c62, H⟩ := H
          · obtain rfl := Option.some.inj H
            exact Nx.rf
          · replace H := ob H; obtain ⟨q65, c66, H⟩ := H
            have e67 := n_X12_fail c66
            obtain rfl := Option.some.inj H
            exact e67
        replace H := oi H; obtain ⟨c72, H⟩ | ⟨c72, H⟩ := H
        · replace H := ob H; obtain ⟨q73, c74, H⟩ := H
          have e75 := n_X12_next c74
          obtain rfl := Option.some.inj H
          exact ((((e53.tr e58).tr e70).sI).tr e75)
        · obtain rfl := Option.some.inj H
          exact (((e53.tr e58).tr e70).sI)
      · obtain rfl := Option.some.inj H
        exact e53
    · replace H := oi H; obtain ⟨c7, H⟩ | ⟨c7, H⟩ := H
      · replace H := oi H; obtain ⟨c27, H⟩ | ⟨c27, H⟩ := H
        · replace H := ob H; obtain ⟨q47, c48, H⟩ := H
          have e49 := n_X12_next c48
          obtain rfl := Option.some.inj H
          exact e49
        · replace H := oi H; obtain ⟨c28, H⟩ | ⟨c28, H⟩ := H
          · replace H := oi H; obtain ⟨c33, H⟩ | ⟨c33, H⟩ := H
            · replace H := ob H; obtain ⟨q38, c39, H⟩ := H
              have e40 := n_X12_name c39
              replace H := oi H; obtain ⟨c42, H⟩ | ⟨c42, H⟩ := H
              · replace H := ob H; obtain ⟨q43, c44, H⟩ := H
                have e45 := n_X12_next c44
                obtain rfl := Option.some.inj H
                exact (e40.tr e45)
              · obtain rfl := Option.some.inj H
                exact e40
            · replace H := ob H; obtain ⟨q34, c35, H⟩ := H
              have e36 := n_X12_fail c35
              obtain rfl := Option.some.inj H
              exact e36
          · replace H := ob H; obtain ⟨q29, c30, H⟩ := H
            have e31 := n_X12_fail c30
            obtain rfl := Option.some.inj H
            exact e31
      · replace H := oi H; obtain ⟨c8, H⟩ | ⟨c8, H⟩ := H
        · replace H := oi H; obtain ⟨c13, H⟩ | ⟨c13, H⟩ := H
          · replace H := ob H; obtain ⟨q18, c19, H⟩ := H
            have e20 := n_X12_name c19
            replace H := oi H; obtain ⟨c22, H⟩ | ⟨c22, H⟩ := H
            · replace H := ob H; obtain ⟨q23, c24, H⟩ := H
              have e25 := n_X12_next c24
              obtain rfl := Option.some.inj H
              exact (e20.tr e25)
            · obtain rfl := Option.some.inj H
              exact e20
          · replace H := ob H; obtain ⟨q14, c15, H⟩ := H
            have e16 := n_X12_fail c15
            obtain rfl := Option.some.inj H
            exact e16
        · replace H := ob H; obtain ⟨q9, c10, H⟩ := H
          have e11 := n_X12_fail c10
          obtain rfl := Option.some.inj H
          exact e11
set_option maxHeartbeats 4000000 in
set_option maxRecDepth 20000 in
theorem n_rX12 : ∀ n, RNX12 (r_X12 n) := by
  intro n
  induction n with
  | zero => intro m h q H; exact nz H
  | succ n ih =>
    intro m h q H
    unfold r_X12 at H
    replace H := oi H; obtain ⟨-, H⟩ | ⟨-, H⟩ := H
    · exact n_X12_either ih H
    replace H := oi H; obtain ⟨-, H⟩ | ⟨-, H⟩ := H
    · exact n_X12_both ih H
    replace H := oi H; obtain ⟨-, H⟩ | ⟨-, H⟩ := H
    · exact n_X12_not ih H
    replace H := oi H; obtain ⟨-, H⟩ | ⟨-, H⟩ := H
    · exact n_X12_added ih H
    replace H := oi H; obtain ⟨-, H⟩ | ⟨-, H⟩ := H
    · exact n_X12_term ih H
    replace H := oi H; obtain ⟨-, H⟩ | ⟨-, H⟩ := H
    · exact n_X12_one ih H
    exact nz H
set_option maxHeartbeats 4000000 in
set_option maxRecDepth 20000 in
theorem n_E_X12_either {h : HS} {q : Int32 × HS} (H : r_X12 60 0 h = some q) : Nx h q.2 := n_rX12 60 H
set_option maxHeartbeats 4000000 in
set_option maxRecDepth 20000 in
theorem n_E_X12_both {h : HS} {q : Int32 × HS} (H : r_X12 60 1 h = some q) : Nx h q.2 := n_rX12 60 H
set_option maxHeartbeats 4000000 in
set_option maxRecDepth 20000 in
theorem n_E_X12_not {h : HS} {q : Int32 × HS} (H : r_X12 60 2 h = some q) : Nx h q.2 := n_rX12 60 H
set_option maxHeartbeats 4000000 in
set_option maxRecDepth 20000 in
theorem n_E_X12_added {h : HS} {q : Int32 × HS} (H : r_X12 60 3 h = some q) : Nx h q.2 := n_rX12 60 H
set_option maxHeartbeats 4000000 in
set_option maxRecDepth 20000 in
theorem n_E_X12_term {h : HS} {q : Int32 × HS} (H : r_X12 60 4 h = some q) : Nx h q.2 := n_rX12 60 H
set_option maxHeartbeats 4000000 in
set_option maxRecDepth 20000 in
theorem n_E_X12_one {h : HS} {q : Int32 × HS} (H : r_X12 60 5 h = some q) : Nx h q.2 := n_rX12 60 H
set_option maxHeartbeats 4000000 in
set_option maxRecDepth 20000 in
theorem n_X12_part {p1 : Int64} {h : HS} {q : (Int32 × HS)} (H : f_X12_part p1 h = some q) : Nx h q.2 := by
  unfold f_X12_part at H
  replace H := ob H; obtain ⟨q1, c2, H⟩ := H
  replace H := ob H; obtain ⟨q4, c10, H⟩ := H
  have e11 : Nx h q4 := by
    replace H := c10
    replace H := oi H; obtain ⟨c3, H⟩ | ⟨c3, H⟩ := H
    · obtain rfl := Option.some.inj H
      exact Nx.rf
    · replace H := ob H; obtain ⟨q6, c7, H⟩ := H
      have e8 := n_X12_fail c7
      obtain rfl := Option.some.inj H
      exact e8
  replace H := ob H; obtain ⟨q14, c20, H⟩ := H
  have e21 : Nx q4 q14 := by
    replace H := c20
    replace H := oi H; obtain ⟨c13, H⟩ | ⟨c13, H⟩ := H
    · replace H := ob H; obtain ⟨q16, c17, H⟩ := H
      have e18 := n_X12_next c17
      obtain rfl := Option.some.inj H
      exact e18
    · obtain rfl := Option.some.inj H
      exact Nx.rf
  replace H := ob H; obtain ⟨q24, c30, H⟩ := H
  have e31 : Nx q14 q24.2 := by
    replace H := c30
    replace H := oi H; obtain ⟨c23, H⟩ | ⟨c23, H⟩ := H
    · replace H := ob H; obtain ⟨q26, c27, H⟩ := H
      have e28 := n_E_X12_either c27
      obtain rfl := Option.some.inj H
      exact e28
    · obtain rfl := Option.some.inj H
      exact Nx.rf
  replace H := ob H; obtain ⟨q33, c34, H⟩ := H
  replace H := ob H; obtain ⟨q36, c42, H⟩ := H
  have e43 : Nx q24.2 q36 := by
    replace H := c42
    replace H := oi H; obtain ⟨c35, H⟩ | ⟨c35, H⟩ := H
    · obtain rfl := Option.some.inj H
      exact Nx.rf
    · replace H := ob H; obtain ⟨q38, c39, H⟩ := H
      have e40 := n_X12_fail c39
      obtain rfl := Option.some.inj H
      exact e40
  replace H := oi H; obtain ⟨c45, H⟩ | ⟨c45, H⟩ := H
  · replace H := ob H; obtain ⟨q46, c47, H⟩ := H
    have e48 := n_X12_next c47
    obtain rfl := Option.some.inj H
    exact ((((e11.tr e21).tr e31).tr e43).tr e48)
  · obtain rfl := Option.some.inj H
    exact (((e11.tr e21).tr e31).tr e43)
set_option maxHeartbeats 4000000 in
set_option maxRecDepth 20000 in
theorem n_X12_read {p1 : Int32} {p2 : Int32} {p3 : Int32} {p4 : Int32} {p5 : Int32} {p6 : Int32} {h : HS} {q : (Int32 × HS)} (H : f_X12_read p1 p2 p3 p4 p5 p6 h = some q) : Nx h q.2 := by
  unfold f_X12_read at H
  replace H := og H; obtain ⟨g1, H⟩ := H
  replace H := obh H; obtain ⟨h2, e3, H⟩ := H
  replace H := ob H; obtain ⟨q5, c6, H⟩ := H
  have e7 := n_X12_next c6
  replace H := ob H; obtain ⟨q9, c10, H⟩ := H
  have e11 := n_X12_part c10
  replace H := ob H; obtain ⟨q14, c20, H⟩ := H
  have e21 : Nx q9.2 q14.2 := by
    replace H := c20
    replace H := oi H; obtain ⟨c13, H⟩ | ⟨c13, H⟩ := H
    · replace H := ob H; obtain ⟨q16, c17, H⟩ := H
      have e18 := n_X12_part c17
      obtain rfl := Option.some.inj H
      exact e18
    · obtain rfl := Option.some.inj H
      exact Nx.rf
  replace H := ob H; obtain ⟨q24, c30, H⟩ := H
  have e31 : Nx q14.2 q24.2 := by
    replace H := c30
    replace H := oi H; obtain ⟨c23, H⟩ | ⟨c23, H⟩ := H
    · replace H := ob H; obtain ⟨q26, c27, H⟩ := H
      have e28 := n_X12_part c27
      obtain rfl := Option.some.inj H
      exact e28
    · obtain rfl := Option.some.inj H
      exact Nx.rf
  replace H := ob H; obtain ⟨q34, c41, H⟩ := H
  have e42 : Nx q24.2 q34 := by
    replace H := c41
    replace H := oi H; obtain ⟨c33, H⟩ | ⟨c33, H⟩ := H
    · replace H := oi H; obtain ⟨c36, H⟩ | ⟨c36, H⟩ := H
      · obtain rfl := Option.some.inj H
        exact Nx.rf
      · replace H := ob H; obtain ⟨q37, c38, H⟩ := H
        have e39 := n_X12_fail c38
        obtain rfl := Option.some.inj H
        exact e39
    · obtain rfl := Option.some.inj H
      exact Nx.rf
  replace H := oi H; obtain ⟨c44, H⟩ | ⟨c44, H⟩ := H
  · obtain rfl := Option.some.inj H
    exact (((((((((kN e3 ((((((Nx.rf.sI).sI).sI).sI).sI).sI)).sI).sI).sI).tr e7).tr e11).tr e21).tr e31).tr e42)
  · replace H := oi H; obtain ⟨c45, H⟩ | ⟨c45, H⟩ := H
    · obtain rfl := Option.some.inj H
      exact (((((((((kN e3 ((((((Nx.rf.sI).sI).sI).sI).sI).sI)).sI).sI).sI).tr e7).tr e11).tr e21).tr e31).tr e42)
    · obtain rfl := Option.some.inj H
      exact (((((((((kN e3 ((((((Nx.rf.sI).sI).sI).sI).sI).sI)).sI).sI).sI).tr e7).tr e11).tr e21).tr e31).tr e42)
set_option maxHeartbeats 4000000 in
set_option maxRecDepth 20000 in
theorem n_X12_hoursOf {p1 : Int32} {h : HS} {q : (Int32 × HS)} (H : f_X12_hoursOf p1 h = some q) : Nx h q.2 := by
  unfold f_X12_hoursOf at H
  replace H := ob H; obtain ⟨q1, c2, H⟩ := H
  have e3 := n_X12_read c2
  replace H := oi H; obtain ⟨c5, H⟩ | ⟨c5, H⟩ := H
  · replace H := oi H; obtain ⟨c6, H⟩ | ⟨c6, H⟩ := H
    · obtain rfl := Option.some.inj H
      exact e3
    · obtain rfl := Option.some.inj H
      exact e3
  · obtain rfl := Option.some.inj H
    exact e3
set_option maxHeartbeats 4000000 in
set_option maxRecDepth 20000 in
theorem n_X12_told {p1 : Int32} {p2 : Int32} {h : HS} {q : (Int32 × HS)} (H : f_X12_told p1 p2 h = some q) : Nx h q.2 := by
  unfold f_X12_told at H
  replace H := ob H; obtain ⟨q1, c2, H⟩ := H
  replace H := oi H; obtain ⟨c3, H⟩ | ⟨c3, H⟩ := H
  · replace H := oi H; obtain ⟨k4, H⟩ | ⟨k4, H⟩ := H
    · replace H := og H; obtain ⟨g25, H⟩ := H
      obtain rfl := Option.some.inj H
      exact Nx.rf
    · replace H := oi H; obtain ⟨k5, H⟩ | ⟨k5, H⟩ := H
      · replace H := og H; obtain ⟨g24, H⟩ := H
        obtain rfl := Option.some.inj H
        exact Nx.rf
      · replace H := oi H; obtain ⟨k6, H⟩ | ⟨k6, H⟩ := H
        · replace H := og H; obtain ⟨g23, H⟩ := H
          obtain rfl := Option.some.inj H
          exact Nx.rf
        · replace H := oi H; obtain ⟨k7, H⟩ | ⟨k7, H⟩ := H
          · replace H := og H; obtain ⟨g22, H⟩ := H
            obtain rfl := Option.some.inj H
            exact Nx.rf
          · replace H := oi H; obtain ⟨k8, H⟩ | ⟨k8, H⟩ := H
            · replace H := og H; obtain ⟨g21, H⟩ := H
              obtain rfl := Option.some.inj H
              exact Nx.rf
            · replace H := oi H; obtain ⟨k9, H⟩ | ⟨k9, H⟩ := H
              · replace H := og H; obtain ⟨g20, H⟩ := H
                obtain rfl := Option.some.inj H
                exact Nx.rf
              · replace H := oi H; obtain ⟨k10, H⟩ | ⟨k10, H⟩ := H
                · replace H := og H; obtain ⟨g19, H⟩ := H
                  obtain rfl := Option.some.inj H
                  exact Nx.rf
                · replace H := oi H; obtain ⟨k11, H⟩ | ⟨k11, H⟩ := H
                  · replace H := ob H; obtain ⟨q17, c18, H⟩ := H
                    obtain rfl := Option.some.inj H
                    exact Nx.rf
                  · replace H := oi H; obtain ⟨k12, H⟩ | ⟨k12, H⟩ := H
                    · replace H := ob H; obtain ⟨q13, c14, H⟩ := H
                      have e15 := n_X12_hoursOf c14
                      obtain rfl := Option.some.inj H
                      exact e15
                    · obtain rfl := Option.some.inj H
                      exact Nx.rf
  · obtain rfl := Option.some.inj H
    exact Nx.rf
set_option maxHeartbeats 4000000 in
set_option maxRecDepth 20000 in
theorem n_X12_hand {p1 : Int32} {p2 : Int32} {p3 : Int32} {h : HS} {q : (Int32 × HS)} (H : f_X12_hand p1 p2 p3 h = some q) : Nx h q.2 := by
  unfold f_X12_hand at H
  replace H := ob H; obtain ⟨q1, c2, H⟩ := H
  replace H := oi H; obtain ⟨c3, H⟩ | ⟨c3, H⟩ := H
  · replace H := ob H; obtain ⟨q4, c5, H⟩ := H
    replace H := oi H; obtain ⟨c6, H⟩ | ⟨c6, H⟩ := H
    · replace H := ob H; obtain ⟨q7, c8, H⟩ := H
      replace H := oi H; obtain ⟨c9, H⟩ | ⟨c9, H⟩ := H
      · replace H := oi H; obtain ⟨c10, H⟩ | ⟨c10, H⟩ := H
        · obtain rfl := Option.some.inj H
          exact Nx.rf
        · replace H := og H; obtain ⟨g11, H⟩ := H
          replace H := og H; obtain ⟨g12, H⟩ := H
          replace H := og H; obtain ⟨g13, H⟩ := H
          replace H := obh H; obtain ⟨h14, e15, H⟩ := H
          obtain rfl := Option.some.inj H
          exact ((kN e15 (((Nx.rf.sI).sI).sI)).sI)
      · obtain rfl := Option.some.inj H
        exact Nx.rf
    · obtain rfl := Option.some.inj H
      exact Nx.rf
  · obtain rfl := Option.some.inj H
    exact Nx.rf
set_option maxHeartbeats 4000000 in
set_option maxRecDepth 20000 in
theorem n_X12_bestOf_16 {y1 : Int32} {y2 : Int32} {y3 : Int32} {y4 : Int32} {y5 : Int32} {y7 : Int32} : ∀ (n : Nat) {x6 : Int32} {x8 : Int32} {h : HS} {q : (Int32 × HS)}, l_X12_bestOf_16 y1 y2 y3 y4 y5 y7 n x6 x8 h = some q → Nx h q.2 := by
  intro n
  induction n with
  | zero => intro x6 x8 h q H; exact nz H
  | succ n ih =>
    intro x6 x8 h q H
    unfold l_X12_bestOf_16 at H
    replace H := oi H; obtain ⟨c19, H⟩ | ⟨c19, H⟩ := H
    · obtain rfl := Option.some.inj H
      exact Nx.rf
    · replace H := ob H; obtain ⟨q20, c21, H⟩ := H
      replace H := oi H; obtain ⟨c22, H⟩ | ⟨c22, H⟩ := H
      · exact (Nx.rf.sI).tr (ih H)
      · exact id (ih H)
set_option maxHeartbeats 4000000 in
set_option maxRecDepth 20000 in
theorem n_X12_bestOf_6 {y1 : Int32} {y2 : Int32} {y3 : Int32} {y4 : Int32} {y5 : Int32} : ∀ (n : Nat) {x6 : Int32} {x7 : Int32} {h : HS} {q : (Int32 × HS)}, l_X12_bestOf_6 y1 y2 y3 y4 y5 n x6 x7 h = some q → Nx h q.2 := by
  intro n
  induction n with
  | zero => intro x6 x7 h q H; exact nz H
  | succ n ih =>
    intro x6 x7 h q H
    unfold l_X12_bestOf_6 at H
    replace H := oi H; obtain ⟨c14, H⟩ | ⟨c14, H⟩ := H
    · obtain rfl := Option.some.inj H
      exact Nx.rf
    · replace H := ob H; obtain ⟨q23, c24, H⟩ := H
      have e25 := n_X12_bestOf_16 1000 c24
      exact e25.tr (ih H)
set_option maxHeartbeats 4000000 in
set_option maxRecDepth 20000 in
theorem n_X12_bestOf {p1 : Int32} {p2 : Int32} {p3 : Int32} {p4 : Int32} {p5 : Int32} {h : HS} {q : (Int32 × HS)} (H : f_X12_bestOf p1 p2 p3 p4 p5 h = some q) : Nx h q.2 := by
  unfold f_X12_bestOf at H
  replace H := ob H; obtain ⟨q27, c28, H⟩ := H
  have e29 := n_X12_bestOf_6 1000 c28
  obtain rfl := Option.some.inj H
  exact e29
set_option maxHeartbeats 4000000 in
set_option maxRecDepth 20000 in
theorem n_X12_bestAt {p1 : Int32} {p2 : Int32} {h : HS} {q : (Int32 × HS)} (H : f_X12_bestAt p1 p2 h = some q) : Nx h q.2 := by
  unfold f_X12_bestAt at H
  replace H := og H; obtain ⟨g1, H⟩ := H
  replace H := og H; obtain ⟨g2, H⟩ := H
  replace H := og H; obtain ⟨g3, H⟩ := H
  replace H := og H; obtain ⟨g4, H⟩ := H
  replace H := ob H; obtain ⟨q5, c6, H⟩ := H
  have e7 := n_X12_bestOf c6
  obtain rfl := Option.some.inj H
  exact e7
set_option maxHeartbeats 4000000 in
set_option maxRecDepth 20000 in
theorem n_X12_best {p1 : Int32} {p2 : Int32} {p3 : Int32} {h : HS} {q : (Int64 × HS)} (H : f_X12_best p1 p2 p3 h = some q) : Nx h q.2 := by
  unfold f_X12_best at H
  replace H := ob H; obtain ⟨q1, c2, H⟩ := H
  replace H := oi H; obtain ⟨c3, H⟩ | ⟨c3, H⟩ := H
  · replace H := ob H; obtain ⟨q4, c5, H⟩ := H
    replace H := oi H; obtain ⟨c6, H⟩ | ⟨c6, H⟩ := H
    · replace H := ob H; obtain ⟨q7, c8, H⟩ := H
      replace H := oi H; obtain ⟨c9, H⟩ | ⟨c9, H⟩ := H
      · replace H := ob H; obtain ⟨q10, c11, H⟩ := H
        have e12 := n_X12_bestAt c11
        replace H := oi H; obtain ⟨c14, H⟩ | ⟨c14, H⟩ := H
        · obtain rfl := Option.some.inj H
          exact e12
        · replace H := ob H; obtain ⟨q15, c16, H⟩ := H
          replace H := ob H; obtain ⟨q17, c18, H⟩ := H
          obtain rfl := Option.some.inj H
          exact e12
      · obtain rfl := Option.some.inj H
        exact Nx.rf
    · obtain rfl := Option.some.inj H
      exact Nx.rf
  · obtain rfl := Option.some.inj H
    exact Nx.rf
set_option maxHeartbeats 4000000 in
set_option maxRecDepth 20000 in
theorem n_X12_keeps {p1 : Int32} {p2 : Int32} {p3 : Int32} {p4 : Int32} {h : HS} {q : (Int32 × HS)} (H : f_X12_keeps p1 p2 p3 p4 h = some q) : Nx h q.2 := by
  unfold f_X12_keeps at H
  replace H := og H; obtain ⟨g1, H⟩ := H
  replace H := og H; obtain ⟨g2, H⟩ := H
  replace H := og H; obtain ⟨g3, H⟩ := H
  replace H := obh H; obtain ⟨h4, e5, H⟩ := H
  replace H := og H; obtain ⟨g7, H⟩ := H
  replace H := og H; obtain ⟨g8, H⟩ := H
  replace H := og H; obtain ⟨g9, H⟩ := H
  replace H := obh H; obtain ⟨h10, e11, H⟩ := H
  obtain rfl := Option.some.inj H
  exact ((kN e11 (((kN e5 (((Nx.rf.sI).sI).sI)).sI).sI)).sI)
set_option maxHeartbeats 4000000 in
set_option maxRecDepth 20000 in
theorem n_X12_tried {p1 : Int32} {p2 : Int32} {p3 : Int32} {p4 : Int32} {h : HS} {q : (Int32 × HS)} (H : f_X12_tried p1 p2 p3 p4 h = some q) : Nx h q.2 := by
  unfold f_X12_tried at H
  replace H := ob H; obtain ⟨q1, c2, H⟩ := H
  replace H := oi H; obtain ⟨c3, H⟩ | ⟨c3, H⟩ := H
  · replace H := ob H; obtain ⟨q4, c5, H⟩ := H
    replace H := oi H; obtain ⟨c6, H⟩ | ⟨c6, H⟩ := H
    · replace H := ob H; obtain ⟨q7, c8, H⟩ := H
      replace H := oi H; obtain ⟨c9, H⟩ | ⟨c9, H⟩ := H
      · replace H := ob H; obtain ⟨q10, c11, H⟩ := H
        replace H := oi H; obtain ⟨c12, H⟩ | ⟨c12, H⟩ := H
        · replace H := oi H; obtain ⟨c13, H⟩ | ⟨c13, H⟩ := H
          · obtain rfl := Option.some.inj H
            exact Nx.rf
          · replace H := ob H; obtain ⟨q14, c15, H⟩ := H
            replace H := ob H; obtain ⟨q16, c17, H⟩ := H
            replace H := ob H; obtain ⟨q18, c19, H⟩ := H
            have e20 := n_X12_keeps c19
            replace H := og H; obtain ⟨g22, H⟩ := H
            obtain rfl := Option.some.inj H
            exact e20
        · obtain rfl := Option.some.inj H
          exact Nx.rf
      · obtain rfl := Option.some.inj H
        exact Nx.rf
    · obtain rfl := Option.some.inj H
      exact Nx.rf
  · obtain rfl := Option.some.inj H
    exact Nx.rf
set_option maxHeartbeats 4000000 in
set_option maxRecDepth 20000 in
theorem n_X12_shown {p1 : Int32} {p2 : Int32} {p3 : Int32} {p4 : Int32} {h : HS} {q : (Int32 × HS)} (H : f_X12_shown p1 p2 p3 p4 h = some q) : Nx h q.2 := by
  unfold f_X12_shown at H
  replace H := ob H; obtain ⟨q1, c2, H⟩ := H
  replace H := oi H; obtain ⟨c3, H⟩ | ⟨c3, H⟩ := H
  · replace H := ob H; obtain ⟨q4, c5, H⟩ := H
    replace H := oi H; obtain ⟨c6, H⟩ | ⟨c6, H⟩ := H
    · replace H := ob H; obtain ⟨q7, c8, H⟩ := H
      replace H := oi H; obtain ⟨c9, H⟩ | ⟨c9, H⟩ := H
      · replace H := ob H; obtain ⟨q10, c11, H⟩ := H
        replace H := oi H; obtain ⟨c12, H⟩ | ⟨c12, H⟩ := H
        · replace H := oi H; obtain ⟨c13, H⟩ | ⟨c13, H⟩ := H
          · obtain rfl := Option.some.inj H
            exact Nx.rf
          · replace H := ob H; obtain ⟨q14, c15, H⟩ := H
            have e16 := n_X12_keeps c15
            obtain rfl := Option.some.inj H
            exact e16
        · obtain rfl := Option.some.inj H
          exact Nx.rf
      · obtain rfl := Option.some.inj H
        exact Nx.rf
    · obtain rfl := Option.some.inj H
      exact Nx.rf
  · obtain rfl := Option.some.inj H
    exact Nx.rf
set_option maxHeartbeats 4000000 in
set_option maxRecDepth 20000 in
theorem n_X12_leaves_24 {y1 : Int32} {y2 : Int32} : ∀ (n : Nat) {x3 : Int64} {x5 : Int32} {h : HS} {q : (Int64 × HS)}, l_X12_leaves_24 y1 y2 n x3 x5 h = some q → Nx h q.2 := by
  intro n
  induction n with
  | zero => intro x3 x5 h q H; exact nz H
  | succ n ih =>
    intro x3 x5 h q H
    unfold l_X12_leaves_24 at H
    replace H := oi H; obtain ⟨c16, H⟩ | ⟨c16, H⟩ := H
    · obtain rfl := Option.some.inj H
      exact Nx.rf
    · replace H := og H; obtain ⟨g17, H⟩ := H
      replace H := ob H; obtain ⟨q18, c19, H⟩ := H
      replace H := ob H; obtain ⟨q20, c21, H⟩ := H
      have e22 := n_X12_bestAt c21
      replace H := og H; obtain ⟨g24, H⟩ := H
      exact e22.tr (ih H)
set_option maxHeartbeats 4000000 in
set_option maxRecDepth 20000 in
theorem n_X12_leaves {p1 : Int32} {p2 : Int32} {h : HS} {q : (Int64 × HS)} (H : f_X12_leaves p1 p2 h = some q) : Nx h q.2 := by
  unfold f_X12_leaves at H
  replace H := ob H; obtain ⟨q1, c2, H⟩ := H
  replace H := oi H; obtain ⟨c3, H⟩ | ⟨c3, H⟩ := H
  · replace H := ob H; obtain ⟨q4, c5, H⟩ := H
    replace H := oi H; obtain ⟨c6, H⟩ | ⟨c6, H⟩ := H
    · replace H := ob H; obtain ⟨q25, c26, H⟩ := H
      have e27 := n_X12_leaves_24 1000 c26
      replace H := ob H; obtain ⟨q29, c30, H⟩ := H
      replace H := ob H; obtain ⟨q31, c32, H⟩ := H
      obtain rfl := Option.some.inj H
      exact e27
    · obtain rfl := Option.some.inj H
      exact Nx.rf
  · obtain rfl := Option.some.inj H
    exact Nx.rf
set_option maxHeartbeats 4000000 in
set_option maxRecDepth 20000 in
theorem n_X12_feed_33 {y1 : Int32} {y2 : Int64} : ∀ (n : Nat) {x4 : Int32} {h : HS} {q : HS}, l_X12_feed_33 y1 y2 n x4 h = some q → Nx h q := by
  intro n
  induction n with
  | zero => intro x4 h q H; exact nz H
  | succ n ih =>
    intro x4 h q H
    unfold l_X12_feed_33 at H
    replace H := oi H; obtain ⟨c10, H⟩ | ⟨c10, H⟩ := H
    · obtain rfl := Option.some.inj H
      exact Nx.rf
    · replace H := og H; obtain ⟨g11, H⟩ := H
      replace H := obh H; obtain ⟨h12, e13, H⟩ := H
      exact (kN e13 ((Nx.rf.sI).sI)).tr (ih H)
set_option maxHeartbeats 4000000 in
set_option maxRecDepth 20000 in
theorem n_X12_feed {p1 : Int32} {p2 : Int64} {h : HS} {q : (Int32 × HS)} (H : f_X12_feed p1 p2 h = some q) : Nx h q.2 := by
  unfold f_X12_feed at H
  replace H := ob H; obtain ⟨q1, c2, H⟩ := H
  replace H := oi H; obtain ⟨c3, H⟩ | ⟨c3, H⟩ := H
  · replace H := oi H; obtain ⟨c4, H⟩ | ⟨c4, H⟩ := H
    · replace H := ob H; obtain ⟨q15, c16, H⟩ := H
      have e17 := n_X12_feed_33 1000 c16
      obtain rfl := Option.some.inj H
      exact e17
    · obtain rfl := Option.some.inj H
      exact Nx.rf
  · obtain rfl := Option.some.inj H
    exact Nx.rf
set_option maxHeartbeats 4000000 in
set_option maxRecDepth 20000 in
theorem n_X12_text_14  : ∀ (n : Nat) {x1 : Int32} {h : HS} {q : HS}, l_X12_text_14  n x1 h = some q → Nx h q := by
  intro n
  induction n with
  | zero => intro x1 h q H; exact nz H
  | succ n ih =>
    intro x1 h q H
    unfold l_X12_text_14 at H
    replace H := oi H; obtain ⟨c5, H⟩ | ⟨c5, H⟩ := H
    · obtain rfl := Option.some.inj H
      exact Nx.rf
    · replace H := og H; obtain ⟨g6, H⟩ := H
      replace H := og H; obtain ⟨g7, H⟩ := H
      exact (Nx.rf.sI).tr (ih H)
set_option maxHeartbeats 4000000 in
set_option maxRecDepth 20000 in
theorem n_X12_text  {h : HS} {q : (Int32 × HS)} (H : f_X12_text h = some q) : Nx h q.2 := by
  unfold f_X12_text at H
  replace H := oi H; obtain ⟨c1, H⟩ | ⟨c1, H⟩ := H
  · obtain rfl := Option.some.inj H
    exact Nx.rf
  · replace H := ob H; obtain ⟨q8, c9, H⟩ := H
    have e10 := n_X12_text_14 1000 c9
    replace H := og H; obtain ⟨g12, H⟩ := H
    replace H := ob H; obtain ⟨q13, c14, H⟩ := H
    have e15 := n_X12_read c14
    replace H := oi H; obtain ⟨c17, H⟩ | ⟨c17, H⟩ := H
    · obtain rfl := Option.some.inj H
      exact ((((e10.sI).sI).tr e15).sI)
    · obtain rfl := Option.some.inj H
      exact (((e10.sI).sI).tr e15)
set_option maxHeartbeats 4000000 in
set_option maxRecDepth 20000 in
theorem n_X12_force {p1 : Int32} {h : HS} {q : (Int32 × HS)} (H : f_X12_force p1 h = some q) : Nx h q.2 := by
  unfold f_X12_force at H
  replace H := ob H; obtain ⟨q1, c2, H⟩ := H
  replace H := oi H; obtain ⟨c3, H⟩ | ⟨c3, H⟩ := H
  · obtain rfl := Option.some.inj H
    exact (Nx.rf.sI)
  · obtain rfl := Option.some.inj H
    exact Nx.rf
set_option maxHeartbeats 4000000 in
set_option maxRecDepth 20000 in
theorem n_X12_says {p1 : Int32} {p2 : Int32} {p3 : Int32} {p4 : Int32} {p5 : Int32} {h : HS} {q : (Int64 × HS)} (H : f_X12_says p1 p2 p3 p4 p5 h = some q) : Nx h q.2 := by
  unfold f_X12_says at H
  replace H := ob H; obtain ⟨q1, c2, H⟩ := H
  replace H := oi H; obtain ⟨c3, H⟩ | ⟨c3, H⟩ := H
  · replace H := ob H; obtain ⟨q4, c5, H⟩ := H
    replace H := oi H; obtain ⟨c6, H⟩ | ⟨c6, H⟩ := H
    · replace H := ob H; obtain ⟨q7, c8, H⟩ := H
      replace H := oi H; obtain ⟨c9, H⟩ | ⟨c9, H⟩ := H
      · replace H := ob H; obtain ⟨q10, c11, H⟩ := H
        replace H := oi H; obtain ⟨c12, H⟩ | ⟨c12, H⟩ := H
        · replace H := ob H; obtain ⟨q13, c14, H⟩ := H
          replace H := oi H; obtain ⟨c15, H⟩ | ⟨c15, H⟩ := H
          · replace H := ob H; obtain ⟨q16, c17, H⟩ := H
            replace H := ob H; obtain ⟨q19, c21, H⟩ := H
            replace H := ob H; obtain ⟨q23, c25, H⟩ := H
            replace H := ob H; obtain ⟨q26, c27, H⟩ := H
            have e28 := n_X12_read c27
            obtain rfl := Option.some.inj H
            exact e28
          · obtain rfl := Option.some.inj H
            exact Nx.rf
        · obtain rfl := Option.some.inj H
          exact Nx.rf
      · obtain rfl := Option.some.inj H
        exact Nx.rf
    · obtain rfl := Option.some.inj H
      exact Nx.rf
  · obtain rfl := Option.some.inj H
    exact Nx.rf
set_option maxHeartbeats 4000000 in
set_option maxRecDepth 20000 in
theorem n_X12_plays_32 {y1 : Int32} {y2 : Int32} {y3 : Int32} {y6 : Int32} {y7 : Int32} : ∀ (n : Nat) {x8 : Int64} {h : HS} {q : HS}, l_X12_plays_32 y1 y2 y3 y6 y7 n x8 h = some q → Nx h q := by
  intro n
  induction n with
  | zero => intro x8 h q H; exact nz H
  | succ n ih =>
    intro x8 h q H
    unfold l_X12_plays_32 at H
    replace H := og H; obtain ⟨g28, H⟩ := H
    replace H := oi H; obtain ⟨c29, H⟩ | ⟨c29, H⟩ := H
    · obtain rfl := Option.some.inj H
      exact Nx.rf
    · replace H := oi H; obtain ⟨c30, H⟩ | ⟨c30, H⟩ := H
      · obtain rfl := Option.some.inj H
        exact Nx.rf
      · replace H := ob H; obtain ⟨q31, c32, H⟩ := H
        have e33 := n_X12_read c32
        replace H := oi H; obtain ⟨c35, H⟩ | ⟨c35, H⟩ := H
        · obtain rfl := Option.some.inj H
          exact e33
        · replace H := ob H; obtain ⟨q36, c37, H⟩ := H
          replace H := ob H; obtain ⟨q38, c39, H⟩ := H
          replace H := oi H; obtain ⟨c40, H⟩ | ⟨c40, H⟩ := H
          · replace H := og H; obtain ⟨g41, H⟩ := H
            replace H := obh H; obtain ⟨h42, e43, H⟩ := H
            exact (kN e43 (((e33.sI).sI).sI)).tr (ih H)
          · replace H := ob H; obtain ⟨q46, c48, H⟩ := H
            replace H := og H; obtain ⟨g49, H⟩ := H
            replace H := obh H; obtain ⟨h50, e51, H⟩ := H
            exact (kN e51 (((e33.sI).sI).sI)).tr (ih H)
set_option maxHeartbeats 4000000 in
set_option maxRecDepth 20000 in
theorem n_X12_plays {p1 : Int32} {p2 : Int32} {p3 : Int32} {p4 : Int32} {p5 : Int32} {p6 : Int32} {h : HS} {q : HS} (H : f_X12_plays p1 p2 p3 p4 p5 p6 h = some q) : Nx h q := by
  unfold f_X12_plays at H
  replace H := ob H; obtain ⟨q1, c2, H⟩ := H
  replace H := ob H; obtain ⟨q53, c54, H⟩ := H
  have e55 := n_X12_plays_32 1000 c54
  obtain rfl := Option.some.inj H
  exact ((((Nx.rf.sI).sI).sI).tr e55)
set_option maxHeartbeats 4000000 in
set_option maxRecDepth 20000 in
theorem n_X12_player {p1 : Int32} {p2 : Int32} {p3 : Int32} {p4 : Int32} {p5 : Int32} {h : HS} {q : (Int64 × HS)} (H : f_X12_player p1 p2 p3 p4 p5 h = some q) : Nx h q.2 := by
  unfold f_X12_player at H
  replace H := ob H; obtain ⟨q1, c2, H⟩ := H
  replace H := oi H; obtain ⟨c3, H⟩ | ⟨c3, H⟩ := H
  · replace H := oi H; obtain ⟨c4, H⟩ | ⟨c4, H⟩ := H
    · obtain rfl := Option.some.inj H
      exact Nx.rf
    · replace H := oi H; obtain ⟨c5, H⟩ | ⟨c5, H⟩ := H
      · obtain rfl := Option.some.inj H
        exact Nx.rf
      · replace H := oi H; obtain ⟨c6, H⟩ | ⟨c6, H⟩ := H
        · replace H := ob H; obtain ⟨q7, c8, H⟩ := H
          have e9 := n_X12_plays c8
          replace H := oi H; obtain ⟨k11, H⟩ | ⟨k11, H⟩ := H
          · obtain rfl := Option.some.inj H
            exact e9
          · replace H := oi H; obtain ⟨k12, H⟩ | ⟨k12, H⟩ := H
            · obtain rfl := Option.some.inj H
              exact e9
            · replace H := oi H; obtain ⟨k13, H⟩ | ⟨k13, H⟩ := H
              · obtain rfl := Option.some.inj H
                exact e9
              · replace H := og H; obtain ⟨g14, H⟩ := H
                replace H := og H; obtain ⟨g15, H⟩ := H
                obtain rfl := Option.some.inj H
                exact e9
        · obtain rfl := Option.some.inj H
          exact Nx.rf
  · obtain rfl := Option.some.inj H
    exact Nx.rf
set_option maxHeartbeats 4000000 in
set_option maxRecDepth 20000 in
theorem n_X12_most_37 {y1 : Int32} {y2 : Int32} {y3 : Int32} {y4 : Int32} {y5 : Int32} : ∀ (n : Nat) {x6 : Int32} {x7 : Int32} {x8 : Int32} {h : HS} {q : (Int32 × HS)}, l_X12_most_37 y1 y2 y3 y4 y5 n x6 x7 x8 h = some q → Nx h q.2 := by
  intro n
  induction n with
  | zero => intro x6 x7 x8 h q H; exact nz H
  | succ n ih =>
    intro x6 x7 x8 h q H
    unfold l_X12_most_37 at H
    replace H := oi H; obtain ⟨c16, H⟩ | ⟨c16, H⟩ := H
    · obtain rfl := Option.some.inj H
      exact Nx.rf
    · replace H := ob H; obtain ⟨q17, c18, H⟩ := H
      replace H := oi H; obtain ⟨c19, H⟩ | ⟨c19, H⟩ := H
      · replace H := ob H; obtain ⟨q20, c21, H⟩ := H
        have e22 := n_X12_plays c21
        replace H := oi H; obtain ⟨c24, H⟩ | ⟨c24, H⟩ := H
        · exact e22.tr (ih H)
        · exact e22.tr (ih H)
      · exact id (ih H)
set_option maxHeartbeats 4000000 in
set_option maxRecDepth 20000 in
theorem n_X12_most {p1 : Int32} {p2 : Int32} {p3 : Int32} {p4 : Int32} {p5 : Int32} {h : HS} {q : (Int32 × HS)} (H : f_X12_most p1 p2 p3 p4 p5 h = some q) : Nx h q.2 := by
  unfold f_X12_most at H
  replace H := ob H; obtain ⟨q1, c2, H⟩ := H
  replace H := oi H; obtain ⟨c3, H⟩ | ⟨c3, H⟩ := H
  · replace H := ob H; obtain ⟨q4, c5, H⟩ := H
    replace H := oi H; obtain ⟨c6, H⟩ | ⟨c6, H⟩ := H
    · replace H := ob H; obtain ⟨q25, c26, H⟩ := H
      have e27 := n_X12_most_37 1000 c26
      obtain rfl := Option.some.inj H
      exact e27
    · obtain rfl := Option.some.inj H
      exact Nx.rf
  · obtain rfl := Option.some.inj H
    exact Nx.rf
set_option maxHeartbeats 4000000 in
set_option maxRecDepth 20000 in
theorem n_X12_test_32 {y1 : Int32} {y2 : Int32} {h : HS} : ∀ (n : Nat) {x3 : Int32} {x4 : Int32} {q : ((Int32 × HS) ⊕ Unit)}, l_X12_test_32 y1 y2 h n x3 x4 = some q → Nx h (Sum.elim (fun v => v.2) (fun e => h) q) := by
  intro n
  induction n with
  | zero => intro x3 x4 q H; exact nz H
  | succ n ih =>
    intro x3 x4 q H
    unfold l_X12_test_32 at H
    replace H := oi H; obtain ⟨c9, H⟩ | ⟨c9, H⟩ := H
    · obtain rfl := Option.some.inj H
      exact Nx.rf
    · replace H := oi H; obtain ⟨c10, H⟩ | ⟨c10, H⟩ := H
      · exact id (ih H)
      · obtain rfl := Option.some.inj H
        exact Nx.rf
set_option maxHeartbeats 4000000 in
set_option maxRecDepth 20000 in
theorem n_X12_test_88  : ∀ (n : Nat) {x3 : Int32} {x4 : Int32} {h : HS} {q : HS}, l_X12_test_88  n x3 x4 h = some q → Nx h q := by
  intro n
  induction n with
  | zero => intro x3 x4 h q H; exact nz H
  | succ n ih =>
    intro x3 x4 h q H
    unfold l_X12_test_88 at H
    replace H := oi H; obtain ⟨c18, H⟩ | ⟨c18, H⟩ := H
    · obtain rfl := Option.some.inj H
      exact Nx.rf
    · replace H := og H; obtain ⟨g19, H⟩ := H
      exact (Nx.rf.sI).tr (ih H)
set_option maxHeartbeats 4000000 in
set_option maxRecDepth 20000 in
theorem n_X12_test {p1 : Int32} {p2 : Int32} {h : HS} {q : (Int32 × HS)} (H : f_X12_test p1 p2 h = some q) : Nx h q.2 := by
  unfold f_X12_test at H
  replace H := ob H; obtain ⟨q1, c2, H⟩ := H
  replace H := oi H; obtain ⟨c3, H⟩ | ⟨c3, H⟩ := H
  · replace H := ob H; obtain ⟨q4, c5, H⟩ := H
    replace H := oi H; obtain ⟨c6, H⟩ | ⟨c6, H⟩ := H
    · replace H := ob H; obtain ⟨q11, c12, H⟩ := H
      rcases q11 with v24 | e13
      · replace H := oSl H; obtain rfl := Option.some.inj H
        exact n_X12_test_32 1000 c12
      · replace H := oSr H
        replace H := oi H; obtain ⟨c14, H⟩ | ⟨c14, H⟩ := H
        · obtain rfl := Option.some.inj H
          exact Nx.rf
        · replace H := og H; obtain ⟨g15, H⟩ := H
          replace H := ob H; obtain ⟨q20, c21, H⟩ := H
          have e22 := n_X12_test_88 1000 c21
          obtain rfl := Option.some.inj H
          exact (((Nx.rf.sI).tr e22).sI)
    · obtain rfl := Option.some.inj H
      exact Nx.rf
  · obtain rfl := Option.some.inj H
    exact Nx.rf
set_option maxHeartbeats 4000000 in
set_option maxRecDepth 20000 in
theorem n_X12_year_29 {y1 : Int32} {y2 : Int32} : ∀ (n : Nat) {x3 : Int32} {h : HS} {q : HS}, l_X12_year_29 y1 y2 n x3 h = some q → Nx h q := by
  intro n
  induction n with
  | zero => intro x3 h q H; exact nz H
  | succ n ih =>
    intro x3 h q H
    unfold l_X12_year_29 at H
    replace H := oi H; obtain ⟨c13, H⟩ | ⟨c13, H⟩ := H
    · obtain rfl := Option.some.inj H
      exact Nx.rf
    · replace H := ob H; obtain ⟨q14, c15, H⟩ := H
      have e16 := n_X12_hoursOf c15
      replace H := og H; obtain ⟨g18, H⟩ := H
      exact (e16.sI).tr (ih H)
set_option maxHeartbeats 4000000 in
set_option maxRecDepth 20000 in
theorem n_X12_year {p1 : Int32} {p2 : Int32} {h : HS} {q : (Int32 × HS)} (H : f_X12_year p1 p2 h = some q) : Nx h q.2 := by
  unfold f_X12_year at H
  replace H := ob H; obtain ⟨q1, c2, H⟩ := H
  replace H := oi H; obtain ⟨c3, H⟩ | ⟨c3, H⟩ := H
  · replace H := ob H; obtain ⟨q4, c5, H⟩ := H
    replace H := oi H; obtain ⟨c6, H⟩ | ⟨c6, H⟩ := H
    · replace H := ob H; obtain ⟨q19, c20, H⟩ := H
      have e21 := n_X12_year_29 1000 c20
      replace H := ob H; obtain ⟨q73, c74, H⟩ := H
      replace H := oi H; obtain ⟨c75, H⟩ | ⟨c75, H⟩ := H
      · obtain rfl := Option.some.inj H
        exact e21
      · replace H := oi H; obtain ⟨c76, H⟩ | ⟨c76, H⟩ := H
        · obtain rfl := Option.some.inj H
          exact e21
        · obtain rfl := Option.some.inj H
          exact e21
    · obtain rfl := Option.some.inj H
      exact Nx.rf
  · obtain rfl := Option.some.inj H
    exact Nx.rf
set_option maxHeartbeats 4000000 in
set_option maxRecDepth 20000 in
theorem n_X12_make_79 {y1 : Int32} {y2 : Int32} {y3 : Int32} {y4 : Int32} {y5 : Int32} {y6 : Int32} : ∀ (n : Nat) {x7 : Int32} {x8 : Int32} {x9 : Int32} {h : HS} {q : (Int32 × HS)}, l_X12_make_79 y1 y2 y3 y4 y5 y6 n x7 x8 x9 h = some q → Nx h q.2 := by
  intro n
  induction n with
  | zero => intro x7 x8 x9 h q H; exact nz H
  | succ n ih =>
    intro x7 x8 x9 h q H
    unfold l_X12_make_79 at H
    replace H := oi H; obtain ⟨c35, H⟩ | ⟨c35, H⟩ := H
    · obtain rfl := Option.some.inj H
      exact Nx.rf
    · replace H := ob H; obtain ⟨q36, c37, H⟩ := H
      have e38 := n_X12_bestOf c37
      replace H := og H; obtain ⟨g40, H⟩ := H
      replace H := oi H; obtain ⟨c41, H⟩ | ⟨c41, H⟩ := H
      · replace H := ob H; obtain ⟨q50, c51, H⟩ := H
        exact e38.tr (ih H)
      · exact e38.tr (ih H)
set_option maxHeartbeats 4000000 in
set_option maxRecDepth 20000 in
theorem n_X12_make {p1 : Int32} {p2 : Int32} {p3 : Int32} {p4 : Int32} {p5 : Int32} {h : HS} {q : (Int32 × HS)} (H : f_X12_make p1 p2 p3 p4 p5 h = some q) : Nx h q.2 := by
  unfold f_X12_make at H
  replace H := ob H; obtain ⟨q1, c2, H⟩ := H
  replace H := oi H; obtain ⟨c3, H⟩ | ⟨c3, H⟩ := H
  · replace H := ob H; obtain ⟨q4, c5, H⟩ := H
    replace H := oi H; obtain ⟨c6, H⟩ | ⟨c6, H⟩ := H
    · replace H := ob H; obtain ⟨q7, c8, H⟩ := H
      replace H := oi H; obtain ⟨c9, H⟩ | ⟨c9, H⟩ := H
      · replace H := ob H; obtain ⟨q10, c11, H⟩ := H
        replace H := oi H; obtain ⟨c12, H⟩ | ⟨c12, H⟩ := H
        · replace H := ob H; obtain ⟨q13, c14, H⟩ := H
          replace H := oi H; obtain ⟨c15, H⟩ | ⟨c15, H⟩ := H
          · replace H := ob H; obtain ⟨q16, c17, H⟩ := H
            replace H := ob H; obtain ⟨q52, c53, H⟩ := H
            have e54 := n_X12_make_79 1000 c53
            obtain rfl := Option.some.inj H
            exact e54
          · obtain rfl := Option.some.inj H
            exact Nx.rf
        · obtain rfl := Option.some.inj H
          exact Nx.rf
      · obtain rfl := Option.some.inj H
        exact Nx.rf
    · obtain rfl := Option.some.inj H
      exact Nx.rf
  · obtain rfl := Option.some.inj H
    exact Nx.rf
set_option maxHeartbeats 4000000 in
set_option maxRecDepth 20000 in
theorem n_X12_goes_23 {y1 : Int32} {y2 : Int32} {y3 : Int32} {y4 : Int32} {y5 : Int32} : ∀ (n : Nat) {x6 : Int32} {h : HS} {q : HS}, l_X12_goes_23 y1 y2 y3 y4 y5 n x6 h = some q → Nx h q := by
  intro n
  induction n with
  | zero => intro x6 h q H; exact nz H
  | succ n ih =>
    intro x6 h q H
    unfold l_X12_goes_23 at H
    replace H := oi H; obtain ⟨c48, H⟩ | ⟨c48, H⟩ := H
    · obtain rfl := Option.some.inj H
      exact Nx.rf
    · replace H := og H; obtain ⟨g49, H⟩ := H
      replace H := oi H; obtain ⟨c50, H⟩ | ⟨c50, H⟩ := H
      · replace H := og H; obtain ⟨g51, H⟩ := H
        replace H := og H; obtain ⟨g52, H⟩ := H
        replace H := ob H; obtain ⟨q53, c54, H⟩ := H
        replace H := og H; obtain ⟨g55, H⟩ := H
        replace H := oi H; obtain ⟨c56, H⟩ | ⟨c56, H⟩ := H
        · replace H := og H; obtain ⟨g57, H⟩ := H
          replace H := og H; obtain ⟨g58, H⟩ := H
          exact (Nx.rf.sI).tr (ih H)
        · replace H := og H; obtain ⟨g59, H⟩ := H
          exact (Nx.rf.sI).tr (ih H)
      · exact id (ih H)
set_option maxHeartbeats 4000000 in
set_option maxRecDepth 20000 in
theorem n_X12_goes_6 {y1 : Int32} {y2 : Int32} {y3 : Int32} : ∀ (n : Nat) {x4 : Int32} {x5 : Int32} {h : HS} {q : (Int32 × HS)}, l_X12_goes_6 y1 y2 y3 n x4 x5 h = some q → Nx h q.2 := by
  intro n
  induction n with
  | zero => intro x4 x5 h q H; exact nz H
  | succ n ih =>
    intro x4 x5 h q H
    unfold l_X12_goes_6 at H
    replace H := oi H; obtain ⟨c34, H⟩ | ⟨c34, H⟩ := H
    · obtain rfl := Option.some.inj H
      exact Nx.rf
    · replace H := og H; obtain ⟨g35, H⟩ := H
      replace H := ob H; obtain ⟨q60, c61, H⟩ := H
      have e62 := n_X12_goes_23 1000 c61
      replace H := og H; obtain ⟨g64, H⟩ := H
      replace H := oi H; obtain ⟨c65, H⟩ | ⟨c65, H⟩ := H
      · exact ((Nx.rf.sI).tr e62).tr (ih H)
      · replace H := og H; obtain ⟨g66, H⟩ := H
        exact ((Nx.rf.sI).tr e62).tr (ih H)
set_option maxHeartbeats 4000000 in
set_option maxRecDepth 20000 in
theorem n_X12_goes {p1 : Int32} {p2 : Int32} {p3 : Int32} {h : HS} {q : (Int32 × HS)} (H : f_X12_goes p1 p2 p3 h = some q) : Nx h q.2 := by
  unfold f_X12_goes at H
  replace H := ob H; obtain ⟨q67, c68, H⟩ := H
  have e69 := n_X12_goes_6 1000 c68
  obtain rfl := Option.some.inj H
  exact e69
set_option maxHeartbeats 4000000 in
set_option maxRecDepth 20000 in
theorem n_X12_walk_33 {y1 : Int32} {y2 : Int32} {y3 : Int32} : ∀ (n : Nat) {x4 : Int32} {h : HS} {q : HS}, l_X12_walk_33 y1 y2 y3 n x4 h = some q → Nx h q := by
  intro n
  induction n with
  | zero => intro x4 h q H; exact nz H
  | succ n ih =>
    intro x4 h q H
    unfold l_X12_walk_33 at H
    replace H := oi H; obtain ⟨c16, H⟩ | ⟨c16, H⟩ := H
    · obtain rfl := Option.some.inj H
      exact Nx.rf
    · replace H := ob H; obtain ⟨q17, c18, H⟩ := H
      have e19 := n_X12_bestAt c18
      replace H := og H; obtain ⟨g21, H⟩ := H
      exact (e19.sI).tr (ih H)
set_option maxHeartbeats 4000000 in
set_option maxRecDepth 20000 in
theorem n_X12_walk_91 {y2 : Int32} {y4 : Int32} {y5 : Int32} : ∀ (n : Nat) {x6 : Int32} {h : HS} {q : ((Int32 × HS) ⊕ HS)}, l_X12_walk_91 y2 y4 y5 n x6 h = some q → Nx h (Sum.elim (fun v => v.2) (fun e => e) q) := by
  intro n
  induction n with
  | zero => intro x6 h q H; exact nz H
  | succ n ih =>
    intro x6 h q H
    unfold l_X12_walk_91 at H
    replace H := oi H; obtain ⟨c45, H⟩ | ⟨c45, H⟩ := H
    · obtain rfl := Option.some.inj H
      exact Nx.rf
    · replace H := oi H; obtain ⟨c46, H⟩ | ⟨c46, H⟩ := H
      · obtain rfl := Option.some.inj H
        exact Nx.rf
      · replace H := og H; obtain ⟨g47, H⟩ := H
        replace H := oi H; obtain ⟨c48, H⟩ | ⟨c48, H⟩ := H
        · exact id (ih H)
        · replace H := ob H; obtain ⟨q49, c50, H⟩ := H
          replace H := og H; obtain ⟨g51, H⟩ := H
          replace H := ob H; obtain ⟨q52, c53, H⟩ := H
          have e54 := n_X12_goes c53
          replace H := oi H; obtain ⟨c56, H⟩ | ⟨c56, H⟩ := H
          · obtain rfl := Option.some.inj H
            exact e54
          · exact e54.tr (ih H)
set_option maxHeartbeats 4000000 in
set_option maxRecDepth 20000 in
theorem n_X12_walk {p1 : Int32} {p2 : Int32} {p3 : Int32} {h : HS} {q : (Int32 × HS)} (H : f_X12_walk p1 p2 p3 h = some q) : Nx h q.2 := by
  unfold f_X12_walk at H
  replace H := ob H; obtain ⟨q1, c2, H⟩ := H
  replace H := oi H; obtain ⟨c3, H⟩ | ⟨c3, H⟩ := H
  · replace H := ob H; obtain ⟨q4, c5, H⟩ := H
    replace H := oi H; obtain ⟨c6, H⟩ | ⟨c6, H⟩ := H
    · replace H := ob H; obtain ⟨q7, c8, H⟩ := H
      replace H := oi H; obtain ⟨c9, H⟩ | ⟨c9, H⟩ := H
      · replace H := ob H; obtain ⟨q22, c23, H⟩ := H
        have e24 := n_X12_walk_33 1000 c23
        replace H := ob H; obtain ⟨q26, c27, H⟩ := H
        replace H := ob H; obtain ⟨q28, c29, H⟩ := H
        have e30 := n_X12_goes c29
        replace H := oi H; obtain ⟨c32, H⟩ | ⟨c32, H⟩ := H
        · obtain rfl := Option.some.inj H
          exact (e24.tr e30)
        · replace H := ob H; obtain ⟨q57, c58, H⟩ := H
          rcases q57 with v62 | e59
          · replace H := oSl H; obtain rfl := Option.some.inj H
            exact ((e24.tr e30).tr (n_X12_walk_91 1000 c58))
          · replace H := oSr H
            have e60 : Nx q28.2 e59 := n_X12_walk_91 1000 c58
            obtain rfl := Option.some.inj H
            exact ((e24.tr e30).tr e60)
      · obtain rfl := Option.some.inj H
        exact Nx.rf
    · obtain rfl := Option.some.inj H
      exact Nx.rf
  · obtain rfl := Option.some.inj H
    exact Nx.rf
set_option maxHeartbeats 4000000 in
set_option maxRecDepth 20000 in
theorem n_X12_image_31  : ∀ (n : Nat) {x1 : Int32} {h : HS} {q : HS}, l_X12_image_31  n x1 h = some q → Nx h q := by
  intro n
  induction n with
  | zero => intro x1 h q H; exact nz H
  | succ n ih =>
    intro x1 h q H
    unfold l_X12_image_31 at H
    replace H := oi H; obtain ⟨c19, H⟩ | ⟨c19, H⟩ := H
    · obtain rfl := Option.some.inj H
      exact Nx.rf
    · replace H := og H; obtain ⟨g20, H⟩ := H
      replace H := og H; obtain ⟨g21, H⟩ := H
      replace H := og H; obtain ⟨g22, H⟩ := H
      replace H := og H; obtain ⟨g23, H⟩ := H
      replace H := obh H; obtain ⟨h24, e25, H⟩ := H
      replace H := og H; obtain ⟨g27, H⟩ := H
      replace H := og H; obtain ⟨g28, H⟩ := H
      replace H := og H; obtain ⟨g29, H⟩ := H
      replace H := og H; obtain ⟨g30, H⟩ := H
      replace H := obh H; obtain ⟨h31, e32, H⟩ := H
      exact (kN e32 (((kN e25 ((Nx.rf.sI).sI)).sI).sI)).tr (ih H)
set_option maxHeartbeats 4000000 in
set_option maxRecDepth 20000 in
theorem n_X12_image  {h : HS} {q : (Int32 × HS)} (H : f_X12_image h = some q) : Nx h q.2 := by
  unfold f_X12_image at H
  replace H := obh H; obtain ⟨h1, e2, H⟩ := H
  replace H := ob H; obtain ⟨q34, c35, H⟩ := H
  have e36 := n_X12_image_31 1000 c35
  obtain rfl := Option.some.inj H
  exact (((kN e2 (((Nx.rf.sI).sI).sI)).sI).tr e36)
set_option maxHeartbeats 4000000 in
set_option maxRecDepth 20000 in
theorem n_X12_back_28  : ∀ (n : Nat) {x1 : Int32} {h : HS} {q : HS}, l_X12_back_28  n x1 h = some q → Nx h q := by
  intro n
  induction n with
  | zero => intro x1 h q H; exact nz H
  | succ n ih =>
    intro x1 h q H
    unfold l_X12_back_28 at H
    replace H := oi H; obtain ⟨c17, H⟩ | ⟨c17, H⟩ := H
    · obtain rfl := Option.some.inj H
      exact Nx.rf
    · replace H := og H; obtain ⟨g18, H⟩ := H
      replace H := og H; obtain ⟨g19, H⟩ := H
      replace H := og H; obtain ⟨g20, H⟩ := H
      replace H := og H; obtain ⟨g21, H⟩ := H
      replace H := obh H; obtain ⟨h22, e23, H⟩ := H
      replace H := og H; obtain ⟨g25, H⟩ := H
      replace H := og H; obtain ⟨g26, H⟩ := H
      replace H := og H; obtain ⟨g27, H⟩ := H
      replace H := og H; obtain ⟨g28, H⟩ := H
      replace H := obh H; obtain ⟨h29, e30, H⟩ := H
      exact (kN e30 (((kN e23 ((Nx.rf.sI).sI)).sI).sI)).tr (ih H)
set_option maxHeartbeats 4000000 in
set_option maxRecDepth 20000 in
theorem n_X12_back  {h : HS} {q : (Int32 × HS)} (H : f_X12_back h = some q) : Nx h q.2 := by
  unfold f_X12_back at H
  replace H := oi H; obtain ⟨c1, H⟩ | ⟨c1, H⟩ := H
  · obtain rfl := Option.some.inj H
    exact Nx.rf
  · replace H := ob H; obtain ⟨q32, c33, H⟩ := H
    have e34 := n_X12_back_28 1000 c33
    obtain rfl := Option.some.inj H
    exact (((Nx.rf.sI).sI).tr e34)
set_option maxHeartbeats 4000000 in
set_option maxRecDepth 20000 in
theorem n_X12_sheet_77 {y1 : Int32} {y2 : Int32} {y3 : Int32} : ∀ (n : Nat) {x4 : Int32} {h : HS} {q : HS}, l_X12_sheet_77 y1 y2 y3 n x4 h = some q → Nx h q := by
  intro n
  induction n with
  | zero => intro x4 h q H; exact nz H
  | succ n ih =>
    intro x4 h q H
    unfold l_X12_sheet_77 at H
    replace H := oi H; obtain ⟨c20, H⟩ | ⟨c20, H⟩ := H
    · obtain rfl := Option.some.inj H
      exact Nx.rf
    · replace H := oi H; obtain ⟨c21, H⟩ | ⟨c21, H⟩ := H
      · obtain rfl := Option.some.inj H
        exact Nx.rf
      · replace H := og H; obtain ⟨g22, H⟩ := H
        exact (Nx.rf.sI).tr (ih H)
set_option maxHeartbeats 4000000 in
set_option maxRecDepth 20000 in
theorem n_X12_sheet {p1 : Int32} {p2 : Int32} {p3 : Int32} {h : HS} {q : (Int32 × HS)} (H : f_X12_sheet p1 p2 p3 h = some q) : Nx h q.2 := by
  unfold f_X12_sheet at H
  replace H := ob H; obtain ⟨q1, c2, H⟩ := H
  replace H := oi H; obtain ⟨c3, H⟩ | ⟨c3, H⟩ := H
  · replace H := ob H; obtain ⟨q4, c5, H⟩ := H
    replace H := oi H; obtain ⟨c6, H⟩ | ⟨c6, H⟩ := H
    · replace H := oi H; obtain ⟨c7, H⟩ | ⟨c7, H⟩ := H
      · replace H := oi H; obtain ⟨c8, H⟩ | ⟨c8, H⟩ := H
        · replace H := ob H; obtain ⟨q10, c12, H⟩ := H
          replace H := og H; obtain ⟨g13, H⟩ := H
          replace H := og H; obtain ⟨g14, H⟩ := H
          replace H := og H; obtain ⟨g15, H⟩ := H
          replace H := og H; obtain ⟨g16, H⟩ := H
          replace H := ob H; obtain ⟨q23, c24, H⟩ := H
          have e25 := n_X12_sheet_77 1000 c24
          obtain rfl := Option.some.inj H
          exact ((((Nx.rf.sI).sI).sI).tr e25)
        · replace H := oi H; obtain ⟨c27, H⟩ | ⟨c27, H⟩ := H
          · replace H := ob H; obtain ⟨q29, c31, H⟩ := H
            replace H := og H; obtain ⟨g32, H⟩ := H
            replace H := og H; obtain ⟨g33, H⟩ := H
            replace H := og H; obtain ⟨g34, H⟩ := H
            replace H := og H; obtain ⟨g35, H⟩ := H
            replace H := ob H; obtain ⟨q36, c37, H⟩ := H
            have e38 := n_X12_sheet_77 1000 c37
            obtain rfl := Option.some.inj H
            exact ((((Nx.rf.sI).sI).sI).tr e38)
          · obtain rfl := Option.some.inj H
            exact Nx.rf
      · replace H := oi H; obtain ⟨c40, H⟩ | ⟨c40, H⟩ := H
        · replace H := oi H; obtain ⟨c41, H⟩ | ⟨c41, H⟩ := H
          · replace H := ob H; obtain ⟨q43, c45, H⟩ := H
            replace H := og H; obtain ⟨g46, H⟩ := H
            replace H := og H; obtain ⟨g47, H⟩ := H
            replace H := og H; obtain ⟨g48, H⟩ := H
            replace H := og H; obtain ⟨g49, H⟩ := H
            replace H := ob H; obtain ⟨q50, c51, H⟩ := H
            have e52 := n_X12_sheet_77 1000 c51
            obtain rfl := Option.some.inj H
            exact ((((Nx.rf.sI).sI).sI).tr e52)
          · replace H := oi H; obtain ⟨c54, H⟩ | ⟨c54, H⟩ := H
            · replace H := ob H; obtain ⟨q56, c58, H⟩ := H
              replace H := og H; obtain ⟨g59, H⟩ := H
              replace H := og H; obtain ⟨g60, H⟩ := H
              replace H := og H; obtain ⟨g61, H⟩ := H
              replace H := og H; obtain ⟨g62, H⟩ := H
              replace H := ob H; obtain ⟨q63, c64, H⟩ := H
              have e65 := n_X12_sheet_77 1000 c64
              obtain rfl := Option.some.inj H
              exact ((((Nx.rf.sI).sI).sI).tr e65)
            · obtain rfl := Option.some.inj H
              exact Nx.rf
        · obtain rfl := Option.some.inj H
          exact Nx.rf
    · obtain rfl := Option.some.inj H
      exact Nx.rf
  · obtain rfl := Option.some.inj H
    exact Nx.rf
set_option maxHeartbeats 4000000 in
set_option maxRecDepth 20000 in
theorem n_X12_cell {p1 : Int32} {p2 : Int32} {p3 : Int32} {h : HS} {q : (Int32 × HS)} (H : f_X12_cell p1 p2 p3 h = some q) : Nx h q.2 := by
  unfold f_X12_cell at H
  replace H := ob H; obtain ⟨q1, c2, H⟩ := H
  replace H := oi H; obtain ⟨c3, H⟩ | ⟨c3, H⟩ := H
  · replace H := og H; obtain ⟨g4, H⟩ := H
    replace H := oi H; obtain ⟨c5, H⟩ | ⟨c5, H⟩ := H
    · obtain rfl := Option.some.inj H
      exact Nx.rf
    · replace H := og H; obtain ⟨g6, H⟩ := H
      replace H := ob H; obtain ⟨q7, c8, H⟩ := H
      replace H := oi H; obtain ⟨c9, H⟩ | ⟨c9, H⟩ := H
      · replace H := og H; obtain ⟨g10, H⟩ := H
        replace H := oi H; obtain ⟨c11, H⟩ | ⟨c11, H⟩ := H
        · replace H := og H; obtain ⟨g16, H⟩ := H
          obtain rfl := Option.some.inj H
          exact (Nx.rf.sI)
        · replace H := og H; obtain ⟨g12, H⟩ := H
          replace H := oi H; obtain ⟨c13, H⟩ | ⟨c13, H⟩ := H
          · replace H := og H; obtain ⟨g15, H⟩ := H
            obtain rfl := Option.some.inj H
            exact (Nx.rf.sI)
          · replace H := og H; obtain ⟨g14, H⟩ := H
            obtain rfl := Option.some.inj H
            exact (Nx.rf.sI)
      · obtain rfl := Option.some.inj H
        exact Nx.rf
  · obtain rfl := Option.some.inj H
    exact Nx.rf
set_option maxHeartbeats 4000000 in
set_option maxRecDepth 20000 in
theorem n_X12_copy_121 {y1 : Int32} {y2 : Int32} {y3 : Int32} {y4 : Int32} {y5 : Int32} {y6 : Int32} : ∀ (n : Nat) {x7 : Int32} {h : HS} {q : HS}, l_X12_copy_121 y1 y2 y3 y4 y5 y6 n x7 h = some q → Nx h q := by
  intro n
  induction n with
  | zero => intro x7 h q H; exact nz H
  | succ n ih =>
    intro x7 h q H
    unfold l_X12_copy_121 at H
    replace H := oi H; obtain ⟨c29, H⟩ | ⟨c29, H⟩ := H
    · obtain rfl := Option.some.inj H
      exact Nx.rf
    · replace H := ob H; obtain ⟨q31, c33, H⟩ := H
      replace H := og H; obtain ⟨g34, H⟩ := H
      replace H := og H; obtain ⟨g35, H⟩ := H
      exact (Nx.rf.sI).tr (ih H)
set_option maxHeartbeats 4000000 in
set_option maxRecDepth 20000 in
theorem n_X12_copy {p1 : Int32} {p2 : Int32} {p3 : Int32} {p4 : Int32} {p5 : Int32} {h : HS} {q : (Int32 × HS)} (H : f_X12_copy p1 p2 p3 p4 p5 h = some q) : Nx h q.2 := by
  unfold f_X12_copy at H
  replace H := ob H; obtain ⟨q1, c2, H⟩ := H
  replace H := oi H; obtain ⟨c3, H⟩ | ⟨c3, H⟩ := H
  · replace H := ob H; obtain ⟨q4, c5, H⟩ := H
    replace H := oi H; obtain ⟨c6, H⟩ | ⟨c6, H⟩ := H
    · replace H := og H; obtain ⟨g7, H⟩ := H
      replace H := oi H; obtain ⟨c8, H⟩ | ⟨c8, H⟩ := H
      · obtain rfl := Option.some.inj H
        exact Nx.rf
      · replace H := og H; obtain ⟨g9, H⟩ := H
        replace H := oi H; obtain ⟨c10, H⟩ | ⟨c10, H⟩ := H
        · obtain rfl := Option.some.inj H
          exact Nx.rf
        · replace H := og H; obtain ⟨g11, H⟩ := H
          replace H := og H; obtain ⟨g12, H⟩ := H
          replace H := oi H; obtain ⟨c13, H⟩ | ⟨c13, H⟩ := H
          · replace H := oi H; obtain ⟨c14, H⟩ | ⟨c14, H⟩ := H
            · obtain rfl := Option.some.inj H
              exact Nx.rf
            · replace H := oi H; obtain ⟨c15, H⟩ | ⟨c15, H⟩ := H
              · obtain rfl := Option.some.inj H
                exact Nx.rf
              · replace H := oi H; obtain ⟨c16, H⟩ | ⟨c16, H⟩ := H
                · obtain rfl := Option.some.inj H
                  exact Nx.rf
                · replace H := og H; obtain ⟨g17, H⟩ := H
                  replace H := oi H; obtain ⟨c18, H⟩ | ⟨c18, H⟩ := H
                  · obtain rfl := Option.some.inj H
                    exact Nx.rf
                  · replace H := og H; obtain ⟨g19, H⟩ := H
                    replace H := oi H; obtain ⟨c20, H⟩ | ⟨c20, H⟩ := H
                    · replace H := oi H; obtain ⟨c21, H⟩ | ⟨c21, H⟩ := H
                      · replace H := ob H; obtain ⟨q41, c43, H⟩ := H
                        replace H := ob H; obtain ⟨q44, c45, H⟩ := H
                        have e46 := n_X12_copy_121 1000 c45
                        obtain rfl := Option.some.inj H
                        exact e46
                      · replace H := ob H; obtain ⟨q36, c37, H⟩ := H
                        have e38 := n_X12_copy_121 1000 c37
                        obtain rfl := Option.some.inj H
                        exact e38
                    · obtain rfl := Option.some.inj H
                      exact Nx.rf
          · obtain rfl := Option.some.inj H
            exact Nx.rf
    · obtain rfl := Option.some.inj H
      exact Nx.rf
  · obtain rfl := Option.some.inj H
    exact Nx.rf
set_option maxHeartbeats 4000000 in
set_option maxRecDepth 20000 in
theorem n_X12_tries_75 {y1 : Int32} {y3 : Int32} {y4 : Int32} : ∀ (n : Nat) {x5 : Int32} {x6 : Int32} {h : HS} {q : ((Int32 × HS) ⊕ (Int32 × HS))}, l_X12_tries_75 y1 y3 y4 n x5 x6 h = some q → Nx h (Sum.elim (fun v => v.2) (fun e => e.2) q) := by
  intro n
  induction n with
  | zero => intro x5 x6 h q H; exact nz H
  | succ n ih =>
    intro x5 x6 h q H
    unfold l_X12_tries_75 at H
    replace H := oi H; obtain ⟨c27, H⟩ | ⟨c27, H⟩ := H
    · obtain rfl := Option.some.inj H
      exact Nx.rf
    · replace H := oi H; obtain ⟨c28, H⟩ | ⟨c28, H⟩ := H
      · obtain rfl := Option.some.inj H
        exact Nx.rf
      · replace H := og H; obtain ⟨g29, H⟩ := H
        replace H := oi H; obtain ⟨c30, H⟩ | ⟨c30, H⟩ := H
        · replace H := og H; obtain ⟨g31, H⟩ := H
          replace H := og H; obtain ⟨g32, H⟩ := H
          replace H := og H; obtain ⟨g33, H⟩ := H
          replace H := og H; obtain ⟨g34, H⟩ := H
          replace H := ob H; obtain ⟨q35, c36, H⟩ := H
          have e37 := n_X12_shown c36
          replace H := oi H; obtain ⟨c39, H⟩ | ⟨c39, H⟩ := H
          · exact e37.tr (ih H)
          · exact e37.tr (ih H)
        · obtain rfl := Option.some.inj H
          exact Nx.rf
set_option maxHeartbeats 4000000 in
set_option maxRecDepth 20000 in
theorem n_X12_tries {p1 : Int32} {p2 : Int32} {p3 : Int32} {p4 : Int32} {h : HS} {q : (Int32 × HS)} (H : f_X12_tries p1 p2 p3 p4 h = some q) : Nx h q.2 := by
  unfold f_X12_tries at H
  replace H := ob H; obtain ⟨q1, c2, H⟩ := H
  replace H := oi H; obtain ⟨c3, H⟩ | ⟨c3, H⟩ := H
  · replace H := ob H; obtain ⟨q4, c5, H⟩ := H
    replace H := oi H; obtain ⟨c6, H⟩ | ⟨c6, H⟩ := H
    · replace H := ob H; obtain ⟨q7, c8, H⟩ := H
      replace H := oi H; obtain ⟨c9, H⟩ | ⟨c9, H⟩ := H
      · replace H := og H; obtain ⟨g10, H⟩ := H
        replace H := oi H; obtain ⟨c11, H⟩ | ⟨c11, H⟩ := H
        · replace H := og H; obtain ⟨g12, H⟩ := H
          replace H := oi H; obtain ⟨c13, H⟩ | ⟨c13, H⟩ := H
          · obtain rfl := Option.some.inj H
            exact Nx.rf
          · replace H := ob H; obtain ⟨q40, c41, H⟩ := H
            rcases q40 with v45 | e42
            · replace H := oSl H; obtain rfl := Option.some.inj H
              exact n_X12_tries_75 1000 c41
            · replace H := oSr H
              have e43 : Nx h e42.2 := n_X12_tries_75 1000 c41
              obtain rfl := Option.some.inj H
              exact e43
        · replace H := og H; obtain ⟨g46, H⟩ := H
          replace H := oi H; obtain ⟨c47, H⟩ | ⟨c47, H⟩ := H
          · replace H := og H; obtain ⟨g48, H⟩ := H
            replace H := oi H; obtain ⟨c49, H⟩ | ⟨c49, H⟩ := H
            · obtain rfl := Option.some.inj H
              exact Nx.rf
            · replace H := ob H; obtain ⟨q50, c51, H⟩ := H
              rcases q50 with v55 | e52
              · replace H := oSl H; obtain rfl := Option.some.inj H
                exact n_X12_tries_75 1000 c51
              · replace H := oSr H
                have e53 : Nx h e52.2 := n_X12_tries_75 1000 c51
                obtain rfl := Option.some.inj H
                exact e53
          · obtain rfl := Option.some.inj H
            exact Nx.rf
      · obtain rfl := Option.some.inj H
        exact Nx.rf
    · obtain rfl := Option.some.inj H
      exact Nx.rf
  · obtain rfl := Option.some.inj H
    exact Nx.rf
