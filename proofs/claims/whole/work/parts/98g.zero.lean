/-! ===== above the heap nothing lies ===== -/
def Zr (h h' : HS) : Prop := (∀ a, hN h ≤ a → hT h a = 0) → ∀ a, hN h' ≤ a → hT h' a = 0
theorem Zr.rf {h : HS} : Zr h h := fun z => z
theorem Zr.w {h h' : HS} (e : Zr h h') : Zr h h' := e
theorem Zr.tr {h h1 h2 : HS} (e : Zr h h1) (f : Zr h1 h2) : Zr h h2 := fun z => f (e z)
theorem Zr.sI {h0 h : HS} {a k : Nat} {v : Int32} (e : Zr h0 h) : Zr h0 (sI h a k v) := e
theorem Zr.sL {h0 h : HS} {a k : Nat} {v : Int64} (e : Zr h0 h) : Zr h0 (sL h a k v) := e
theorem Zr.sR {h0 h : HS} {a k : Nat} {v : Option Nat} (e : Zr h0 h) : Zr h0 (sR h a k v) := e
theorem Zr.sC {h0 h : HS} {a0 sp a1 dp n : Nat} (e : Zr h0 h) : Zr h0 (sC h a0 sp a1 dp n) := e
theorem Zr.nw {h0 h : HS} {kd ln ns : Nat} (e : Zr h0 h) (g : hT h (hN h) = 0) : Zr h0 (hNew h kd ln ns) := fun z a ha => by
  have ha' : hN h + 1 ≤ a := ha
  show va_up (hT h) (hN h) kd a = 0
  unfold va_up
  rw [if_neg (by omega)]
  exact e z a (by omega)
theorem kZ {h0 E h : HS} (e : E = h) (p : Zr h0 E) : Zr h0 h := by rw [← e]; exact p
set_option maxHeartbeats 4000000 in
set_option maxRecDepth 20000 in
theorem z_X2_init {p0 : Nat} {h : HS} {q : HS} (H : f_X2_init p0 h = some q) : Zr h q := by
  unfold f_X2_init at H
  replace H := og H; obtain ⟨g1, H⟩ := H
  have e2 := Zr.nw (h := h) (kd := 15) (ln := (400 : Int32).toNatClampNeg) (ns := (400 : Int32).toNatClampNeg) Zr.rf g1
  replace H := obh H; obtain ⟨h3, e4, H⟩ := H
  replace H := og H; obtain ⟨g6, H⟩ := H
  have e7 := Zr.sR (h := h3) (a := p0) (k := 0) (v := some (hN h)) Zr.rf
  obtain rfl := Option.some.inj H
  exact ((((kZ e4 e2).tr e7).sI).sI)
set_option maxHeartbeats 4000000 in
set_option maxRecDepth 20000 in
theorem z_X5_init {p0 : Nat} {h : HS} {q : HS} (H : f_X5_init p0 h = some q) : Zr h q := by
  unfold f_X5_init at H
  replace H := og H; obtain ⟨g1, H⟩ := H
  replace H := og H; obtain ⟨g2, H⟩ := H
  have e3 := Zr.nw (h := (sI (sI (sI (sI h p0 0 (0 : Int32)) p0 1 (0 : Int32)) p0 2 (0 : Int32)) p0 3 (0 : Int32))) (kd := 15) (ln := (32 : Int32).toNatClampNeg) (ns := (32 : Int32).toNatClampNeg) Zr.rf g2
  replace H := obh H; obtain ⟨h5, e6, H⟩ := H
  have e9 := Zr.sR (h := h5) (a := p0) (k := 4) (v := some (hN (sI (sI (sI (sI h p0 0 (0 : Int32)) p0 1 (0 : Int32)) p0 2 (0 : Int32)) p0 3 (0 : Int32)))) Zr.rf
  obtain rfl := Option.some.inj H
  exact ((kZ e6 (((((Zr.rf.sI).sI).sI).sI).tr e3)).tr e9)
set_option maxHeartbeats 4000000 in
set_option maxRecDepth 20000 in
theorem z_X6_init {p0 : Nat} {h : HS} {q : HS} (H : f_X6_init p0 h = some q) : Zr h q := by
  unfold f_X6_init at H
  replace H := og H; obtain ⟨g1, H⟩ := H
  have e2 := Zr.nw (h := h) (kd := 15) (ln := (160 : Int32).toNatClampNeg) (ns := (160 : Int32).toNatClampNeg) Zr.rf g1
  replace H := obh H; obtain ⟨h3, e4, H⟩ := H
  replace H := og H; obtain ⟨g6, H⟩ := H
  have e7 := Zr.sR (h := h3) (a := p0) (k := 0) (v := some (hN h)) Zr.rf
  replace H := og H; obtain ⟨g10, H⟩ := H
  have e11 := Zr.nw (h := (sI (sR h3 p0 0 (some (hN h))) p0 1 (0 : Int32))) (kd := 15) (ln := (161 : Int32).toNatClampNeg) (ns := (161 : Int32).toNatClampNeg) Zr.rf g10
  replace H := obh H; obtain ⟨h14, e15, H⟩ := H
  have e19 := Zr.sR (h := h14) (a := p0) (k := 2) (v := some (hN (sI (sR h3 p0 0 (some (hN h))) p0 1 (0 : Int32)))) Zr.rf
  replace H := og H; obtain ⟨g23, H⟩ := H
  have e24 := Zr.nw (h := (sR h14 p0 2 (some (hN (sI (sR h3 p0 0 (some (hN h))) p0 1 (0 : Int32)))))) (kd := 15) (ln := (161 : Int32).toNatClampNeg) (ns := (161 : Int32).toNatClampNeg) Zr.rf g23
  replace H := obh H; obtain ⟨h28, e29, H⟩ := H
  have e34 := Zr.sR (h := h28) (a := p0) (k := 3) (v := some (hN (sR h14 p0 2 (some (hN (sI (sR h3 p0 0 (some (hN h))) p0 1 (0 : Int32))))))) Zr.rf
  replace H := og H; obtain ⟨g39, H⟩ := H
  have e40 := Zr.nw (h := (sI (sI (sR h28 p0 3 (some (hN (sR h14 p0 2 (some (hN (sI (sR h3 p0 0 (some (hN h))) p0 1 (0 : Int32)))))))) p0 4 (0 : Int32)) p0 5 (0 : Int32))) (kd := 15) (ln := (160 : Int32).toNatClampNeg) (ns := (160 : Int32).toNatClampNeg) Zr.rf g39
  replace H := obh H; obtain ⟨h45, e46, H⟩ := H
  have e52 := Zr.sR (h := h45) (a := p0) (k := 6) (v := some (hN (sI (sI (sR h28 p0 3 (some (hN (sR h14 p0 2 (some (hN (sI (sR h3 p0 0 (some (hN h))) p0 1 (0 : Int32)))))))) p0 4 (0 : Int32)) p0 5 (0 : Int32)))) Zr.rf
  replace H := obh H; obtain ⟨h58, e59, H⟩ := H
  obtain rfl := Option.some.inj H
  exact (((kZ e59 ((kZ e46 (((((kZ e29 (((kZ e15 ((((kZ e4 e2).tr e7).sI).tr e11)).tr e19).tr e24)).tr e34).sI).sI).tr e40)).tr e52)).sI).sI)
set_option maxHeartbeats 4000000 in
set_option maxRecDepth 20000 in
theorem z_X6_put {p1 : Int32} {h : HS} {q : HS} (H : f_X6_put p1 h = some q) : Zr h q := by
  unfold f_X6_put at H
  replace H := oi H; obtain ⟨c1, H⟩ | ⟨c1, H⟩ := H
  · obtain rfl := Option.some.inj H
    exact Zr.rf
  · replace H := oi H; obtain ⟨c2, H⟩ | ⟨c2, H⟩ := H
    · obtain rfl := Option.some.inj H
      exact Zr.rf
    · replace H := og H; obtain ⟨g3, H⟩ := H
      obtain rfl := Option.some.inj H
      exact ((Zr.rf.sI).sI)
set_option maxHeartbeats 4000000 in
set_option maxRecDepth 20000 in
theorem z_X6_spell_2 {y1 : Nat} : ∀ (n : Nat) {x2 : Int32} {h : HS} {q : HS}, l_X6_spell_2 y1 n x2 h = some q → Zr h q := by
  intro n
  induction n with
  | zero => intro x2 h q H; exact nz H
  | succ n ih =>
    intro x2 h q H
    unfold l_X6_spell_2 at H
    replace H := og H; obtain ⟨g13, H⟩ := H
    replace H := ob H; obtain ⟨q11, c12, H⟩ := H
    replace H := oi H; obtain ⟨c14, H⟩ | ⟨c14, H⟩ := H
    · obtain rfl := Option.some.inj H
      exact Zr.rf
    · replace H := ob H; obtain ⟨q15, c16, H⟩ := H
      replace H := ob H; obtain ⟨q17, c18, H⟩ := H
      have e19 := z_X6_put c18
      exact e19.tr (ih H)
set_option maxHeartbeats 4000000 in
set_option maxRecDepth 20000 in
theorem z_X6_spell {p1 : Nat} {h : HS} {q : HS} (H : f_X6_spell p1 h = some q) : Zr h q := by
  unfold f_X6_spell at H
  replace H := ob H; obtain ⟨q21, c22, H⟩ := H
  have e23 := z_X6_spell_2 1000 c22
  obtain rfl := Option.some.inj H
  exact e23
set_option maxHeartbeats 4000000 in
set_option maxRecDepth 20000 in
theorem z_X6_addToken {p1 : Int32} {p2 : Int32} {h : HS} {q : HS} (H : f_X6_addToken p1 p2 h = some q) : Zr h q := by
  unfold f_X6_addToken at H
  replace H := oi H; obtain ⟨c1, H⟩ | ⟨c1, H⟩ := H
  · obtain rfl := Option.some.inj H
    exact Zr.rf
  · replace H := oi H; obtain ⟨c2, H⟩ | ⟨c2, H⟩ := H
    · obtain rfl := Option.some.inj H
      exact Zr.rf
    · replace H := og H; obtain ⟨g3, H⟩ := H
      replace H := og H; obtain ⟨g4, H⟩ := H
      replace H := obh H; obtain ⟨h5, e6, H⟩ := H
      obtain rfl := Option.some.inj H
      exact (kZ e6 (((Zr.rf.sI).sI).sI))
set_option maxHeartbeats 4000000 in
set_option maxRecDepth 20000 in
theorem z_X6_splitOne {p1 : Int32} {h : HS} {q : (Int32 × HS)} (H : f_X6_splitOne p1 h = some q) : Zr h q.2 := by
  unfold f_X6_splitOne at H
  replace H := ob H; obtain ⟨q1, c2, H⟩ := H
  replace H := oi H; obtain ⟨c3, H⟩ | ⟨c3, H⟩ := H
  · obtain rfl := Option.some.inj H
    exact Zr.rf
  · replace H := oi H; obtain ⟨c4, H⟩ | ⟨c4, H⟩ := H
    · obtain rfl := Option.some.inj H
      exact Zr.rf
    · replace H := ob H; obtain ⟨q5, c6, H⟩ := H
      replace H := oi H; obtain ⟨c7, H⟩ | ⟨c7, H⟩ := H
      · replace H := ob H; obtain ⟨q29, c30, H⟩ := H
        replace H := ob H; obtain ⟨q32, c36, H⟩ := H
        replace H := ob H; obtain ⟨q37, c38, H⟩ := H
        have e39 := z_X6_addToken c38
        obtain rfl := Option.some.inj H
        exact e39
      · replace H := ob H; obtain ⟨q8, c9, H⟩ := H
        replace H := oi H; obtain ⟨c10, H⟩ | ⟨c10, H⟩ := H
        · replace H := ob H; obtain ⟨q21, c22, H⟩ := H
          replace H := ob H; obtain ⟨q23, c24, H⟩ := H
          replace H := ob H; obtain ⟨q25, c26, H⟩ := H
          have e27 := z_X6_addToken c26
          obtain rfl := Option.some.inj H
          exact e27
        · replace H := ob H; obtain ⟨q11, c12, H⟩ := H
          replace H := ob H; obtain ⟨q14, c16, H⟩ := H
          replace H := ob H; obtain ⟨q17, c18, H⟩ := H
          have e19 := z_X6_addToken c18
          obtain rfl := Option.some.inj H
          exact e19
set_option maxHeartbeats 4000000 in
set_option maxRecDepth 20000 in
theorem z_X6_split_9  : ∀ (n : Nat) {x1 : Int32} {x2 : Int32} {h : HS} {q : HS}, l_X6_split_9  n x1 x2 h = some q → Zr h q := by
  intro n
  induction n with
  | zero => intro x1 x2 h q H; exact nz H
  | succ n ih =>
    intro x1 x2 h q H
    unfold l_X6_split_9 at H
    replace H := oi H; obtain ⟨c7, H⟩ | ⟨c7, H⟩ := H
    · obtain rfl := Option.some.inj H
      exact Zr.rf
    · replace H := oi H; obtain ⟨c8, H⟩ | ⟨c8, H⟩ := H
      · obtain rfl := Option.some.inj H
        exact Zr.rf
      · replace H := ob H; obtain ⟨q9, c10, H⟩ := H
        have e11 := z_X6_splitOne c10
        exact e11.tr (ih H)
set_option maxHeartbeats 4000000 in
set_option maxRecDepth 20000 in
theorem z_X6_split  {h : HS} {q : HS} (H : f_X6_split h = some q) : Zr h q := by
  unfold f_X6_split at H
  replace H := ob H; obtain ⟨q13, c14, H⟩ := H
  have e15 := z_X6_split_9 1000 c14
  replace H := ob H; obtain ⟨q17, c18, H⟩ := H
  have e19 := z_X6_addToken c18
  obtain rfl := Option.some.inj H
  exact (((Zr.rf.sI).tr e15).tr e19)
set_option maxHeartbeats 4000000 in
set_option maxRecDepth 20000 in
theorem z_X6_takes {p1 : Int32} {h : HS} {q : (Bool × HS)} (H : f_X6_takes p1 h = some q) : Zr h q.2 := by
  unfold f_X6_takes at H
  replace H := oi H; obtain ⟨c1, H⟩ | ⟨c1, H⟩ := H
  · obtain rfl := Option.some.inj H
    exact Zr.rf
  · replace H := ob H; obtain ⟨q2, c3, H⟩ := H
    replace H := oi H; obtain ⟨c4, H⟩ | ⟨c4, H⟩ := H
    · obtain rfl := Option.some.inj H
      exact (Zr.rf.sI)
    · obtain rfl := Option.some.inj H
      exact Zr.rf
set_option maxHeartbeats 4000000 in
set_option maxRecDepth 20000 in
theorem z_X6_refuse  {h : HS} {q : HS} (H : f_X6_refuse h = some q) : Zr h q := by
  unfold f_X6_refuse at H
  replace H := oi H; obtain ⟨c1, H⟩ | ⟨c1, H⟩ := H
  · obtain rfl := Option.some.inj H
    exact Zr.rf
  · replace H := oi H; obtain ⟨c2, H⟩ | ⟨c2, H⟩ := H
    · obtain rfl := Option.some.inj H
      exact (Zr.rf.sI)
    · replace H := oi H; obtain ⟨c3, H⟩ | ⟨c3, H⟩ := H
      · obtain rfl := Option.some.inj H
        exact (Zr.rf.sI)
      · replace H := oi H; obtain ⟨c4, H⟩ | ⟨c4, H⟩ := H
        · obtain rfl := Option.some.inj H
          exact (Zr.rf.sI)
        · replace H := og H; obtain ⟨g5, H⟩ := H
          obtain rfl := Option.some.inj H
          exact (Zr.rf.sI)
set_option maxHeartbeats 4000000 in
set_option maxRecDepth 20000 in
theorem z_X6_ask {p1 : Int32} {h : HS} {q : HS} (H : f_X6_ask p1 h = some q) : Zr h q := by
  unfold f_X6_ask at H
  replace H := ob H; obtain ⟨q1, c2, H⟩ := H
  have e3 := z_X6_takes c2
  replace H := oi H; obtain ⟨c5, H⟩ | ⟨c5, H⟩ := H
  · obtain rfl := Option.some.inj H
    exact e3
  · replace H := ob H; obtain ⟨q6, c7, H⟩ := H
    have e8 := z_X6_refuse c7
    obtain rfl := Option.some.inj H
    exact (e3.tr e8)
set_option maxHeartbeats 4000000 in
set_option maxRecDepth 20000 in
theorem z_X6_write {p1 : Int32} {h : HS} {q : HS} (H : f_X6_write p1 h = some q) : Zr h q := by
  unfold f_X6_write at H
  replace H := oi H; obtain ⟨c1, H⟩ | ⟨c1, H⟩ := H
  · obtain rfl := Option.some.inj H
    exact Zr.rf
  · replace H := oi H; obtain ⟨c2, H⟩ | ⟨c2, H⟩ := H
    · obtain rfl := Option.some.inj H
      exact Zr.rf
    · replace H := og H; obtain ⟨g3, H⟩ := H
      obtain rfl := Option.some.inj H
      exact ((Zr.rf.sI).sI)
abbrev RZX6 (rc : Nat → Int32 → HS → Option HS) : Prop := ∀ {m : Nat} {o : Int32} {h : HS} {q : HS}, rc m o h = some q → Zr h q
set_option maxHeartbeats 4000000 in
set_option maxRecDepth 20000 in
theorem z_X6_readAny_7 {rc : Nat → Int32 → HS → Option HS} (hpc : RZX6 rc) {y1 : Int32} : ∀ (n : Nat) {x2 : Int32} {h : HS} {q : HS}, l_X6_readAny_7 rc y1 n x2 h = some q → Zr h q := by
  intro n
  induction n with
  | zero => intro x2 h q H; exact nz H
  | succ n ih =>
    intro x2 h q H
    unfold l_X6_readAny_7 at H
    replace H := oi H; obtain ⟨c19, H⟩ | ⟨c19, H⟩ := H
    · obtain rfl := Option.some.inj H
      exact Zr.rf
    · replace H := ob H; obtain ⟨q20, c21, H⟩ := H
      have e22 := z_X6_takes c21
      replace H := oi H; obtain ⟨c24, H⟩ | ⟨c24, H⟩ := H
      · replace H := ob H; obtain ⟨q25, c26, H⟩ := H
        have e27 := hpc c26
        replace H := ob H; obtain ⟨q29, c30, H⟩ := H
        have e31 := z_X6_write c30
        exact ((e22.tr e27).tr e31).tr (ih H)
      · obtain rfl := Option.some.inj H
        exact e22
set_option maxHeartbeats 4000000 in
set_option maxRecDepth 20000 in
theorem z_X6_readAny {rc : Nat → Int32 → HS → Option HS} (hpc : RZX6 rc) {p1 : Int32} {h : HS} {q : HS} (H : g_X6_readAny rc p1 h = some q) : Zr h q := by
  unfold g_X6_readAny at H
  replace H := ob H; obtain ⟨q1, c2, H⟩ := H
  have e3 := hpc c2
  replace H := ob H; obtain ⟨q33, c34, H⟩ := H
  have e35 := z_X6_readAny_7 hpc 1000 c34
  obtain rfl := Option.some.inj H
  exact (e3.tr e35)
set_option maxHeartbeats 4000000 in
set_option maxRecDepth 20000 in
theorem z_X6_readEach_7 {rc : Nat → Int32 → HS → Option HS} (hpc : RZX6 rc) {y1 : Int32} : ∀ (n : Nat) {x2 : Int32} {h : HS} {q : HS}, l_X6_readEach_7 rc y1 n x2 h = some q → Zr h q := by
  intro n
  induction n with
  | zero => intro x2 h q H; exact nz H
  | succ n ih =>
    intro x2 h q H
    unfold l_X6_readEach_7 at H
    replace H := oi H; obtain ⟨c19, H⟩ | ⟨c19, H⟩ := H
    · obtain rfl := Option.some.inj H
      exact Zr.rf
    · replace H := ob H; obtain ⟨q20, c21, H⟩ := H
      have e22 := z_X6_takes c21
      replace H := oi H; obtain ⟨c24, H⟩ | ⟨c24, H⟩ := H
      · replace H := ob H; obtain ⟨q25, c26, H⟩ := H
        have e27 := hpc c26
        replace H := ob H; obtain ⟨q29, c30, H⟩ := H
        have e31 := z_X6_write c30
        exact ((e22.tr e27).tr e31).tr (ih H)
      · obtain rfl := Option.some.inj H
        exact e22
set_option maxHeartbeats 4000000 in
set_option maxRecDepth 20000 in
theorem z_X6_readEach {rc : Nat → Int32 → HS → Option HS} (hpc : RZX6 rc) {p1 : Int32} {h : HS} {q : HS} (H : g_X6_readEach rc p1 h = some q) : Zr h q := by
  unfold g_X6_readEach at H
  replace H := ob H; obtain ⟨q1, c2, H⟩ := H
  have e3 := hpc c2
  replace H := ob H; obtain ⟨q33, c34, H⟩ := H
  have e35 := z_X6_readEach_7 hpc 1000 c34
  obtain rfl := Option.some.inj H
  exact (e3.tr e35)
set_option maxHeartbeats 4000000 in
set_option maxRecDepth 20000 in
theorem z_X6_readNot {rc : Nat → Int32 → HS → Option HS} (hpc : RZX6 rc) {p1 : Int32} {h : HS} {q : HS} (H : g_X6_readNot rc p1 h = some q) : Zr h q := by
  unfold g_X6_readNot at H
  replace H := oi H; obtain ⟨c1, H⟩ | ⟨c1, H⟩ := H
  · replace H := ob H; obtain ⟨q2, c3, H⟩ := H
    have e4 := hpc c3
    replace H := ob H; obtain ⟨q6, c7, H⟩ := H
    replace H := ob H; obtain ⟨q8, c9, H⟩ := H
    have e10 := z_X6_takes c9
    replace H := oi H; obtain ⟨c12, H⟩ | ⟨c12, H⟩ := H
    · replace H := ob H; obtain ⟨q13, c14, H⟩ := H
      have e15 := hpc c14
      replace H := ob H; obtain ⟨q17, c18, H⟩ := H
      have e19 := z_X6_write c18
      obtain rfl := Option.some.inj H
      exact (((e4.tr e10).tr e15).tr e19)
    · replace H := ob H; obtain ⟨q21, c22, H⟩ := H
      have e23 := z_X6_takes c22
      replace H := oi H; obtain ⟨c25, H⟩ | ⟨c25, H⟩ := H
      · replace H := ob H; obtain ⟨q26, c27, H⟩ := H
        have e28 := hpc c27
        replace H := ob H; obtain ⟨q30, c31, H⟩ := H
        have e32 := z_X6_write c31
        obtain rfl := Option.some.inj H
        exact ((((e4.tr e10).tr e23).tr e28).tr e32)
      · obtain rfl := Option.some.inj H
        exact ((e4.tr e10).tr e23)
  · replace H := ob H; obtain ⟨q34, c35, H⟩ := H
    have e36 := z_X6_takes c35
    replace H := oi H; obtain ⟨c38, H⟩ | ⟨c38, H⟩ := H
    · replace H := ob H; obtain ⟨q71, c72, H⟩ := H
      have e73 := hpc c72
      replace H := ob H; obtain ⟨q75, c76, H⟩ := H
      have e77 := z_X6_write c76
      obtain rfl := Option.some.inj H
      exact ((e36.tr e73).tr e77)
    · replace H := ob H; obtain ⟨q39, c40, H⟩ := H
      have e41 := hpc c40
      replace H := ob H; obtain ⟨q43, c44, H⟩ := H
      replace H := ob H; obtain ⟨q45, c46, H⟩ := H
      have e47 := z_X6_takes c46
      replace H := oi H; obtain ⟨c49, H⟩ | ⟨c49, H⟩ := H
      · replace H := ob H; obtain ⟨q50, c51, H⟩ := H
        have e52 := hpc c51
        replace H := ob H; obtain ⟨q54, c55, H⟩ := H
        have e56 := z_X6_write c55
        obtain rfl := Option.some.inj H
        exact ((((e36.tr e41).tr e47).tr e52).tr e56)
      · replace H := ob H; obtain ⟨q58, c59, H⟩ := H
        have e60 := z_X6_takes c59
        replace H := oi H; obtain ⟨c62, H⟩ | ⟨c62, H⟩ := H
        · replace H := ob H; obtain ⟨q63, c64, H⟩ := H
          have e65 := hpc c64
          replace H := ob H; obtain ⟨q67, c68, H⟩ := H
          have e69 := z_X6_write c68
          obtain rfl := Option.some.inj H
          exact (((((e36.tr e41).tr e47).tr e60).tr e65).tr e69)
        · obtain rfl := Option.some.inj H
          exact (((e36.tr e41).tr e47).tr e60)
set_option maxHeartbeats 4000000 in
set_option maxRecDepth 20000 in
theorem z_X6_readSum_12 {rc : Nat → Int32 → HS → Option HS} (hpc : RZX6 rc) {y1 : Int32} : ∀ (n : Nat) {x2 : Int32} {x3 : Int32} {h : HS} {q : HS}, l_X6_readSum_12 rc y1 n x2 x3 h = some q → Zr h q := by
  intro n
  induction n with
  | zero => intro x2 x3 h q H; exact nz H
  | succ n ih =>
    intro x2 x3 h q H
    unfold l_X6_readSum_12 at H
    replace H := oi H; obtain ⟨c38, H⟩ | ⟨c38, H⟩ := H
    · obtain rfl := Option.some.inj H
      exact Zr.rf
    · replace H := ob H; obtain ⟨q39, c40, H⟩ := H
      have e41 := z_X6_takes c40
      replace H := oi H; obtain ⟨c43, H⟩ | ⟨c43, H⟩ := H
      · replace H := ob H; obtain ⟨q44, c45, H⟩ := H
        have e46 := hpc c45
        replace H := ob H; obtain ⟨q48, c49, H⟩ := H
        have e50 := z_X6_write c49
        replace H := ob H; obtain ⟨q52, c53, H⟩ := H
        exact ((e41.tr e46).tr e50).tr (ih H)
      · replace H := ob H; obtain ⟨q54, c55, H⟩ := H
        have e56 := z_X6_takes c55
        replace H := oi H; obtain ⟨c58, H⟩ | ⟨c58, H⟩ := H
        · replace H := ob H; obtain ⟨q59, c60, H⟩ := H
          have e61 := hpc c60
          replace H := ob H; obtain ⟨q63, c64, H⟩ := H
          have e65 := z_X6_write c64
          replace H := ob H; obtain ⟨q67, c68, H⟩ := H
          exact (((e41.tr e56).tr e61).tr e65).tr (ih H)
        · obtain rfl := Option.some.inj H
          exact (e41.tr e56)
set_option maxHeartbeats 4000000 in
set_option maxRecDepth 20000 in
theorem z_X6_readSum {rc : Nat → Int32 → HS → Option HS} (hpc : RZX6 rc) {p1 : Int32} {h : HS} {q : HS} (H : g_X6_readSum rc p1 h = some q) : Zr h q := by
  unfold g_X6_readSum at H
  replace H := ob H; obtain ⟨q1, c2, H⟩ := H
  have e3 := hpc c2
  replace H := ob H; obtain ⟨q5, c6, H⟩ := H
  replace H := ob H; obtain ⟨q69, c70, H⟩ := H
  have e71 := z_X6_readSum_12 hpc 1000 c70
  obtain rfl := Option.some.inj H
  exact (e3.tr e71)
set_option maxHeartbeats 4000000 in
set_option maxRecDepth 20000 in
theorem z_X6_readTerm_7 {rc : Nat → Int32 → HS → Option HS} (hpc : RZX6 rc) {y1 : Int32} : ∀ (n : Nat) {x2 : Int32} {h : HS} {q : HS}, l_X6_readTerm_7 rc y1 n x2 h = some q → Zr h q := by
  intro n
  induction n with
  | zero => intro x2 h q H; exact nz H
  | succ n ih =>
    intro x2 h q H
    unfold l_X6_readTerm_7 at H
    replace H := oi H; obtain ⟨c19, H⟩ | ⟨c19, H⟩ := H
    · obtain rfl := Option.some.inj H
      exact Zr.rf
    · replace H := ob H; obtain ⟨q20, c21, H⟩ := H
      have e22 := z_X6_takes c21
      replace H := oi H; obtain ⟨c24, H⟩ | ⟨c24, H⟩ := H
      · replace H := ob H; obtain ⟨q25, c26, H⟩ := H
        have e27 := hpc c26
        replace H := ob H; obtain ⟨q29, c30, H⟩ := H
        have e31 := z_X6_write c30
        exact ((e22.tr e27).tr e31).tr (ih H)
      · obtain rfl := Option.some.inj H
        exact e22
set_option maxHeartbeats 4000000 in
set_option maxRecDepth 20000 in
theorem z_X6_readTerm {rc : Nat → Int32 → HS → Option HS} (hpc : RZX6 rc) {p1 : Int32} {h : HS} {q : HS} (H : g_X6_readTerm rc p1 h = some q) : Zr h q := by
  unfold g_X6_readTerm at H
  replace H := ob H; obtain ⟨q1, c2, H⟩ := H
  have e3 := hpc c2
  replace H := ob H; obtain ⟨q33, c34, H⟩ := H
  have e35 := z_X6_readTerm_7 hpc 1000 c34
  obtain rfl := Option.some.inj H
  exact (e3.tr e35)
set_option maxHeartbeats 4000000 in
set_option maxRecDepth 20000 in
theorem z_X6_readOne {rc : Nat → Int32 → HS → Option HS} (hpc : RZX6 rc) {p1 : Int32} {h : HS} {q : HS} (H : g_X6_readOne rc p1 h = some q) : Zr h q := by
  unfold g_X6_readOne at H
  replace H := ob H; obtain ⟨q1, c2, H⟩ := H
  replace H := ob H; obtain ⟨q3, c4, H⟩ := H
  replace H := oi H; obtain ⟨c5, H⟩ | ⟨c5, H⟩ := H
  · replace H := ob H; obtain ⟨q64, c65, H⟩ := H
    have e66 := z_X6_takes c65
    replace H := oi H; obtain ⟨c68, H⟩ | ⟨c68, H⟩ := H
    · replace H := ob H; obtain ⟨q127, c128, H⟩ := H
      have e129 := z_X6_write c128
      obtain rfl := Option.some.inj H
      exact (e66.tr e129)
    · replace H := oi H; obtain ⟨c69, H⟩ | ⟨c69, H⟩ := H
      · replace H := oi H; obtain ⟨c70, H⟩ | ⟨c70, H⟩ := H
        · replace H := ob H; obtain ⟨q71, c72, H⟩ := H
          have e73 := z_X6_refuse c72
          obtain rfl := Option.some.inj H
          exact (e66.tr e73)
        · replace H := ob H; obtain ⟨q75, c76, H⟩ := H
          have e77 := z_X6_takes c76
          replace H := oi H; obtain ⟨c79, H⟩ | ⟨c79, H⟩ := H
          · replace H := ob H; obtain ⟨q84, c85, H⟩ := H
            have e86 := hpc c85
            replace H := ob H; obtain ⟨q88, c89, H⟩ := H
            have e90 := z_X6_ask c89
            obtain rfl := Option.some.inj H
            exact (((e66.tr e77).tr e86).tr e90)
          · replace H := ob H; obtain ⟨q80, c81, H⟩ := H
            have e82 := z_X6_refuse c81
            obtain rfl := Option.some.inj H
            exact ((e66.tr e77).tr e82)
      · replace H := ob H; obtain ⟨q92, c93, H⟩ := H
        have e94 := z_X6_takes c93
        replace H := oi H; obtain ⟨c96, H⟩ | ⟨c96, H⟩ := H
        · replace H := ob H; obtain ⟨q119, c120, H⟩ := H
          have e121 := hpc c120
          replace H := ob H; obtain ⟨q123, c124, H⟩ := H
          have e125 := z_X6_write c124
          obtain rfl := Option.some.inj H
          exact (((e66.tr e94).tr e121).tr e125)
        · replace H := oi H; obtain ⟨c97, H⟩ | ⟨c97, H⟩ := H
          · replace H := ob H; obtain ⟨q98, c99, H⟩ := H
            have e100 := z_X6_refuse c99
            obtain rfl := Option.some.inj H
            exact ((e66.tr e94).tr e100)
          · replace H := ob H; obtain ⟨q102, c103, H⟩ := H
            have e104 := z_X6_takes c103
            replace H := oi H; obtain ⟨c106, H⟩ | ⟨c106, H⟩ := H
            · replace H := ob H; obtain ⟨q111, c112, H⟩ := H
              have e113 := hpc c112
              replace H := ob H; obtain ⟨q115, c116, H⟩ := H
              have e117 := z_X6_ask c116
              obtain rfl := Option.some.inj H
              exact ((((e66.tr e94).tr e104).tr e113).tr e117)
            · replace H := ob H; obtain ⟨q107, c108, H⟩ := H
              have e109 := z_X6_refuse c108
              obtain rfl := Option.some.inj H
              exact (((e66.tr e94).tr e104).tr e109)
  · replace H := oi H; obtain ⟨c6, H⟩ | ⟨c6, H⟩ := H
    · replace H := oi H; obtain ⟨c7, H⟩ | ⟨c7, H⟩ := H
      · replace H := ob H; obtain ⟨q8, c9, H⟩ := H
        have e10 := z_X6_refuse c9
        obtain rfl := Option.some.inj H
        exact e10
      · replace H := ob H; obtain ⟨q12, c13, H⟩ := H
        have e14 := z_X6_takes c13
        replace H := oi H; obtain ⟨c16, H⟩ | ⟨c16, H⟩ := H
        · replace H := ob H; obtain ⟨q21, c22, H⟩ := H
          have e23 := hpc c22
          replace H := ob H; obtain ⟨q25, c26, H⟩ := H
          have e27 := z_X6_ask c26
          obtain rfl := Option.some.inj H
          exact ((e14.tr e23).tr e27)
        · replace H := ob H; obtain ⟨q17, c18, H⟩ := H
          have e19 := z_X6_refuse c18
          obtain rfl := Option.some.inj H
          exact (e14.tr e19)
    · replace H := ob H; obtain ⟨q29, c30, H⟩ := H
      have e31 := z_X6_takes c30
      replace H := oi H; obtain ⟨c33, H⟩ | ⟨c33, H⟩ := H
      · replace H := ob H; obtain ⟨q56, c57, H⟩ := H
        have e58 := hpc c57
        replace H := ob H; obtain ⟨q60, c61, H⟩ := H
        have e62 := z_X6_write c61
        obtain rfl := Option.some.inj H
        exact ((e31.tr e58).tr e62)
      · replace H := oi H; obtain ⟨c34, H⟩ | ⟨c34, H⟩ := H
        · replace H := ob H; obtain ⟨q35, c36, H⟩ := H
          have e37 := z_X6_refuse c36
          obtain rfl := Option.some.inj H
          exact (e31.tr e37)
        · replace H := ob H; obtain ⟨q39, c40, H⟩ := H
          have e41 := z_X6_takes c40
          replace H := oi H; obtain ⟨c43, H⟩ | ⟨c43, H⟩ := H
          · replace H := ob H; obtain ⟨q48, c49, H⟩ := H
            have e50 := hpc c49
            replace H := ob H; obtain ⟨q52, c53, H⟩ := H
            have e54 := z_X6_ask c53
            obtain rfl := Option.some.inj H
            exact (((e31.tr e41).tr e50).tr e54)
          · replace H := ob H; obtain ⟨q44, c45, H⟩ := H
            have e46 := z_X6_refuse c45
            obtain rfl := Option.some.inj H
            exact ((e31.tr e41).tr e46)
set_option maxHeartbeats 4000000 in
set_option maxRecDepth 20000 in
theorem z_rX6 : ∀ n, RZX6 (r_X6 n) := by
  intro n
  induction n with
  | zero => intro m o h q H; exact nz H
  | succ n ih =>
    intro m o h q H
    unfold r_X6 at H
    replace H := oi H; obtain ⟨-, H⟩ | ⟨-, H⟩ := H
    · exact z_X6_readAny ih H
    replace H := oi H; obtain ⟨-, H⟩ | ⟨-, H⟩ := H
    · exact z_X6_readEach ih H
    replace H := oi H; obtain ⟨-, H⟩ | ⟨-, H⟩ := H
    · exact z_X6_readNot ih H
    replace H := oi H; obtain ⟨-, H⟩ | ⟨-, H⟩ := H
    · exact z_X6_readSum ih H
    replace H := oi H; obtain ⟨-, H⟩ | ⟨-, H⟩ := H
    · exact z_X6_readTerm ih H
    replace H := oi H; obtain ⟨-, H⟩ | ⟨-, H⟩ := H
    · exact z_X6_readOne ih H
    exact nz H
set_option maxHeartbeats 4000000 in
set_option maxRecDepth 20000 in
theorem z_E_X6_readAny {o : Int32} {h : HS} {q : HS} (H : r_X6 60 0 o h = some q) : Zr h q := z_rX6 60 H
set_option maxHeartbeats 4000000 in
set_option maxRecDepth 20000 in
theorem z_X6_readPart {p1 : Int32} {h : HS} {q : HS} (H : f_X6_readPart p1 h = some q) : Zr h q := by
  unfold f_X6_readPart at H
  replace H := ob H; obtain ⟨q1, c2, H⟩ := H
  have e3 := z_X6_ask c2
  replace H := ob H; obtain ⟨q5, c6, H⟩ := H
  have e7 := z_E_X6_readAny c6
  replace H := ob H; obtain ⟨q9, c10, H⟩ := H
  have e11 := z_X6_ask c10
  obtain rfl := Option.some.inj H
  exact ((e3.tr e7).tr e11)
set_option maxHeartbeats 4000000 in
set_option maxRecDepth 20000 in
theorem z_J7_copyOf_59c91 {p0 : Nat} {p1 : Int32} {h : HS} {q : ((Option Nat) × HS)} (H : f_J7_copyOf_59c91 p0 p1 h = some q) : Zr h q.2 := by
  unfold f_J7_copyOf_59c91 at H
  replace H := og H; obtain ⟨g1, H⟩ := H
  replace H := oi H; obtain ⟨c2, H⟩ | ⟨c2, H⟩ := H
  · exact nz H
  · replace H := og H; obtain ⟨g3, H⟩ := H
    replace H := og H; obtain ⟨g4, H⟩ := H
    have e5 := Zr.nw (h := h) (kd := 15) (ln := p1.toNatClampNeg) (ns := p1.toNatClampNeg) Zr.rf g4
    replace H := obh H; obtain ⟨h7, e8, H⟩ := H
    replace H := og H; obtain ⟨g11, H⟩ := H
    obtain rfl := Option.some.inj H
    exact ((kZ e8 e5).sC)
set_option maxHeartbeats 4000000 in
set_option maxRecDepth 20000 in
theorem z_X9_init {p0 : Nat} {p1 : Nat} {p2 : Int32} {p3 : Int32} {h : HS} {q : HS} (H : f_X9_init p0 p1 p2 p3 h = some q) : Zr h q := by
  unfold f_X9_init at H
  replace H := og H; obtain ⟨g1, H⟩ := H
  replace H := og H; obtain ⟨g2, H⟩ := H
  have e3 := Zr.sR (h := h) (a := p0) (k := 0) (v := some p1) Zr.rf
  replace H := og H; obtain ⟨g5, H⟩ := H
  replace H := og H; obtain ⟨g6, H⟩ := H
  replace H := og H; obtain ⟨g7, H⟩ := H
  have e8 := Zr.nw (h := (sR h p0 0 (some p1))) (kd := 15) (ln := (nI (hLn (sR h p0 0 (some p1)) p1)).toNatClampNeg) (ns := (nI (hLn (sR h p0 0 (some p1)) p1)).toNatClampNeg) Zr.rf g7
  replace H := obh H; obtain ⟨h11, e12, H⟩ := H
  replace H := og H; obtain ⟨g16, H⟩ := H
  have e17 := Zr.sR (h := h11) (a := p0) (k := 1) (v := some (hN (sR h p0 0 (some p1)))) Zr.rf
  obtain rfl := Option.some.inj H
  exact ((((kZ e12 (e3.tr e8)).tr e17).sI).sI)
set_option maxHeartbeats 4000000 in
set_option maxRecDepth 20000 in
theorem z_X6_read  {h : HS} {q : ((Option Nat) × HS)} (H : f_X6_read h = some q) : Zr h q.2 := by
  unfold f_X6_read at H
  replace H := ob H; obtain ⟨q1, c2, H⟩ := H
  have e3 := z_X6_split c2
  replace H := ob H; obtain ⟨q5, c6, H⟩ := H
  have e7 := z_X6_readPart c6
  replace H := ob H; obtain ⟨q9, c10, H⟩ := H
  have e11 := z_X6_readPart c10
  replace H := ob H; obtain ⟨q13, c14, H⟩ := H
  have e15 := z_X6_readPart c14
  replace H := ob H; obtain ⟨q17, c18, H⟩ := H
  have e19 := z_X6_ask c18
  replace H := oi H; obtain ⟨c21, H⟩ | ⟨c21, H⟩ := H
  · replace H := og H; obtain ⟨g22, H⟩ := H
    have e23 := Zr.nw (h := (sI q17 39 1 (0 : Int32))) (kd := 11) (ln := 0) (ns := 4) Zr.rf g22
    replace H := obh H; obtain ⟨h25, e26, H⟩ := H
    replace H := ob H; obtain ⟨q29, c30, H⟩ := H
    have e33 := z_J7_copyOf_59c91 c30
    replace H := oom H; obtain ⟨e31, H⟩ | ⟨b32, e31, H⟩ := H
    · exact nz H
    · replace H := ob H; obtain ⟨q36, c37, H⟩ := H
      have e38 := z_X9_init c37
      obtain rfl := Option.some.inj H
      exact (((kZ e26 (((((((((e3.sI).sI).sI).tr e7).tr e11).tr e15).tr e19).sI).tr e23)).tr e33).tr e38)
  · obtain rfl := Option.some.inj H
    exact ((((((((e3.sI).sI).sI).tr e7).tr e11).tr e15).tr e19).sI)
set_option maxHeartbeats 4000000 in
set_option maxRecDepth 20000 in
theorem z_Jxc12de_init_da8c8 {p0 : Nat} {h : HS} {q : HS} (H : f_Jxc12de_init_da8c8 p0 h = some q) : Zr h q := by
  unfold f_Jxc12de_init_da8c8 at H
  replace H := ob H; obtain ⟨q1, c2, H⟩ := H
  replace H := og H; obtain ⟨g3, H⟩ := H
  obtain rfl := Option.some.inj H
  exact (Zr.rf.sI)
set_option maxHeartbeats 4000000 in
set_option maxRecDepth 20000 in
theorem z_Jx4a65c_init_da8c8 {p0 : Nat} {h : HS} {q : HS} (H : f_Jx4a65c_init_da8c8 p0 h = some q) : Zr h q := by
  unfold f_Jx4a65c_init_da8c8 at H
  replace H := ob H; obtain ⟨q1, c2, H⟩ := H
  have e3 := z_Jxc12de_init_da8c8 c2
  replace H := og H; obtain ⟨g4, H⟩ := H
  replace H := og H; obtain ⟨g5, H⟩ := H
  have e6 := Zr.sR (h := q1) (a := p0) (k := 1) (v := some 27) Zr.rf
  obtain rfl := Option.some.inj H
  exact (e3.tr e6)
set_option maxHeartbeats 4000000 in
set_option maxRecDepth 20000 in
theorem z_Jx4a65c_grow_92f84 {p0 : Nat} {p1 : Int32} {h : HS} {q : ((Option Nat) × HS)} (H : f_Jx4a65c_grow_92f84 p0 p1 h = some q) : Zr h q.2 := by
  unfold f_Jx4a65c_grow_92f84 at H
  replace H := og H; obtain ⟨g1, H⟩ := H
  replace H := oom H; obtain ⟨-, H⟩ | ⟨b2, e3, H⟩ := H
  · exact nz H
  replace H := oi H; obtain ⟨c44, H⟩ | ⟨c44, H⟩ := H
  · subst c44
    replace H := oom H; obtain ⟨-, H⟩ | ⟨b5, e6, H⟩ := H
    · exact nz H
    replace H := oi H; obtain ⟨c21, H⟩ | ⟨c21, H⟩ := H
    · subst c21
      replace H := og H; obtain ⟨g8, H⟩ := H
      replace H := og H; obtain ⟨g9, H⟩ := H
      have e10 := Zr.nw (h := h) (kd := 18) (ln := (if (10 : Int32) < p1 then p1 else (10 : Int32)).toNatClampNeg) (ns := (if (10 : Int32) < p1 then p1 else (10 : Int32)).toNatClampNeg) Zr.rf g9
      replace H := obh H; obtain ⟨h12, e13, H⟩ := H
      replace H := og H; obtain ⟨g16, H⟩ := H
      have e17 := Zr.sR (h := h12) (a := p0) (k := 1) (v := some (hN h)) Zr.rf
      obtain rfl := Option.some.inj H
      exact ((kZ e13 e10).tr e17)
    · exact nz H
  · replace H := og H; obtain ⟨g22, H⟩ := H
    replace H := oi H; obtain ⟨c23, H⟩ | ⟨c23, H⟩ := H
    · exact nz H
    · replace H := oom H; obtain ⟨-, H⟩ | ⟨b24, e25, H⟩ := H
      · exact nz H
      replace H := oi H; obtain ⟨c43, H⟩ | ⟨c43, H⟩ := H
      · subst c43
        replace H := og H; obtain ⟨g27, H⟩ := H
        replace H := og H; obtain ⟨g28, H⟩ := H
        have e29 := Zr.nw (h := h) (kd := 18) (ln := (if (10 : Int32) < p1 then p1 else (10 : Int32)).toNatClampNeg) (ns := (if (10 : Int32) < p1 then p1 else (10 : Int32)).toNatClampNeg) Zr.rf g28
        replace H := obh H; obtain ⟨h32, e33, H⟩ := H
        replace H := og H; obtain ⟨g37, H⟩ := H
        have e38 := Zr.sR (h := h32) (a := p0) (k := 1) (v := some (hN h)) Zr.rf
        obtain rfl := Option.some.inj H
        exact ((kZ e33 e29).tr e38)
      · exact nz H
set_option maxHeartbeats 4000000 in
set_option maxRecDepth 20000 in
theorem z_Jx4a65c_grow_d5877 {p0 : Nat} {h : HS} {q : ((Option Nat) × HS)} (H : f_Jx4a65c_grow_d5877 p0 h = some q) : Zr h q.2 := by
  unfold f_Jx4a65c_grow_d5877 at H
  replace H := og H; obtain ⟨g1, H⟩ := H
  replace H := ob H; obtain ⟨q2, c3, H⟩ := H
  have e6 := z_Jx4a65c_grow_92f84 c3
  replace H := oom H; obtain ⟨e4, H⟩ | ⟨b5, e4, H⟩ := H
  · obtain rfl := Option.some.inj H
    exact e6
  · obtain rfl := Option.some.inj H
    exact e6
set_option maxHeartbeats 4000000 in
set_option maxRecDepth 20000 in
theorem z_Jx4a65c_add_72be8 {p0 : Nat} {p1 : Nat} {p2 : Nat} {p3 : Int32} {h : HS} {q : HS} (H : f_Jx4a65c_add_72be8 p0 p1 p2 p3 h = some q) : Zr h q := by
  unfold f_Jx4a65c_add_72be8 at H
  replace H := oi H; obtain ⟨c0, H⟩ | ⟨c0, H⟩ := H
  · subst c0
    replace H := oi H; obtain ⟨c1, H⟩ | ⟨c1, H⟩ := H
    · replace H := og H; obtain ⟨g4, H⟩ := H
      replace H := ob H; obtain ⟨q2, c3, H⟩ := H
      have e7 := z_Jx4a65c_grow_d5877 c3
      replace H := oom H; obtain ⟨e5, H⟩ | ⟨b6, e5, H⟩ := H
      · exact nz H
      · replace H := og H; obtain ⟨g9, H⟩ := H
        replace H := og H; obtain ⟨g10, H⟩ := H
        replace H := og H; obtain ⟨g11, H⟩ := H
        replace H := og H; obtain ⟨g12, H⟩ := H
        have e13 := Zr.sR (h := q2.2) (a := b6) (k := p3.toNatClampNeg) (v := (some p1)) Zr.rf
        obtain rfl := Option.some.inj H
        exact ((e7.tr e13).sI)
    · exact nz H
  · replace H := og H; obtain ⟨g16, H⟩ := H
    replace H := oi H; obtain ⟨c17, H⟩ | ⟨c17, H⟩ := H
    · replace H := og H; obtain ⟨g26, H⟩ := H
      replace H := ob H; obtain ⟨q24, c25, H⟩ := H
      have e29 := z_Jx4a65c_grow_d5877 c25
      replace H := oom H; obtain ⟨e27, H⟩ | ⟨b28, e27, H⟩ := H
      · exact nz H
      · replace H := og H; obtain ⟨g32, H⟩ := H
        replace H := og H; obtain ⟨g33, H⟩ := H
        replace H := og H; obtain ⟨g34, H⟩ := H
        replace H := og H; obtain ⟨g35, H⟩ := H
        have e36 := Zr.sR (h := q24.2) (a := b28) (k := p3.toNatClampNeg) (v := (some p1)) Zr.rf
        obtain rfl := Option.some.inj H
        exact ((e29.tr e36).sI)
    · replace H := og H; obtain ⟨g18, H⟩ := H
      replace H := og H; obtain ⟨g19, H⟩ := H
      replace H := og H; obtain ⟨g20, H⟩ := H
      have e21 := Zr.sR (h := h) (a := p2) (k := p3.toNatClampNeg) (v := (some p1)) Zr.rf
      replace H := og H; obtain ⟨g23, H⟩ := H
      obtain rfl := Option.some.inj H
      exact (e21.sI)
set_option maxHeartbeats 4000000 in
set_option maxRecDepth 20000 in
theorem z_Jx4a65c_add_9ea2d {p0 : Nat} {p1 : Nat} {h : HS} {q : (Bool × HS)} (H : f_Jx4a65c_add_9ea2d p0 p1 h = some q) : Zr h q.2 := by
  unfold f_Jx4a65c_add_9ea2d at H
  replace H := og H; obtain ⟨g1, H⟩ := H
  replace H := oom H; obtain ⟨-, H⟩ | ⟨b2, e3, H⟩ := H
  · exact nz H
  replace H := oi H; obtain ⟨c12, H⟩ | ⟨c12, H⟩ := H
  · subst c12
    replace H := ob H; obtain ⟨q4, c5, H⟩ := H
    have e6 := z_Jx4a65c_add_72be8 c5
    obtain rfl := Option.some.inj H
    exact ((Zr.rf.sI).tr e6)
  · replace H := ob H; obtain ⟨q8, c9, H⟩ := H
    have e10 := z_Jx4a65c_add_72be8 c9
    obtain rfl := Option.some.inj H
    exact ((Zr.rf.sI).tr e10)
set_option maxHeartbeats 4000000 in
set_option maxRecDepth 20000 in
theorem z_X11_init {p0 : Nat} {h : HS} {q : HS} (H : f_X11_init p0 h = some q) : Zr h q := by
  unfold f_X11_init at H
  replace H := og H; obtain ⟨g1, H⟩ := H
  have e2 := Zr.nw (h := h) (kd := 1) (ln := 0) (ns := 3) Zr.rf g1
  replace H := obh H; obtain ⟨h3, e4, H⟩ := H
  replace H := ob H; obtain ⟨q6, c7, H⟩ := H
  have e9 := z_Jx4a65c_init_da8c8 c7
  have e8 := e9.w
  replace H := og H; obtain ⟨g11, H⟩ := H
  have e12 := Zr.sR (h := q6) (a := p0) (k := 0) (v := some (hN h)) Zr.rf
  replace H := og H; obtain ⟨g15, H⟩ := H
  have e16 := Zr.nw (h := (sR q6 p0 0 (some (hN h)))) (kd := 1) (ln := 0) (ns := 3) Zr.rf g15
  replace H := obh H; obtain ⟨h19, e20, H⟩ := H
  replace H := ob H; obtain ⟨q24, c25, H⟩ := H
  have e27 := z_Jx4a65c_init_da8c8 c25
  have e26 := e27.w
  have e31 := Zr.sR (h := q24) (a := p0) (k := 1) (v := some (hN (sR q6 p0 0 (some (hN h))))) Zr.rf
  replace H := og H; obtain ⟨g35, H⟩ := H
  have e36 := Zr.nw (h := (sR q24 p0 1 (some (hN (sR q6 p0 0 (some (hN h))))))) (kd := 1) (ln := 0) (ns := 3) Zr.rf g35
  replace H := obh H; obtain ⟨h40, e41, H⟩ := H
  replace H := ob H; obtain ⟨q46, c47, H⟩ := H
  have e49 := z_Jx4a65c_init_da8c8 c47
  have e48 := e49.w
  have e54 := Zr.sR (h := q46) (a := p0) (k := 2) (v := some (hN (sR q24 p0 1 (some (hN (sR q6 p0 0 (some (hN h)))))))) Zr.rf
  replace H := og H; obtain ⟨g59, H⟩ := H
  have e60 := Zr.nw (h := (sI (sR q46 p0 2 (some (hN (sR q24 p0 1 (some (hN (sR q6 p0 0 (some (hN h))))))))) p0 3 (0 : Int32))) (kd := 15) (ln := (300 : Int32).toNatClampNeg) (ns := (300 : Int32).toNatClampNeg) Zr.rf g59
  replace H := obh H; obtain ⟨h65, e66, H⟩ := H
  have e72 := Zr.sR (h := h65) (a := p0) (k := 4) (v := some (hN (sI (sR q46 p0 2 (some (hN (sR q24 p0 1 (some (hN (sR q6 p0 0 (some (hN h))))))))) p0 3 (0 : Int32)))) Zr.rf
  replace H := og H; obtain ⟨g78, H⟩ := H
  have e79 := Zr.nw (h := (sI (sR h65 p0 4 (some (hN (sI (sR q46 p0 2 (some (hN (sR q24 p0 1 (some (hN (sR q6 p0 0 (some (hN h))))))))) p0 3 (0 : Int32))))) p0 5 (0 : Int32))) (kd := 15) (ln := (6 : Int32).toNatClampNeg) (ns := (6 : Int32).toNatClampNeg) Zr.rf g78
  replace H := obh H; obtain ⟨h85, e86, H⟩ := H
  have e93 := Zr.sR (h := h85) (a := p0) (k := 6) (v := some (hN (sI (sR h65 p0 4 (some (hN (sI (sR q46 p0 2 (some (hN (sR q24 p0 1 (some (hN (sR q6 p0 0 (some (hN h))))))))) p0 3 (0 : Int32))))) p0 5 (0 : Int32)))) Zr.rf
  replace H := obh H; obtain ⟨h100, e101, H⟩ := H
  replace H := og H; obtain ⟨g108, H⟩ := H
  have e109 := Zr.nw (h := h100) (kd := 15) (ln := (6 : Int32).toNatClampNeg) (ns := (6 : Int32).toNatClampNeg) Zr.rf g108
  replace H := obh H; obtain ⟨h116, e117, H⟩ := H
  have e125 := Zr.sR (h := h116) (a := p0) (k := 7) (v := some (hN h100)) Zr.rf
  replace H := og H; obtain ⟨g133, H⟩ := H
  have e134 := Zr.nw (h := (sI (sR h116 p0 7 (some (hN h100))) p0 8 (0 : Int32))) (kd := 8) (ln := 0) (ns := 9) Zr.rf g133
  replace H := obh H; obtain ⟨h142, e143, H⟩ := H
  replace H := ob H; obtain ⟨q152, c153, H⟩ := H
  have e154 := z_X6_init c153
  have e163 := Zr.sR (h := q152) (a := p0) (k := 9) (v := some (hN (sI (sR h116 p0 7 (some (hN h100))) p0 8 (0 : Int32)))) Zr.rf
  replace H := og H; obtain ⟨g172, H⟩ := H
  have e173 := Zr.nw (h := (sR q152 p0 9 (some (hN (sI (sR h116 p0 7 (some (hN h100))) p0 8 (0 : Int32)))))) (kd := 7) (ln := 0) (ns := 5) Zr.rf g172
  replace H := obh H; obtain ⟨h182, e183, H⟩ := H
  replace H := ob H; obtain ⟨q193, c194, H⟩ := H
  have e195 := z_X5_init c194
  have e205 := Zr.sR (h := q193) (a := p0) (k := 10) (v := some (hN (sR q152 p0 9 (some (hN (sI (sR h116 p0 7 (some (hN h100))) p0 8 (0 : Int32))))))) Zr.rf
  replace H := og H; obtain ⟨g215, H⟩ := H
  have e216 := Zr.nw (h := (sR q193 p0 10 (some (hN (sR q152 p0 9 (some (hN (sI (sR h116 p0 7 (some (hN h100))) p0 8 (0 : Int32))))))))) (kd := 19) (ln := (4 : Int32).toNatClampNeg) (ns := (4 : Int32).toNatClampNeg) Zr.rf g215
  replace H := obh H; obtain ⟨h226, e227, H⟩ := H
  have e238 := Zr.sR (h := h226) (a := p0) (k := 11) (v := some (hN (sR q193 p0 10 (some (hN (sR q152 p0 9 (some (hN (sI (sR h116 p0 7 (some (hN h100))) p0 8 (0 : Int32)))))))))) Zr.rf
  replace H := og H; obtain ⟨g249, H⟩ := H
  have e250 := Zr.nw (h := (sR h226 p0 11 (some (hN (sR q193 p0 10 (some (hN (sR q152 p0 9 (some (hN (sI (sR h116 p0 7 (some (hN h100))) p0 8 (0 : Int32)))))))))))) (kd := 15) (ln := (4 : Int32).toNatClampNeg) (ns := (4 : Int32).toNatClampNeg) Zr.rf g249
  replace H := obh H; obtain ⟨h261, e262, H⟩ := H
  have e274 := Zr.sR (h := h261) (a := p0) (k := 12) (v := some (hN (sR h226 p0 11 (some (hN (sR q193 p0 10 (some (hN (sR q152 p0 9 (some (hN (sI (sR h116 p0 7 (some (hN h100))) p0 8 (0 : Int32))))))))))))) Zr.rf
  replace H := obh H; obtain ⟨h286, e287, H⟩ := H
  replace H := og H; obtain ⟨g299, H⟩ := H
  have e300 := Zr.nw (h := h286) (kd := 4) (ln := 0) (ns := 3) Zr.rf g299
  replace H := obh H; obtain ⟨h312, e313, H⟩ := H
  replace H := ob H; obtain ⟨q326, c327, H⟩ := H
  have e328 := z_X2_init c327
  have e341 := Zr.sR (h := q326) (a := p0) (k := 13) (v := some (hN h286)) Zr.rf
  replace H := og H; obtain ⟨g354, H⟩ := H
  have e355 := Zr.nw (h := (sR q326 p0 13 (some (hN h286)))) (kd := 15) (ln := (6 : Int32).toNatClampNeg) (ns := (6 : Int32).toNatClampNeg) Zr.rf g354
  replace H := obh H; obtain ⟨h368, e369, H⟩ := H
  have e383 := Zr.sR (h := h368) (a := p0) (k := 14) (v := some (hN (sR q326 p0 13 (some (hN h286))))) Zr.rf
  replace H := og H; obtain ⟨g397, H⟩ := H
  have e398 := Zr.nw (h := (sR h368 p0 14 (some (hN (sR q326 p0 13 (some (hN h286))))))) (kd := 15) (ln := (4 : Int32).toNatClampNeg) (ns := (4 : Int32).toNatClampNeg) Zr.rf g397
  replace H := obh H; obtain ⟨h412, e413, H⟩ := H
  have e428 := Zr.sR (h := h412) (a := p0) (k := 15) (v := some (hN (sR h368 p0 14 (some (hN (sR q326 p0 13 (some (hN h286)))))))) Zr.rf
  replace H := og H; obtain ⟨g443, H⟩ := H
  have e444 := Zr.nw (h := (sR h412 p0 15 (some (hN (sR h368 p0 14 (some (hN (sR q326 p0 13 (some (hN h286)))))))))) (kd := 16) (ln := (40 : Int32).toNatClampNeg) (ns := (40 : Int32).toNatClampNeg) Zr.rf g443
  replace H := obh H; obtain ⟨h459, e460, H⟩ := H
  have e476 := Zr.sR (h := h459) (a := p0) (k := 16) (v := some (hN (sR h412 p0 15 (some (hN (sR h368 p0 14 (some (hN (sR q326 p0 13 (some (hN h286))))))))))) Zr.rf
  replace H := og H; obtain ⟨g492, H⟩ := H
  have e493 := Zr.nw (h := (sR h459 p0 16 (some (hN (sR h412 p0 15 (some (hN (sR h368 p0 14 (some (hN (sR q326 p0 13 (some (hN h286))))))))))))) (kd := 16) (ln := (40 : Int32).toNatClampNeg) (ns := (40 : Int32).toNatClampNeg) Zr.rf g492
  replace H := obh H; obtain ⟨h509, e510, H⟩ := H
  have e527 := Zr.sR (h := h509) (a := p0) (k := 17) (v := some (hN (sR h459 p0 16 (some (hN (sR h412 p0 15 (some (hN (sR h368 p0 14 (some (hN (sR q326 p0 13 (some (hN h286)))))))))))))) Zr.rf
  replace H := og H; obtain ⟨g544, H⟩ := H
  have e545 := Zr.nw (h := (sR h509 p0 17 (some (hN (sR h459 p0 16 (some (hN (sR h412 p0 15 (some (hN (sR h368 p0 14 (some (hN (sR q326 p0 13 (some (hN h286)))))))))))))))) (kd := 15) (ln := (8 : Int32).toNatClampNeg) (ns := (8 : Int32).toNatClampNeg) Zr.rf g544
  replace H := obh H; obtain ⟨h562, e563, H⟩ := H
  have e581 := Zr.sR (h := h562) (a := p0) (k := 18) (v := some (hN (sR h509 p0 17 (some (hN (sR h459 p0 16 (some (hN (sR h412 p0 15 (some (hN (sR h368 p0 14 (some (hN (sR q326 p0 13 (some (hN h286))))))))))))))))) Zr.rf
  replace H := obh H; obtain ⟨h599, e600, H⟩ := H
  replace H := og H; obtain ⟨g618, H⟩ := H
  have e619 := Zr.nw (h := h599) (kd := 15) (ln := (201 : Int32).toNatClampNeg) (ns := (201 : Int32).toNatClampNeg) Zr.rf g618
  replace H := obh H; obtain ⟨h637, e638, H⟩ := H
  have e657 := Zr.sR (h := h637) (a := p0) (k := 19) (v := some (hN h599)) Zr.rf
  replace H := oom H; obtain ⟨-, H⟩ | ⟨b676, e677, H⟩ := H
  · exact nz H
  replace H := og H; obtain ⟨g678, H⟩ := H
  subst g678
  replace H := og H; obtain ⟨g679, H⟩ := H
  replace H := ob H; obtain ⟨q681, c682, H⟩ := H
  have e684 := z_X6_spell c682
  have e683 := e684.w
  replace H := oom H; obtain ⟨-, H⟩ | ⟨b704, e705, H⟩ := H
  · exact nz H
  replace H := og H; obtain ⟨g706, H⟩ := H
  subst g706
  replace H := ob H; obtain ⟨q707, c708, H⟩ := H
  have e712 := z_X6_read c708
  have e711 := e712.w
  replace H := oom H; obtain ⟨e709, H⟩ | ⟨b710, e709, H⟩ := H
  · obtain rfl := Option.some.inj H
    exact ((((kZ e638 ((kZ e600 ((kZ e563 (((kZ e510 (((kZ e460 (((kZ e413 (((kZ e369 ((((kZ e313 ((kZ e287 ((kZ e262 (((kZ e227 ((((kZ e183 ((((kZ e143 ((((kZ e117 ((kZ e101 ((kZ e86 ((((kZ e66 (((((kZ e41 ((((kZ e20 ((((kZ e4 e2).tr e8).tr e12).tr e16)).tr e26).tr e31).tr e36)).tr e48).tr e54).sI).tr e60)).tr e72).sI).tr e79)).tr e93)).tr e109)).tr e125).sI).tr e134)).tr e154).tr e163).tr e173)).tr e195).tr e205).tr e216)).tr e238).tr e250)).tr e274)).tr e300)).tr e328).tr e341).tr e355)).tr e383).tr e398)).tr e428).tr e444)).tr e476).tr e493)).tr e527).tr e545)).tr e581)).tr e619)).tr e657).tr e683).tr e711)
  · replace H := oom H; obtain ⟨-, H⟩ | ⟨b734, e735, H⟩ := H
    · exact nz H
    replace H := og H; obtain ⟨g738, H⟩ := H
    replace H := ob H; obtain ⟨q736, c737, H⟩ := H
    have e740 := z_Jx4a65c_add_9ea2d c737
    have e739 := e740.w
    obtain rfl := Option.some.inj H
    exact (((((kZ e638 ((kZ e600 ((kZ e563 (((kZ e510 (((kZ e460 (((kZ e413 (((kZ e369 ((((kZ e313 ((kZ e287 ((kZ e262 (((kZ e227 ((((kZ e183 ((((kZ e143 ((((kZ e117 ((kZ e101 ((kZ e86 ((((kZ e66 (((((kZ e41 ((((kZ e20 ((((kZ e4 e2).tr e8).tr e12).tr e16)).tr e26).tr e31).tr e36)).tr e48).tr e54).sI).tr e60)).tr e72).sI).tr e79)).tr e93)).tr e109)).tr e125).sI).tr e134)).tr e154).tr e163).tr e173)).tr e195).tr e205).tr e216)).tr e238).tr e250)).tr e274)).tr e300)).tr e328).tr e341).tr e355)).tr e383).tr e398)).tr e428).tr e444)).tr e476).tr e493)).tr e527).tr e545)).tr e581)).tr e619)).tr e657).tr e683).tr e711).tr e739)
set_option maxHeartbeats 4000000 in
set_option maxRecDepth 20000 in
theorem z_X12_spell_3 {y0 : Nat} {y1 : Int32} {y2 : Int64} : ∀ (n : Nat) {x4 : Int32} {h : HS} {q : HS}, l_X12_spell_3 y0 y1 y2 n x4 h = some q → Zr h q := by
  intro n
  induction n with
  | zero => intro x4 h q H; exact nz H
  | succ n ih =>
    intro x4 h q H
    unfold l_X12_spell_3 at H
    replace H := oi H; obtain ⟨c7, H⟩ | ⟨c7, H⟩ := H
    · obtain rfl := Option.some.inj H
      exact Zr.rf
    · replace H := og H; obtain ⟨g8, H⟩ := H
      replace H := oom H; obtain ⟨-, H⟩ | ⟨b9, e10, H⟩ := H
      · exact nz H
      replace H := og H; obtain ⟨g11, H⟩ := H
      replace H := og H; obtain ⟨g12, H⟩ := H
      exact (Zr.rf.sI).tr (ih H)
set_option maxHeartbeats 4000000 in
set_option maxRecDepth 20000 in
theorem z_X12_spell {p0 : Nat} {p1 : Int32} {p2 : Int64} {h : HS} {q : HS} (H : f_X12_spell p0 p1 p2 h = some q) : Zr h q := by
  unfold f_X12_spell at H
  replace H := ob H; obtain ⟨q13, c14, H⟩ := H
  have e15 := z_X12_spell_3 1000 c14
  obtain rfl := Option.some.inj H
  exact e15
set_option maxHeartbeats 4000000 in
set_option maxRecDepth 20000 in
theorem z_X12_init {p0 : Nat} {h : HS} {q : HS} (H : f_X12_init p0 h = some q) : Zr h q := by
  unfold f_X12_init at H
  replace H := og H; obtain ⟨g1, H⟩ := H
  have e2 := Zr.nw (h := h) (kd := 15) (ln := (960 : Int32).toNatClampNeg) (ns := (960 : Int32).toNatClampNeg) Zr.rf g1
  replace H := obh H; obtain ⟨h3, e4, H⟩ := H
  replace H := og H; obtain ⟨g6, H⟩ := H
  have e7 := Zr.sR (h := h3) (a := p0) (k := 1) (v := some (hN h)) Zr.rf
  replace H := og H; obtain ⟨g10, H⟩ := H
  have e11 := Zr.nw (h := (sR h3 p0 1 (some (hN h)))) (kd := 15) (ln := (6 : Int32).toNatClampNeg) (ns := (6 : Int32).toNatClampNeg) Zr.rf g10
  replace H := obh H; obtain ⟨h14, e15, H⟩ := H
  have e19 := Zr.sR (h := h14) (a := p0) (k := 2) (v := some (hN (sR h3 p0 1 (some (hN h))))) Zr.rf
  replace H := og H; obtain ⟨g23, H⟩ := H
  have e24 := Zr.nw (h := (sR h14 p0 2 (some (hN (sR h3 p0 1 (some (hN h))))))) (kd := 15) (ln := (160 : Int32).toNatClampNeg) (ns := (160 : Int32).toNatClampNeg) Zr.rf g23
  replace H := obh H; obtain ⟨h28, e29, H⟩ := H
  have e34 := Zr.sR (h := h28) (a := p0) (k := 5) (v := some (hN (sR h14 p0 2 (some (hN (sR h3 p0 1 (some (hN h)))))))) Zr.rf
  replace H := og H; obtain ⟨g39, H⟩ := H
  have e40 := Zr.nw (h := (sR h28 p0 5 (some (hN (sR h14 p0 2 (some (hN (sR h3 p0 1 (some (hN h)))))))))) (kd := 15) (ln := (8 : Int32).toNatClampNeg) (ns := (8 : Int32).toNatClampNeg) Zr.rf g39
  replace H := obh H; obtain ⟨h45, e46, H⟩ := H
  have e52 := Zr.sR (h := h45) (a := p0) (k := 7) (v := some (hN (sR h28 p0 5 (some (hN (sR h14 p0 2 (some (hN (sR h3 p0 1 (some (hN h))))))))))) Zr.rf
  replace H := og H; obtain ⟨g58, H⟩ := H
  have e59 := Zr.nw (h := (sR h45 p0 7 (some (hN (sR h28 p0 5 (some (hN (sR h14 p0 2 (some (hN (sR h3 p0 1 (some (hN h))))))))))))) (kd := 15) (ln := (8 : Int32).toNatClampNeg) (ns := (8 : Int32).toNatClampNeg) Zr.rf g58
  replace H := obh H; obtain ⟨h65, e66, H⟩ := H
  have e73 := Zr.sR (h := h65) (a := p0) (k := 8) (v := some (hN (sR h45 p0 7 (some (hN (sR h28 p0 5 (some (hN (sR h14 p0 2 (some (hN (sR h3 p0 1 (some (hN h)))))))))))))) Zr.rf
  replace H := og H; obtain ⟨g80, H⟩ := H
  have e81 := Zr.nw (h := (sR h65 p0 8 (some (hN (sR h45 p0 7 (some (hN (sR h28 p0 5 (some (hN (sR h14 p0 2 (some (hN (sR h3 p0 1 (some (hN h)))))))))))))))) (kd := 15) (ln := (8 : Int32).toNatClampNeg) (ns := (8 : Int32).toNatClampNeg) Zr.rf g80
  replace H := obh H; obtain ⟨h88, e89, H⟩ := H
  have e97 := Zr.sR (h := h88) (a := p0) (k := 9) (v := some (hN (sR h65 p0 8 (some (hN (sR h45 p0 7 (some (hN (sR h28 p0 5 (some (hN (sR h14 p0 2 (some (hN (sR h3 p0 1 (some (hN h))))))))))))))))) Zr.rf
  replace H := obh H; obtain ⟨h105, e106, H⟩ := H
  replace H := og H; obtain ⟨g114, H⟩ := H
  have e115 := Zr.nw (h := h105) (kd := 15) (ln := (8 : Int32).toNatClampNeg) (ns := (8 : Int32).toNatClampNeg) Zr.rf g114
  replace H := obh H; obtain ⟨h123, e124, H⟩ := H
  have e133 := Zr.sR (h := h123) (a := p0) (k := 10) (v := some (hN h105)) Zr.rf
  replace H := og H; obtain ⟨g142, H⟩ := H
  have e143 := Zr.nw (h := (sR h123 p0 10 (some (hN h105)))) (kd := 15) (ln := (8 : Int32).toNatClampNeg) (ns := (8 : Int32).toNatClampNeg) Zr.rf g142
  replace H := obh H; obtain ⟨h152, e153, H⟩ := H
  have e163 := Zr.sR (h := h152) (a := p0) (k := 11) (v := some (hN (sR h123 p0 10 (some (hN h105))))) Zr.rf
  replace H := og H; obtain ⟨g173, H⟩ := H
  have e174 := Zr.nw (h := (sR h152 p0 11 (some (hN (sR h123 p0 10 (some (hN h105))))))) (kd := 15) (ln := (8 : Int32).toNatClampNeg) (ns := (8 : Int32).toNatClampNeg) Zr.rf g173
  replace H := obh H; obtain ⟨h184, e185, H⟩ := H
  have e196 := Zr.sR (h := h184) (a := p0) (k := 12) (v := some (hN (sR h152 p0 11 (some (hN (sR h123 p0 10 (some (hN h105)))))))) Zr.rf
  replace H := og H; obtain ⟨g207, H⟩ := H
  have e208 := Zr.nw (h := (sR h184 p0 12 (some (hN (sR h152 p0 11 (some (hN (sR h123 p0 10 (some (hN h105)))))))))) (kd := 15) (ln := (8 : Int32).toNatClampNeg) (ns := (8 : Int32).toNatClampNeg) Zr.rf g207
  replace H := obh H; obtain ⟨h219, e220, H⟩ := H
  have e232 := Zr.sR (h := h219) (a := p0) (k := 13) (v := some (hN (sR h184 p0 12 (some (hN (sR h152 p0 11 (some (hN (sR h123 p0 10 (some (hN h105))))))))))) Zr.rf
  replace H := og H; obtain ⟨g244, H⟩ := H
  have e245 := Zr.nw (h := (sR h219 p0 13 (some (hN (sR h184 p0 12 (some (hN (sR h152 p0 11 (some (hN (sR h123 p0 10 (some (hN h105))))))))))))) (kd := 15) (ln := (6 : Int32).toNatClampNeg) (ns := (6 : Int32).toNatClampNeg) Zr.rf g244
  replace H := obh H; obtain ⟨h257, e258, H⟩ := H
  have e271 := Zr.sR (h := h257) (a := p0) (k := 15) (v := some (hN (sR h219 p0 13 (some (hN (sR h184 p0 12 (some (hN (sR h152 p0 11 (some (hN (sR h123 p0 10 (some (hN h105)))))))))))))) Zr.rf
  replace H := og H; obtain ⟨g284, H⟩ := H
  have e285 := Zr.nw (h := (sR h257 p0 15 (some (hN (sR h219 p0 13 (some (hN (sR h184 p0 12 (some (hN (sR h152 p0 11 (some (hN (sR h123 p0 10 (some (hN h105)))))))))))))))) (kd := 15) (ln := (6 : Int32).toNatClampNeg) (ns := (6 : Int32).toNatClampNeg) Zr.rf g284
  replace H := obh H; obtain ⟨h298, e299, H⟩ := H
  have e313 := Zr.sR (h := h298) (a := p0) (k := 16) (v := some (hN (sR h257 p0 15 (some (hN (sR h219 p0 13 (some (hN (sR h184 p0 12 (some (hN (sR h152 p0 11 (some (hN (sR h123 p0 10 (some (hN h105))))))))))))))))) Zr.rf
  replace H := obh H; obtain ⟨h327, e328, H⟩ := H
  replace H := og H; obtain ⟨g342, H⟩ := H
  have e343 := Zr.nw (h := h327) (kd := 15) (ln := (6 : Int32).toNatClampNeg) (ns := (6 : Int32).toNatClampNeg) Zr.rf g342
  replace H := obh H; obtain ⟨h357, e358, H⟩ := H
  have e373 := Zr.sR (h := h357) (a := p0) (k := 17) (v := some (hN h327)) Zr.rf
  replace H := og H; obtain ⟨g388, H⟩ := H
  have e389 := Zr.nw (h := (sR h357 p0 17 (some (hN h327)))) (kd := 15) (ln := (60 : Int32).toNatClampNeg) (ns := (60 : Int32).toNatClampNeg) Zr.rf g388
  replace H := obh H; obtain ⟨h404, e405, H⟩ := H
  have e421 := Zr.sR (h := h404) (a := p0) (k := 20) (v := some (hN (sR h357 p0 17 (some (hN h327))))) Zr.rf
  replace H := og H; obtain ⟨g437, H⟩ := H
  have e438 := Zr.nw (h := (sR h404 p0 20 (some (hN (sR h357 p0 17 (some (hN h327))))))) (kd := 15) (ln := (60 : Int32).toNatClampNeg) (ns := (60 : Int32).toNatClampNeg) Zr.rf g437
  replace H := obh H; obtain ⟨h454, e455, H⟩ := H
  have e472 := Zr.sR (h := h454) (a := p0) (k := 21) (v := some (hN (sR h404 p0 20 (some (hN (sR h357 p0 17 (some (hN h327)))))))) Zr.rf
  replace H := og H; obtain ⟨g489, H⟩ := H
  have e490 := Zr.nw (h := (sR h454 p0 21 (some (hN (sR h404 p0 20 (some (hN (sR h357 p0 17 (some (hN h327)))))))))) (kd := 15) (ln := (60 : Int32).toNatClampNeg) (ns := (60 : Int32).toNatClampNeg) Zr.rf g489
  replace H := obh H; obtain ⟨h507, e508, H⟩ := H
  have e526 := Zr.sR (h := h507) (a := p0) (k := 22) (v := some (hN (sR h454 p0 21 (some (hN (sR h404 p0 20 (some (hN (sR h357 p0 17 (some (hN h327))))))))))) Zr.rf
  replace H := og H; obtain ⟨g544, H⟩ := H
  have e545 := Zr.nw (h := (sR h507 p0 22 (some (hN (sR h454 p0 21 (some (hN (sR h404 p0 20 (some (hN (sR h357 p0 17 (some (hN h327))))))))))))) (kd := 15) (ln := (60 : Int32).toNatClampNeg) (ns := (60 : Int32).toNatClampNeg) Zr.rf g544
  replace H := obh H; obtain ⟨h563, e564, H⟩ := H
  have e583 := Zr.sR (h := h563) (a := p0) (k := 23) (v := some (hN (sR h507 p0 22 (some (hN (sR h454 p0 21 (some (hN (sR h404 p0 20 (some (hN (sR h357 p0 17 (some (hN h327)))))))))))))) Zr.rf
  replace H := og H; obtain ⟨g602, H⟩ := H
  have e603 := Zr.nw (h := (sR h563 p0 23 (some (hN (sR h507 p0 22 (some (hN (sR h454 p0 21 (some (hN (sR h404 p0 20 (some (hN (sR h357 p0 17 (some (hN h327)))))))))))))))) (kd := 15) (ln := (60 : Int32).toNatClampNeg) (ns := (60 : Int32).toNatClampNeg) Zr.rf g602
  replace H := obh H; obtain ⟨h622, e623, H⟩ := H
  have e643 := Zr.sR (h := h622) (a := p0) (k := 24) (v := some (hN (sR h563 p0 23 (some (hN (sR h507 p0 22 (some (hN (sR h454 p0 21 (some (hN (sR h404 p0 20 (some (hN (sR h357 p0 17 (some (hN h327))))))))))))))))) Zr.rf
  replace H := obh H; obtain ⟨h663, e664, H⟩ := H
  replace H := og H; obtain ⟨g684, H⟩ := H
  have e685 := Zr.nw (h := h663) (kd := 15) (ln := (6 : Int32).toNatClampNeg) (ns := (6 : Int32).toNatClampNeg) Zr.rf g684
  replace H := obh H; obtain ⟨h705, e706, H⟩ := H
  have e727 := Zr.sR (h := h705) (a := p0) (k := 42) (v := some (hN h663)) Zr.rf
  replace H := og H; obtain ⟨g748, H⟩ := H
  have e749 := Zr.nw (h := (sR h705 p0 42 (some (hN h663)))) (kd := 15) (ln := (36 : Int32).toNatClampNeg) (ns := (36 : Int32).toNatClampNeg) Zr.rf g748
  replace H := obh H; obtain ⟨h770, e771, H⟩ := H
  have e793 := Zr.sR (h := h770) (a := p0) (k := 43) (v := some (hN (sR h705 p0 42 (some (hN h663))))) Zr.rf
  replace H := og H; obtain ⟨g815, H⟩ := H
  have e816 := Zr.nw (h := (sR h770 p0 43 (some (hN (sR h705 p0 42 (some (hN h663))))))) (kd := 15) (ln := (8 : Int32).toNatClampNeg) (ns := (8 : Int32).toNatClampNeg) Zr.rf g815
  replace H := obh H; obtain ⟨h838, e839, H⟩ := H
  have e862 := Zr.sR (h := h838) (a := p0) (k := 45) (v := some (hN (sR h770 p0 43 (some (hN (sR h705 p0 42 (some (hN h663)))))))) Zr.rf
  replace H := og H; obtain ⟨g885, H⟩ := H
  have e886 := Zr.nw (h := (sR h838 p0 45 (some (hN (sR h770 p0 43 (some (hN (sR h705 p0 42 (some (hN h663)))))))))) (kd := 15) (ln := (8 : Int32).toNatClampNeg) (ns := (8 : Int32).toNatClampNeg) Zr.rf g885
  replace H := obh H; obtain ⟨h909, e910, H⟩ := H
  have e934 := Zr.sR (h := h909) (a := p0) (k := 46) (v := some (hN (sR h838 p0 45 (some (hN (sR h770 p0 43 (some (hN (sR h705 p0 42 (some (hN h663))))))))))) Zr.rf
  replace H := og H; obtain ⟨g958, H⟩ := H
  have e959 := Zr.nw (h := (sR h909 p0 46 (some (hN (sR h838 p0 45 (some (hN (sR h770 p0 43 (some (hN (sR h705 p0 42 (some (hN h663))))))))))))) (kd := 15) (ln := (201 : Int32).toNatClampNeg) (ns := (201 : Int32).toNatClampNeg) Zr.rf g958
  replace H := obh H; obtain ⟨h983, e984, H⟩ := H
  have e1009 := Zr.sR (h := h983) (a := p0) (k := 47) (v := some (hN (sR h909 p0 46 (some (hN (sR h838 p0 45 (some (hN (sR h770 p0 43 (some (hN (sR h705 p0 42 (some (hN h663)))))))))))))) Zr.rf
  replace H := og H; obtain ⟨g1034, H⟩ := H
  have e1035 := Zr.nw (h := (sR h983 p0 47 (some (hN (sR h909 p0 46 (some (hN (sR h838 p0 45 (some (hN (sR h770 p0 43 (some (hN (sR h705 p0 42 (some (hN h663)))))))))))))))) (kd := 15) (ln := (32 : Int32).toNatClampNeg) (ns := (32 : Int32).toNatClampNeg) Zr.rf g1034
  replace H := obh H; obtain ⟨h1060, e1061, H⟩ := H
  have e1087 := Zr.sR (h := h1060) (a := p0) (k := 48) (v := some (hN (sR h983 p0 47 (some (hN (sR h909 p0 46 (some (hN (sR h838 p0 45 (some (hN (sR h770 p0 43 (some (hN (sR h705 p0 42 (some (hN h663))))))))))))))))) Zr.rf
  replace H := obh H; obtain ⟨h1113, e1114, H⟩ := H
  replace H := og H; obtain ⟨g1140, H⟩ := H
  have e1141 := Zr.nw (h := h1113) (kd := 17) (ln := (4 : Int32).toNatClampNeg) (ns := (4 : Int32).toNatClampNeg) Zr.rf g1140
  replace H := obh H; obtain ⟨h1167, e1168, H⟩ := H
  have e1195 := Zr.sR (h := h1167) (a := p0) (k := 53) (v := some (hN h1113)) Zr.rf
  replace H := og H; obtain ⟨g1222, H⟩ := H
  have e1223 := Zr.nw (h := (sR h1167 p0 53 (some (hN h1113)))) (kd := 15) (ln := (4 : Int32).toNatClampNeg) (ns := (4 : Int32).toNatClampNeg) Zr.rf g1222
  replace H := obh H; obtain ⟨h1250, e1251, H⟩ := H
  have e1279 := Zr.sR (h := h1250) (a := p0) (k := 54) (v := some (hN (sR h1167 p0 53 (some (hN h1113))))) Zr.rf
  replace H := og H; obtain ⟨g1307, H⟩ := H
  have e1308 := Zr.nw (h := (sR h1250 p0 54 (some (hN (sR h1167 p0 53 (some (hN h1113))))))) (kd := 15) (ln := (4 : Int32).toNatClampNeg) (ns := (4 : Int32).toNatClampNeg) Zr.rf g1307
  replace H := obh H; obtain ⟨h1336, e1337, H⟩ := H
  have e1366 := Zr.sR (h := h1336) (a := p0) (k := 55) (v := some (hN (sR h1250 p0 54 (some (hN (sR h1167 p0 53 (some (hN h1113)))))))) Zr.rf
  replace H := og H; obtain ⟨g1395, H⟩ := H
  have e1396 := Zr.nw (h := (sR h1336 p0 55 (some (hN (sR h1250 p0 54 (some (hN (sR h1167 p0 53 (some (hN h1113)))))))))) (kd := 15) (ln := (160 : Int32).toNatClampNeg) (ns := (160 : Int32).toNatClampNeg) Zr.rf g1395
  replace H := obh H; obtain ⟨h1425, e1426, H⟩ := H
  have e1456 := Zr.sR (h := h1425) (a := p0) (k := 56) (v := some (hN (sR h1336 p0 55 (some (hN (sR h1250 p0 54 (some (hN (sR h1167 p0 53 (some (hN h1113))))))))))) Zr.rf
  replace H := ob H; obtain ⟨q1486, c1487, H⟩ := H
  have e1489 := z_X12_spell c1487
  have e1488 := e1489.w
  replace H := ob H; obtain ⟨q1519, c1520, H⟩ := H
  have e1522 := z_X12_spell c1520
  have e1521 := e1522.w
  replace H := ob H; obtain ⟨q1552, c1553, H⟩ := H
  have e1555 := z_X12_spell c1553
  have e1554 := e1555.w
  replace H := ob H; obtain ⟨q1585, c1586, H⟩ := H
  have e1588 := z_X12_spell c1586
  have e1587 := e1588.w
  replace H := ob H; obtain ⟨q1618, c1619, H⟩ := H
  have e1621 := z_X12_spell c1619
  have e1620 := e1621.w
  replace H := ob H; obtain ⟨q1651, c1652, H⟩ := H
  have e1654 := z_X12_spell c1652
  have e1653 := e1654.w
  replace H := ob H; obtain ⟨q1684, c1685, H⟩ := H
  have e1687 := z_X12_spell c1685
  have e1686 := e1687.w
  replace H := oom H; obtain ⟨-, H⟩ | ⟨b1717, e1718, H⟩ := H
  · exact nz H
  replace H := og H; obtain ⟨g1719, H⟩ := H
  replace H := og H; obtain ⟨g1720, H⟩ := H
  obtain rfl := Option.some.inj H
  exact (((((((((((kZ e1426 (((kZ e1337 (((kZ e1251 (((kZ e1168 ((kZ e1114 ((kZ e1061 (((kZ e984 (((kZ e910 (((kZ e839 (((kZ e771 (((kZ e706 ((kZ e664 ((kZ e623 (((kZ e564 (((kZ e508 (((kZ e455 (((kZ e405 (((kZ e358 ((kZ e328 ((kZ e299 (((kZ e258 (((kZ e220 (((kZ e185 (((kZ e153 (((kZ e124 ((kZ e106 ((kZ e89 (((kZ e66 (((kZ e46 (((kZ e29 (((kZ e15 (((kZ e4 e2).tr e7).tr e11)).tr e19).tr e24)).tr e34).tr e40)).tr e52).tr e59)).tr e73).tr e81)).tr e97)).tr e115)).tr e133).tr e143)).tr e163).tr e174)).tr e196).tr e208)).tr e232).tr e245)).tr e271).tr e285)).tr e313)).tr e343)).tr e373).tr e389)).tr e421).tr e438)).tr e472).tr e490)).tr e526).tr e545)).tr e583).tr e603)).tr e643)).tr e685)).tr e727).tr e749)).tr e793).tr e816)).tr e862).tr e886)).tr e934).tr e959)).tr e1009).tr e1035)).tr e1087)).tr e1141)).tr e1195).tr e1223)).tr e1279).tr e1308)).tr e1366).tr e1396)).tr e1456).tr e1488).tr e1521).tr e1554).tr e1587).tr e1620).tr e1653).tr e1686).sI).sI)
