/-! the fixed layout: what is where for good, as finite checks -/
abbrev LT : Type := List (Nat × Nat × Nat) × List (Nat × Nat × Nat)
def TX : LT := ([(32, 13, 0), (33, 1, 0), (34, 1, 0), (35, 1, 0), (36, 15, 300), (37, 15, 6), (38, 15, 6), (39, 8, 0), (40, 15, 160), (41, 15, 161), (42, 15, 161), (43, 15, 160), (44, 7, 0), (45, 15, 32), (46, 19, 4), (47, 15, 4), (48, 4, 0), (49, 15, 400), (50, 15, 6), (51, 15, 4), (52, 16, 40), (53, 16, 40), (54, 15, 8), (55, 15, 201)], [(32, 0, 33), (32, 1, 34), (32, 2, 35), (32, 4, 36), (32, 6, 37), (32, 7, 38), (32, 9, 39), (32, 10, 44), (32, 11, 46), (32, 12, 47), (32, 13, 48), (32, 14, 50), (32, 15, 51), (32, 16, 52), (32, 17, 53), (32, 18, 54), (32, 19, 55), (39, 0, 40), (39, 2, 41), (39, 3, 42), (39, 6, 43), (44, 4, 45), (48, 0, 49)])
def TM : LT := ([(60, 14, 0), (61, 15, 960), (62, 15, 6), (63, 15, 160), (64, 15, 8), (65, 15, 8), (66, 15, 8), (67, 15, 8), (68, 15, 8), (69, 15, 8), (70, 15, 8), (71, 15, 6), (72, 15, 6), (73, 15, 6), (74, 15, 60), (75, 15, 60), (76, 15, 60), (77, 15, 60), (78, 15, 60), (79, 15, 6), (80, 15, 36), (81, 15, 8), (82, 15, 8), (83, 15, 201), (84, 15, 32), (85, 17, 4), (86, 15, 4), (87, 15, 4), (88, 15, 160)], [(60, 1, 61), (60, 2, 62), (60, 5, 63), (60, 7, 64), (60, 8, 65), (60, 9, 66), (60, 10, 67), (60, 11, 68), (60, 12, 69), (60, 13, 70), (60, 15, 71), (60, 16, 72), (60, 17, 73), (60, 20, 74), (60, 21, 75), (60, 22, 76), (60, 23, 77), (60, 24, 78), (60, 42, 79), (60, 43, 80), (60, 45, 81), (60, 46, 82), (60, 47, 83), (60, 48, 84), (60, 53, 85), (60, 54, 86), (60, 55, 87), (60, 56, 88)])
def lyB (T : LT) (h : HS) : Bool := T.1.all (fun x => hT h x.1 == x.2.1 && hLn h x.1 == x.2.2) && T.2.all (fun x => hR h x.1 x.2.1 == some x.2.2)
def LY (T : LT) (h : HS) : Prop := lyB T h = true
theorem LY.kn {T : LT} {h : HS} (hY : LY T h) (i : Nat) {a k n : Nat} (e : T.1[i]? = some (a, k, n)) : hT h a = k ∧ hLn h a = n := by
  unfold LY lyB at hY
  rw [Bool.and_eq_true] at hY
  have := List.all_eq_true.mp hY.1 _ (List.mem_of_getElem? e)
  simpa using this
theorem LY.t {T : LT} {h : HS} (hY : LY T h) (i : Nat) {a k n : Nat} (e : T.1[i]? = some (a, k, n)) : hT h a = k := (hY.kn i e).1
theorem LY.n {T : LT} {h : HS} (hY : LY T h) (i : Nat) {a k n : Nat} (e : T.1[i]? = some (a, k, n)) : hLn h a = n := (hY.kn i e).2
theorem LY.r {T : LT} {h : HS} (hY : LY T h) (i : Nat) {a k b : Nat} (e : T.2[i]? = some (a, k, b)) : hR h a k = some b := by
  unfold LY lyB at hY
  rw [Bool.and_eq_true] at hY
  have := List.all_eq_true.mp hY.2 _ (List.mem_of_getElem? e)
  simpa using this
theorem LY.sI {T : LT} {h : HS} {a k : Nat} {v : Int32} (hY : LY T h) : LY T (sI h a k v) := hY
theorem LY.sL {T : LT} {h : HS} {a k : Nat} {v : Int64} (hY : LY T h) : LY T (sL h a k v) := hY
def fixR (a k : Nat) : Bool := (TX.2 ++ TM.2).any (fun x => x.1 == a && x.2.1 == k)
theorem fixR_no {a k : Nat} (h : (TX.2 ++ TM.2).all (fun x => x.1 != a) = true) : fixR a k = false := by
  unfold fixR
  rw [List.any_eq_false]
  intro x hx
  have := List.all_eq_true.mp h x hx
  simp only [bne_iff_ne, ne_eq] at this
  simp [this]
def ltok (T : LT) : Bool := T.1.all (fun x => x.2.1 != 0) && T.2.all (fun x => fixR x.1 x.2.1 && T.1.any (fun y => y.1 == x.1))
theorem okX : ltok TX = true := by decide +kernel
theorem okM : ltok TM = true := by decide +kernel
/-- the heap grows, and what is fixed stays -/
def Pr (h h' : HS) : Prop := hN h ≤ hN h' ∧ ∀ a, hT h a ≠ 0 → hT h' a = hT h a ∧ hLn h' a = hLn h a ∧ ∀ k, fixR a k = true → hR h' a k = hR h a k
theorem Pr.rf {h : HS} : Pr h h := ⟨Nat.le_refl _, fun _ _ => ⟨rfl, rfl, fun _ _ => rfl⟩⟩
theorem Pr.tr {h h1 h2 : HS} (e : Pr h h1) (f : Pr h1 h2) : Pr h h2 := ⟨Nat.le_trans e.1 f.1, fun a ha => by
  obtain ⟨e1, e2, e3⟩ := e.2 a ha
  obtain ⟨f1, f2, f3⟩ := f.2 a (by rw [e1]; exact ha)
  exact ⟨f1.trans e1, f2.trans e2, fun k hk => (f3 k hk).trans (e3 k hk)⟩⟩
theorem Pr.sI {h0 h : HS} {a k : Nat} {v : Int32} (e : Pr h0 h) : Pr h0 (sI h a k v) := e
theorem Pr.sL {h0 h : HS} {a k : Nat} {v : Int64} (e : Pr h0 h) : Pr h0 (sL h a k v) := e
theorem Pr.sR {h0 h : HS} {a k : Nat} {v : Option Nat} (e : Pr h0 h) (g : fixR a k = false) : Pr h0 (sR h a k v) := e.tr ⟨Nat.le_refl _, fun b _ => ⟨rfl, rfl, fun j hj => by
  show up2 (hR h) a k v b j = _
  unfold up2
  split
  · split
    · rename_i e1 e2
      subst e1; subst e2
      rw [g] at hj; cases hj
    · rfl
  · rfl⟩⟩
theorem hT_new {h : HS} {kd ln ns : Nat} : hT (hNew h kd ln ns) (hN h) = kd := va_up_self _ _ _
theorem hLn_new {h : HS} {kd ln ns : Nat} : hLn (hNew h kd ln ns) (hN h) = ln := va_up_self _ _ _
theorem Pr.nw {h0 h : HS} {kd ln ns : Nat} (e : Pr h0 h) (g : hT h (hN h) = 0) : Pr h0 (hNew h kd ln ns) := e.tr ⟨Nat.le_succ _, fun b hb => by
  have hne : b ≠ hN h := fun q => hb (by rw [q]; exact g)
  exact ⟨va_up_ne _ _ hne, va_up_ne _ _ hne, fun j _ => if_neg hne⟩⟩
theorem Pr.k {h h' : HS} {a k : Nat} (e : Pr h h') (g : hT h a = k) (hk : k ≠ 0) : hT h' a = k := by
  rw [(e.2 a (by rw [g]; exact hk)).1, g]
theorem Pr.b {P : Nat → Bool} {h h' : HS} {a : Nat} (e : Pr h h') (g : P (hT h a) = true) (h0 : P 0 = false) : P (hT h' a) = true := by
  rw [(e.2 a (fun q => by rw [q, h0] at g; cases g)).1]; exact g
theorem LY.pr {T : LT} {h h' : HS} (hY : LY T h) (hok : ltok T = true) (e : Pr h h') : LY T h' := by
  have hY0 := hY
  unfold LY lyB at hY ⊢
  unfold ltok at hok
  rw [Bool.and_eq_true] at hY hok ⊢
  have kinds : ∀ x ∈ T.1, hT h x.1 ≠ 0 ∧ hT h x.1 = x.2.1 ∧ hLn h x.1 = x.2.2 := by
    intro x hx
    have h1 := List.all_eq_true.mp hY.1 x hx
    have h2 := List.all_eq_true.mp hok.1 x hx
    simp only [Bool.and_eq_true, beq_iff_eq, bne_iff_ne, ne_eq] at h1 h2
    exact ⟨by rw [h1.1]; exact h2, h1.1, h1.2⟩
  constructor
  · rw [List.all_eq_true]
    intro x hx
    obtain ⟨k1, k2, k3⟩ := kinds x hx
    obtain ⟨e1, e2, -⟩ := e.2 x.1 k1
    simp [e1, e2, k2, k3]
  · rw [List.all_eq_true]
    intro x hx
    have h1 := List.all_eq_true.mp hY.2 x hx
    have h2 := List.all_eq_true.mp hok.2 x hx
    rw [Bool.and_eq_true] at h2
    obtain ⟨y, hy, hyx⟩ := List.any_eq_true.mp h2.2
    have k1 := (kinds y hy).1
    rw [beq_iff_eq.mp hyx] at k1
    rw [(e.2 x.1 k1).2.2 _ h2.1]
    exact h1
