theorem ot {α : Type} {P : Prop} {D : Decidable P} {A B y : α} (c : P) (H : @ite α P D A B = y) : A = y := by rw [if_pos c] at H; exact H
theorem of_ {α : Type} {P : Prop} {D : Decidable P} {A B y : α} (c : ¬ P) (H : @ite α P D A B = y) : B = y := by rw [if_neg c] at H; exact H
theorem og {α : Type} {P : Prop} {D : Decidable P} {A : Option α} {y : α} (H : @ite (Option α) P D A none = some y) : P ∧ A = some y := by
  by_cases c : P
  · rw [if_pos c] at H; exact ⟨c, H⟩
  · rw [if_neg c] at H; cases H
theorem oi {α : Type} {P : Prop} {D : Decidable P} {A B y : α} (H : @ite α P D A B = y) : (P ∧ A = y) ∨ (¬ P ∧ B = y) := by
  by_cases c : P
  · rw [if_pos c] at H; exact Or.inl ⟨c, H⟩
  · rw [if_neg c] at H; exact Or.inr ⟨c, H⟩
theorem ob {α β : Type} {o : Option α} {f : α → Option β} {y : β} (H : Option.bind o f = some y) : ∃ q, o = some q ∧ f q = some y := by
  cases o with
  | none => cases H
  | some q => exact ⟨q, rfl, H⟩
def om {β : Type} (r : Option Nat) (A : β) (B : Nat → β) : β := match r with
  | none => A
  | some a => B a
theorem oom {β : Type} {r : Option Nat} {A y : β} {B : Nat → β} (H : om r A B = y) : (r = none ∧ A = y) ∨ ∃ a, r = some a ∧ B a = y := by
  cases r with
  | none => exact Or.inl ⟨rfl, H⟩
  | some a => exact Or.inr ⟨a, rfl, H⟩
theorem oSl {α β γ : Type} {f : α → γ} {g : β → γ} {v : α} {y : γ} (H : Sum.elim f g (Sum.inl v) = y) : f v = y := H
theorem oSr {α β γ : Type} {f : α → γ} {g : β → γ} {v : β} {y : γ} (H : Sum.elim f g (Sum.inr v) = y) : g v = y := H
theorem nz {α : Type} {C : Prop} {q : α} (H : (none : Option α) = some q) : C := by cases H
theorem i32_ne {x y : Int32} (h : ¬ x = y) : x.toInt ≠ y.toInt := fun q => h (Int32.toInt_inj.mp q)
def chr (v : Int32) : Bool := decide (v.toUInt32.toUInt16.toUInt32.toInt32 = v)
theorem chr_n {v : Int32} (h : chr v = true) : narrow .char (.int v) = .int v := by
  show Value.int _ = _
  rw [of_decide_eq_true h]
/-- the heap grows, and kinds and lengths stay -/
def Prw (h h' : HS) : Prop := hN h ≤ hN h' ∧ ∀ a, hT h a ≠ 0 → hT h' a = hT h a ∧ hLn h' a = hLn h a
theorem Pr.w {h h' : HS} (e : Pr h h') : Prw h h' := ⟨e.1, fun a ha => ⟨(e.2 a ha).1, (e.2 a ha).2.1⟩⟩
theorem Prw.rf {h : HS} : Prw h h := ⟨Nat.le_refl _, fun _ _ => ⟨rfl, rfl⟩⟩
theorem Prw.tr {h h1 h2 : HS} (e : Prw h h1) (f : Prw h1 h2) : Prw h h2 := ⟨Nat.le_trans e.1 f.1, fun a ha => by
  obtain ⟨e1, e2⟩ := e.2 a ha
  obtain ⟨f1, f2⟩ := f.2 a (by rw [e1]; exact ha)
  exact ⟨f1.trans e1, f2.trans e2⟩⟩
theorem Prw.sI {h0 h : HS} {a k : Nat} {v : Int32} (e : Prw h0 h) : Prw h0 (sI h a k v) := e
theorem Prw.sL {h0 h : HS} {a k : Nat} {v : Int64} (e : Prw h0 h) : Prw h0 (sL h a k v) := e
theorem Prw.sC_ : True := trivial
theorem Prw.sR {h0 h : HS} {a k : Nat} {v : Option Nat} (e : Prw h0 h) : Prw h0 (sR h a k v) := e
theorem Prw.nw {h0 h : HS} {kd ln ns : Nat} (e : Prw h0 h) (g : hT h (hN h) = 0) : Prw h0 (hNew h kd ln ns) := e.tr (Pr.nw (h0 := h) Pr.rf g).w
theorem Prw.k {h h' : HS} {a k : Nat} (e : Prw h h') (g : hT h a = k) (hk : k ≠ 0) : hT h' a = k := by
  rw [(e.2 a (by rw [g]; exact hk)).1, g]
theorem Prw.b {P : Nat → Bool} {h h' : HS} {a : Nat} (e : Prw h h') (g : P (hT h a) = true) (h0 : P 0 = false) : P (hT h' a) = true := by
  rw [(e.2 a (fun q => by rw [q, h0] at g; cases g)).1]; exact g
def isSp (k : Nat) : Bool := k == 9
def isDr (k : Nat) : Bool := k == 2
def isGa (k : Nat) : Bool := k == 3
def bh {β : Type} (E : HS) (f : HS → β) : β := f E
theorem obh {β : Type} {E : HS} {f : HS → β} {y : β} (H : bh E f = y) : ∃ h1, E = h1 ∧ f h1 = y := ⟨E, rfl, H⟩
theorem kT {E h1 : HS} {a k : Nat} (e : E = h1) (p : hT E a = k) : hT h1 a = k := by rw [← e]; exact p
theorem kB {P : Nat → Bool} {E h1 : HS} {a : Nat} (e : E = h1) (p : P (hT E a) = true) : P (hT h1 a) = true := by rw [← e]; exact p
theorem kY {T : LT} {E h1 : HS} (e : E = h1) (p : LY T E) : LY T h1 := by rw [← e]; exact p
theorem kP {h0 E h1 : HS} (e : E = h1) (p : Pr h0 E) : Pr h0 h1 := by rw [← e]; exact p
theorem kW {h0 E h1 : HS} (e : E = h1) (p : Prw h0 E) : Prw h0 h1 := by rw [← e]; exact p
theorem nb {b : Bool} (h : b = false) : ¬ b = true := by rw [h]; decide
def ixb (i : Int32) (n : Nat) : Bool := !(decide (i < 0)) && decide (i.toNatClampNeg < n)
theorem ixb_in {i : Int32} {n : Nat} (h : ixb i n = true) : vp_in i n := by
  unfold ixb at h
  simp only [Bool.and_eq_true, Bool.not_eq_true', decide_eq_false_iff_not, decide_eq_true_eq] at h
  exact fun q => q.elim h.1 (fun z => absurd h.2 (Nat.not_lt.mpr z))
theorem ixb_y {i : Int32} {n m : Nat} (e : m = n) (h : ixb i n = true) : vp_in i m := by rw [e]; exact ixb_in h
def nab (n : Int32) : Bool := !(decide (n < 0)) && decide (n.toNatClampNeg ≤ 60000000)
theorem nab_t {n : Int32} (h : nab n = true) : ¬ n < 0 ∧ n.toNatClampNeg ≤ 60000000 := by
  unfold nab at h
  simpa only [Bool.and_eq_true, Bool.not_eq_true', decide_eq_false_iff_not, decide_eq_true_eq] using h
def z01 (v : Int32) : Bool := decide (v = 0) || decide (v = 1)
theorem z01_t {v : Int32} (h : z01 v = true) : v = 0 ∨ v = 1 := by
  unfold z01 at h
  simpa only [Bool.or_eq_true, decide_eq_true_eq] using h
theorem z01_b {v : Int32} (h : z01 v = true) : v = b2i (decide (v = 1)) := by
  rcases z01_t h with e | e <;> subst e <;> rfl
theorem b2i_01 (b : Bool) : b2i b = 0 ∨ b2i b = 1 := by cases b; exact Or.inl rfl; exact Or.inr rfl
theorem ii_ {x c : Int32} {n : Int} (e : Int32.ofInt n = c) : x + Int32.ofInt n = x + c := by rw [e]
def isSt (k : Nat) : Bool := k == 2 || k == 3 || k == 6 || k == 9 || k == 10 || k == 12
def isHv (k : Nat) : Bool := k == 3 || k == 6
def isTg (k : Nat) : Bool := k == 9 || k == 12
theorem isSt_c {k : Nat} (h : isSt k = true) : k = 2 ∨ k = 3 ∨ k = 6 ∨ k = 9 ∨ k = 10 ∨ k = 12 := by
  simp only [isSt, Bool.or_eq_true, beq_iff_eq] at h; omega
theorem isHv_c {k : Nat} (h : isHv k = true) : k = 3 ∨ k = 6 := by
  simp only [isHv, Bool.or_eq_true, beq_iff_eq] at h; omega
theorem isTg_c {k : Nat} (h : isTg k = true) : k = 9 ∨ k = 12 := by
  simp only [isTg, Bool.or_eq_true, beq_iff_eq] at h; omega
def isEl (k : Nat) : Bool := isSt k || k == 5 || k == 11
theorem isEl_c {k : Nat} (h : isEl k = true) : k = 2 ∨ k = 3 ∨ k = 6 ∨ k = 9 ∨ k = 10 ∨ k = 12 ∨ k = 5 ∨ k = 11 := by
  simp only [isEl, isSt, Bool.or_eq_true, beq_iff_eq] at h; omega
theorem lkn : lwk [] [] := trivial
theorem lk1 {a : Value} {as bs : List Value} (h : lwk as bs) : lwk (a :: as) (a :: bs) := ⟨Or.inr rfl, h⟩
theorem lk0 {a : Value} {as bs : List Value} (h : lwk as bs) : lwk (a :: as) (dum :: bs) := ⟨Or.inl rfl, h⟩
/-- n ints of one array laid into another -/
def sC (h : HS) (a0 sp a1 dp n : Nat) : HS := (h.1, h.2.1, h.2.2.1, (fun b j => if b = a1 then va_cpy (hI h a0) (hI h a1) sp dp n j else hI h b j), hL h, hR h)
theorem Pr.sC {h0 h : HS} {a0 sp a1 dp n : Nat} (e : Pr h0 h) : Pr h0 (sC h a0 sp a1 dp n) := e
theorem LY.sC {T : LT} {h : HS} {a0 sp a1 dp n : Nat} (hY : LY T h) : LY T (sC h a0 sp a1 dp n) := hY
theorem kI {h : HS} {a b j k : Nat} {v : Int32} (p : hT h a = k) : hT (sI h b j v) a = k := p
theorem kL {h : HS} {a b j k : Nat} {v : Int64} (p : hT h a = k) : hT (sL h b j v) a = k := p
theorem kC {h : HS} {a k a0 sp a1 dp n : Nat} (p : hT h a = k) : hT (sC h a0 sp a1 dp n) a = k := p
theorem kIb {P : Nat → Bool} {h : HS} {a b j : Nat} {v : Int32} (p : P (hT h a) = true) : P (hT (sI h b j v) a) = true := p
theorem kLb {P : Nat → Bool} {h : HS} {a b j : Nat} {v : Int64} (p : P (hT h a) = true) : P (hT (sL h b j v) a) = true := p
theorem kCb {P : Nat → Bool} {h : HS} {a a0 sp a1 dp n : Nat} (p : P (hT h a) = true) : P (hT (sC h a0 sp a1 dp n) a) = true := p
def cpb (sp dp n : Int32) (n0 n1 : Nat) : Bool := !(decide (sp < 0)) && !(decide (dp < 0)) && !(decide (n < 0)) && decide (sp.toNatClampNeg + n.toNatClampNeg ≤ n0) && decide (dp.toNatClampNeg + n.toNatClampNeg ≤ n1)
theorem cpb_t {sp dp n : Int32} {n0 n1 : Nat} (h : cpb sp dp n n0 n1 = true) : ¬ sp < 0 ∧ ¬ dp < 0 ∧ ¬ n < 0 ∧ sp.toNatClampNeg + n.toNatClampNeg ≤ n0 ∧ dp.toNatClampNeg + n.toNatClampNeg ≤ n1 := by
  unfold cpb at h
  simp only [Bool.and_eq_true, Bool.not_eq_true', decide_eq_false_iff_not, decide_eq_true_eq] at h
  exact ⟨h.1.1.1.1, h.1.1.1.2, h.1.1.2, h.1.2, h.2⟩
theorem i32_nn {z : Int32} (hz : ¬ z < 0) : z.toInt = (z.toNatClampNeg : Int) := by
  have hz0 : (0 : Int) ≤ z.toInt := by
    have := Int32.not_lt.mp hz
    simpa using Int32.le_iff_toInt_le.mp this
  show z.toInt = ((z.toInt.toNat : Nat) : Int)
  omega

section
variable {G : GE} {d : Nat} {mi : MI} {pc : Nat} {ls st : List Value} {h h' : HS} {r : Option Value}
theorem e_lc_eq {x y : Int64} {off : Int} {tgt : Nat} (hd : decode mi.2.1 pc = .ok (.lcmp, 1)) (hd2 : decode mi.2.1 (pc + 1) = .ok (.ifCond .eq off, 3)) (ht : ((pc + 1 : Nat) : Int) + off = (tgt : Int)) (kt : x = y → En G d mi tgt ls st h r h') (kf : ¬ (x = y) → En G d mi (pc + 1 + 3) ls st h r h') : En G d mi pc ls (.long y :: .long x :: st) h r h' := e_lcmp hd (e_if_eq hd2 ht (fun c => kt ((lg_cmp_eq _ _).mp c)) (fun c => kf (fun z => c ((lg_cmp_eq _ _).mpr z))))
theorem e_lc_lt {x y : Int64} {off : Int} {tgt : Nat} (hd : decode mi.2.1 pc = .ok (.lcmp, 1)) (hd2 : decode mi.2.1 (pc + 1) = .ok (.ifCond .lt off, 3)) (ht : ((pc + 1 : Nat) : Int) + off = (tgt : Int)) (kt : x < y → En G d mi tgt ls st h r h') (kf : ¬ (x < y) → En G d mi (pc + 1 + 3) ls st h r h') : En G d mi pc ls (.long y :: .long x :: st) h r h' := e_lcmp hd (e_if_lt hd2 ht (fun c => kt ((lg_cmp_lt _ _).mp c)) (fun c => kf (fun z => c ((lg_cmp_lt _ _).mpr z))))
theorem e_lc_ge {x y : Int64} {off : Int} {tgt : Nat} (hd : decode mi.2.1 pc = .ok (.lcmp, 1)) (hd2 : decode mi.2.1 (pc + 1) = .ok (.ifCond .ge off, 3)) (ht : ((pc + 1 : Nat) : Int) + off = (tgt : Int)) (kt : y ≤ x → En G d mi tgt ls st h r h') (kf : ¬ (y ≤ x) → En G d mi (pc + 1 + 3) ls st h r h') : En G d mi pc ls (.long y :: .long x :: st) h r h' := e_lcmp hd (e_if_ge hd2 ht (fun c => kt ((lg_cmp_ge _ _).mp c)) (fun c => kf (fun z => c ((lg_cmp_ge _ _).mpr z))))
theorem e_lc_gt {x y : Int64} {off : Int} {tgt : Nat} (hd : decode mi.2.1 pc = .ok (.lcmp, 1)) (hd2 : decode mi.2.1 (pc + 1) = .ok (.ifCond .gt off, 3)) (ht : ((pc + 1 : Nat) : Int) + off = (tgt : Int)) (kt : y < x → En G d mi tgt ls st h r h') (kf : ¬ (y < x) → En G d mi (pc + 1 + 3) ls st h r h') : En G d mi pc ls (.long y :: .long x :: st) h r h' := e_lcmp hd (e_if_gt hd2 ht (fun c => kt ((lg_cmp_gt _ _).mp c)) (fun c => kf (fun z => c ((lg_cmp_gt _ _).mpr z))))
theorem e_lc_le {x y : Int64} {off : Int} {tgt : Nat} (hd : decode mi.2.1 pc = .ok (.lcmp, 1)) (hd2 : decode mi.2.1 (pc + 1) = .ok (.ifCond .le off, 3)) (ht : ((pc + 1 : Nat) : Int) + off = (tgt : Int)) (kt : x ≤ y → En G d mi tgt ls st h r h') (kf : ¬ (x ≤ y) → En G d mi (pc + 1 + 3) ls st h r h') : En G d mi pc ls (.long y :: .long x :: st) h r h' := e_lcmp hd (e_if_le hd2 ht (fun c => kt ((lg_cmp_le _ _).mp c)) (fun c => kf (fun z => c ((lg_cmp_le _ _).mpr z))))
theorem e_lc_ne {x y : Int64} {off : Int} {tgt : Nat} (hd : decode mi.2.1 pc = .ok (.lcmp, 1)) (hd2 : decode mi.2.1 (pc + 1) = .ok (.ifCond .ne off, 3)) (ht : ((pc + 1 : Nat) : Int) + off = (tgt : Int)) (kt : ¬ x = y → En G d mi tgt ls st h r h') (kf : x = y → En G d mi (pc + 1 + 3) ls st h r h') : En G d mi pc ls (.long y :: .long x :: st) h r h' := e_lcmp hd (e_if_ne hd2 ht (fun c => kt (fun z => c ((lg_cmp_eq _ _).mpr z))) (fun c => kf ((lg_cmp_eq _ _).mp c)))
theorem e_hq {E h1 : HS} (e : E = h1) (k : En G d mi pc ls st h1 r h') : En G d mi pc ls st E r h' := by rw [e]; exact k
theorem e_scl (hd : decode mi.2.1 pc = .ok (.arraylength, 1)) (kk : En G d mi (pc + 1) ls (.int (nI (G.2.1 100)) :: st) h r h') : En G d mi pc ls (.ref 28 :: st) h r h' :=
  kk.link (@fun p l e R s m args below meth c H locs cells slots Q lsr hx hb ho ht hK hS hRel w => va_tlen hx hb hK.2.2.2.2.1.2.2 hS rfl hd w)
theorem e_sca {j : Int32} (hin : vp_in j (G.2.1 100)) (hd : decode mi.2.1 pc = .ok (.iaload, 1)) (kk : En G d mi (pc + 1) ls (.int (nI (G.2.1 (101 + j.toNatClampNeg))) :: st) h r h') : En G d mi pc ls (.int j :: .ref 28 :: st) h r h' :=
  kk.link (@fun p l e R s m args below meth c H locs cells slots Q lsr hx hb ho ht hK hS hRel w => va_ti hx hb hK.2.2.2.2.1.2.2 hS hin rfl hd w)
theorem AOa.use {s : State} {args : Array Value} (h : AOa s) : (Cond.arrayOver (.array .int)).before args s = true := by
  obtain ⟨comp, c, k, h1, h2, h3, h4, h5⟩ := h
  have e1 : (FieldType.array .int).toString = "[I" := by decide
  have e2 : "[" ++ (FieldType.array .int).toString = "[[I" := by decide
  simp only [Cond.before, Cond.holds, Cond.value, e1, e2, h1, h5, Option.bind_some]
  refine (congrArg (fun o : Option Nat => (Option.bind o _ == some true)) h2).trans ?_
  simp [h3, h4, h5]
theorem e_anewI {index : Nat} {n : Int32} (w1 : Cond.classLink mi.1 index "[I" ∈ gT) (hn : ¬ n < 0) (hs : n.toNatClampNeg ≤ 60000000) (hd : decode mi.2.1 pc = .ok (.anewarray index, 3)) (kk : En G d mi (pc + 3) ls (.ref (hN h) :: st) (hNew h 19 n.toNatClampNeg n.toNatClampNeg) r h') : En G d mi pc ls (.int n :: st) h r h' := by
  have k1 : hN h + 1 ≤ hN h' := kk.1
  have k2 : hS h + n.toNatClampNeg ≤ hS h' := kk.2.1
  refine ⟨by omega, by omega, fun p l e R s m args below meth c c0 s0 mc ms hC cells slots H locs lsr hD => ?_⟩
  have hCC := hC
  obtain ⟨hx, hb, hr, hml, ho, ht, hK, hlk, hin, r1, r2, r3, r4, r5, r6⟩ := hC
  obtain ⟨d1, d2, hS, hRel, hl⟩ := hD
  refine W.anewA (t := .int) hx hb ho (ht _ w1) (AOa.use hK.2.2.2.2.1.2.1) rfl hd rfl hn (by omega) (by omega) (by omega) fun cA kA comp f1 f2 f3 f4 => ?_
  generalize hH1 : H.push ({ cls := cA, slots := Array.replicate n.toNatClampNeg .null, vm := .none } : Cell) = H1
  have z1 : H1.size = H.size + 1 := by rw [← hH1, Array.size_push]
  have e1 : H1[H.size]? = some (arrV cA n.toNatClampNeg (fun _ => .null)) := by rw [← hH1, Array.getElem?_push_size, ← arrV_new]
  have o1 : ∀ q : Nat, q < H.size → H1[q]? = H[q]? := fun q hq => by rw [← hH1, Array.getElem?_push, if_neg (Nat.ne_of_lt hq)]
  have hsz := hRel.sz
  have g4 : s.vm.findClass ("[" ++ (elT 19).toString) = some (G.2.2.2.2 19) := (arr_of hK (kd := 19) (by decide) (by decide)).2
  have hcA : cA = G.2.2.2.2 19 := Option.some.inj (f1.symm.trans g4)
  have w := kk.2.2 p l e R s m args below meth c c0 s0 mc ms hCC (cells + 1) (slots + n.toNatClampNeg) H1 locs lsr ⟨by show hN h + 1 = _; omega, by show _root_.Jvm.Pilot.CThreeBallsLaw_law_r5125_ff5d20.hS h + n.toNatClampNeg = _; omega, S_new hS z1 o1, hRel.new (by omega) z1 o1 ⟨fun q => absurd q (by rw [show hT (hNew h 19 n.toNatClampNeg n.toNatClampNeg) (hN h) = 19 from va_up_self _ _ _]; omega), fun _ => ?_⟩, hl⟩
  · rw [← hsz]
    exact w
  · rw [show hT (hNew h 19 n.toNatClampNeg n.toNatClampNeg) (hN h) = 19 from va_up_self _ _ _, show hLn (hNew h 19 n.toNatClampNeg n.toNatClampNeg) (hN h) = n.toNatClampNeg from va_up_self _ _ _, hsz, e1, hcA]
    congr 2
    funext j
    exact rdv_new0 (ty := .array .int) rfl
theorem as_self (vm : Vm) (c : ClassId) : vm.assignable c c = true := by
  show vm.assignableAux (255 + 1) c c = true
  rw [Vm.assignableAux]
  simp only [beq_self_eq_true, Bool.true_or]
theorem e_aastN {a kd : Nat} {i : Int32} (hk : hT h a = kd) (hkd : kd = 19) (hin : vp_in i (hLn h a)) (hd : decode mi.2.1 pc = .ok (.aastore, 1)) (kk : En G d mi (pc + 1) ls st (sR h a i.toNatClampNeg none) r h') : En G d mi pc ls (.null :: .int i :: .ref a :: st) h r h' :=
  ⟨kk.1, kk.2.1, fun p l e R s m args below meth c c0 s0 mc ms hC cells slots H locs lsr hD => by
    subst hkd
    have hRel := hD.2.2.2.1
    have hK : KS G s := hC.2.2.2.2.2.2.1
    obtain ⟨hc, hle⟩ := hRel.ar hk (by decide)
    obtain ⟨-, kA, k1, comp, k2⟩ := (arr_of hK (kd := 19) (by decide) hle).1 (hLn h a) (fun j => cv G (rdv h a j (elT 19)))
    have hlt : i.toNatClampNeg < hLn h a := Nat.not_le.mp fun q => hin (Or.inr q)
    intro T hT X
    have hT' : T.heap[ad G a]? = some (arrV (G.2.2.2.2 19) (hLn h a) (fun j => cv G (rdv h a j (elT 19)))) := by rw [hT]; exact hc
    obtain ⟨X', step⟩ := X.aastoreNullIn hC.1 hT' (fun q z => by cases z) (fun z => by cases z) k1 k2 rfl ⟨fun q => hin (Or.inl q), by rw [arrV_size]; exact hlt⟩ (g := F0 m pc lsr (.null :: .int i :: .ref (ad G a) :: st.map (cv G))) rfl rfl (by rw [hC.2.1]; exact hd)
    have hl2 : ad G a < T.heap.size := (Array.getElem?_eq_some_iff.mp hT').1
    have y1 := heapAt_setCell_self (s := T) ((arrV (G.2.2.2.2 19) (hLn h a) (fun j => cv G (rdv h a j (elT 19)))).setSlot i.toNatClampNeg .null) hl2
    have y2 : (T.setCell (ad G a) ((arrV (G.2.2.2.2 19) (hLn h a) (fun j => cv G (rdv h a j (elT 19)))).setSlot i.toNatClampNeg .null)).heap.size = H.size := by rw [size_setCell, hT]
    have y3 : ∀ q : Nat, q ≠ ad G a → (T.setCell (ad G a) ((arrV (G.2.2.2.2 19) (hLn h a) (fun j => cv G (rdv h a j (elT 19)))).setSlot i.toNatClampNeg .null)).heap[q]? = H[q]? := fun q hq => by rw [heapAt_setCell_ne _ (Ne.symm hq), hT]
    obtain ⟨t, q1, q2⟩ := kk.2.2 p l e R s m args below meth c c0 s0 mc ms hC cells slots _ _ lsr ⟨hD.1, hD.2.1, hD.2.2.1.put y2 y3 (hRel.Aa (by omega)), hRel.put (v := .null) hk (by decide) rfl (fun _ => rfl) (fun _ => rfl) (fun b hb j ty => rdv_sR hb j ty) (fun j hj => rdv_sRk hj _) (by simp [rdv, elT, sR, hR, up2, va_rf]) y1 y2 y3, hD.2.2.2.2⟩ _ rfl X'
    exact ⟨t, step t q1, q2⟩⟩
theorem e_aastI {a b kd : Nat} {i : Int32} (hk : hT h a = kd) (hkd : kd = 19) (hin : vp_in i (hLn h a)) (hb : hT h b = 15) (hd : decode mi.2.1 pc = .ok (.aastore, 1)) (kk : En G d mi (pc + 1) ls st (sR h a i.toNatClampNeg (some b)) r h') : En G d mi pc ls (.ref b :: .int i :: .ref a :: st) h r h' :=
  ⟨kk.1, kk.2.1, fun p l e R s m args below meth c c0 s0 mc ms hC cells slots H locs lsr hD => by
    subst hkd
    have hRel := hD.2.2.2.1
    have hK : KS G s := hC.2.2.2.2.2.2.1
    obtain ⟨hc, hle⟩ := hRel.ar hk (by decide)
    obtain ⟨hcb, hleb⟩ := hRel.ar hb (by decide)
    have g4 : s.vm.findClass ("[" ++ (elT 19).toString) = some (G.2.2.2.2 19) := (arr_of hK (kd := 19) (by decide) hle).2
    obtain ⟨comp, cz, kA, k3, -, k1', k2, k5⟩ := hK.2.2.2.2.1.2.1
    have hcz : cz = G.2.2.2.2 19 := Option.some.inj (k5.symm.trans g4)
    have k1 : s.vm.classes[G.2.2.2.2 19]? = some kA := by rw [← hcz]; exact k1'
    have hfc : s.vm.findClass "[I" = some (G.2.2.2.2 15) := (arr_of hK (kd := 15) (by decide) (by decide)).2
    have e3 : comp = G.2.2.2.2 15 := Option.some.inj (k3.symm.trans hfc)
    subst e3
    obtain ⟨kE, hkE, -⟩ := Vm.findClass_spec hfc
    have hlt : i.toNatClampNeg < hLn h a := Nat.not_le.mp fun q => hin (Or.inr q)
    refine W.aast hC.1 hC.2.1 hc (fun q z => by cases z) (fun z => by cases z) k1 k2 rfl hkE ⟨fun q => hin (Or.inl q), by rw [arrV_size]; exact hlt⟩ hcb (fun q z => by cases z) hkE (by show s.vm.assignable (G.2.2.2.2 15) (G.2.2.2.2 15) = true; exact as_self _ _) rfl rfl hd (fun H2 y1 y2 y3 => ?_)
    exact kk.2.2 p l e R s m args below meth c c0 s0 mc ms hC cells slots H2 _ lsr ⟨hD.1, hD.2.1, hD.2.2.1.put y2 y3 (hRel.Aa (by omega)), hRel.put (v := .ref b) hk (by decide) rfl (fun _ => rfl) (fun _ => rfl) (fun b hb j ty => rdv_sR hb j ty) (fun j hj => rdv_sRk hj _) (by simp [rdv, elT, sR, hR, up2, va_rf]) y1 y2 y3, hD.2.2.2.2⟩⟩
theorem e_acopy {index a0 a1 : Nat} {sp dp n : Int32} (hl : Cond.methodLink mi.1 index arraycopyName ∈ gT) (hk0 : hT h a0 = 15) (hk1 : hT h a1 = 15) (hg : cpb sp dp n (hLn h a0) (hLn h a1) = true) (hw : wS st ≤ 8) (hdd : 1 ≤ d) (hd : decode mi.2.1 pc = .ok (.invokestatic index, 3)) (kk : En G d mi (pc + 3) ls st (sC h a0 sp.toNatClampNeg a1 dp.toNatClampNeg n.toNatClampNeg) r h') : En G d mi pc ls (.int n :: .int dp :: .ref a1 :: .int sp :: .ref a0 :: st) h r h' := by
  obtain ⟨g1, g2, g3, g4, g5⟩ := cpb_t hg
  refine ⟨kk.1, kk.2.1, fun p l e R s m args below meth c c0 s0 mc ms hC cells slots H locs lsr hD => ?_⟩
  have hCC := hC
  obtain ⟨hx, hb, hr, hml, ho, ht, hK, hlk, hin, r1, r2, r3, r4, r5, r6⟩ := hC
  obtain ⟨d1, d2, hS, hRel, hl5⟩ := hD
  obtain ⟨hc0, -⟩ := hRel.ar hk0 (by decide)
  obtain ⟨hc1, -⟩ := hRel.ar hk1 (by decide)
  have hA := (arr_of hK (kd := 15) (by decide) (by decide)).1
  obtain ⟨-, k0, hk0', cm0, hkk0⟩ := hA (hLn h a0) (fun j => .int (hI h a0 j))
  intro T hT X
  obtain ⟨vm', X', step⟩ := X.arraycopy hx ho (ht _ hl) (ht _ lz_arraycopy) (ht _ ls_arraycopy) (ht _ lnJ10) (src := ad G a0) (dst := ad G a1) (cs := arrV (G.2.2.2.2 15) (hLn h a0) (fun j => .int (hI h a0 j))) (cd := arrV (G.2.2.2.2 15) (hLn h a1) (fun j => .int (hI h a1 j))) (srcPos := sp) (destPos := dp) (n := n) (by rw [hT]; exact hc0) (by rw [hT]; exact hc1)
    (fun _ q => by cases q) (fun _ q => by cases q) (fun q => by cases q) (fun q => by cases q) hk0' hk0' hkk0 hkk0 (by rfl) g1 g2 g3
    (by rw [i32_nn g1, i32_nn g3]; show ¬ _ > ((arrV (G.2.2.2.2 15) (hLn h a0) (fun j => .int (hI h a0 j))).slots.size : Int); rw [arrV_size]; omega)
    (by rw [i32_nn g2, i32_nn g3]; show ¬ _ > ((arrV (G.2.2.2.2 15) (hLn h a1) (fun j => .int (hI h a1 j))).slots.size : Int); rw [arrV_size]; omega)
    (fun vm₁ _ i hi => by
      have e1 : (arrV (G.2.2.2.2 15) (hLn h a0) (fun j => .int (hI h a0 j))).slots.getD (sp.toNatClampNeg + i) .null = .int (hI h a0 (sp.toNatClampNeg + i)) := by
        rw [Array.getD_eq_getD_getElem?, arrV_read _ _ (by omega)]
        rfl
      rw [e1]
      exact ⟨rfl, trivial⟩)
    (g := F0 m pc lsr (.int n :: .int dp :: .ref (ad G a1) :: .int sp :: .ref (ad G a0) :: st.map (cv G))) rfl (by rw [hml]; exact hl5.1) (rest := st.map (cv G)) rfl (by rw [hb]; exact hd) (by omega) (by
      have := wS_cv hK.2.2.2.2.2.2.2.2.2.2.2.2.2 st
      show 2 * 0 + _ + (nativeFrameWords "java/lang/System" "arraycopy" 5 + 11) ≤ _
      have e9 : nativeFrameWords "java/lang/System" "arraycopy" 5 ≤ 40 := by decide
      omega)
  have e1 : copied (arrV (G.2.2.2.2 15) (hLn h a0) (fun j => .int (hI h a0 j))) (arrV (G.2.2.2.2 15) (hLn h a1) (fun j => .int (hI h a1 j))) sp dp n = arrV (G.2.2.2.2 15) (hLn h a1) (fun j => .int (va_cpy (hI h a0) (hI h a1) sp.toNatClampNeg dp.toNatClampNeg n.toNatClampNeg j)) := va_copied (fun z => .int z) _ _ _ _ g4
  rw [e1] at X' step
  generalize hH2 : H.setIfInBounds (ad G a1) (arrV (G.2.2.2.2 15) (hLn h a1) (fun j => .int (va_cpy (hI h a0) (hI h a1) sp.toNatClampNeg dp.toNatClampNeg n.toNatClampNeg j))) = H2
  have hlt : ad G a1 < H.size := (Array.getElem?_eq_some_iff.mp hc1).1
  have hheap : ((T.setVm vm').setCell (ad G a1) (arrV (G.2.2.2.2 15) (hLn h a1) (fun j => .int (va_cpy (hI h a0) (hI h a1) sp.toNatClampNeg dp.toNatClampNeg n.toNatClampNeg j)))).heap = H2 := by rw [← hH2, ← hT]; rfl
  have y1 : H2[ad G a1]? = some (arrV (G.2.2.2.2 15) (hLn h a1) (fun j => .int (va_cpy (hI h a0) (hI h a1) sp.toNatClampNeg dp.toNatClampNeg n.toNatClampNeg j))) := by rw [← hH2]; simp [Array.getElem?_setIfInBounds, hlt]
  have y2 : H2.size = H.size := by rw [← hH2]; simp
  have y3 : ∀ q : Nat, q ≠ ad G a1 → H2[q]? = H[q]? := fun q hq => by rw [← hH2]; simp [Array.getElem?_setIfInBounds, Ne.symm hq]
  have hR2 : Rel G (sC h a0 sp.toNatClampNeg a1 dp.toNatClampNeg n.toNatClampNeg) H2 := by
    refine hRel.upd (a := a1) (by omega) rfl (fun _ => rfl) (fun _ => rfl) (fun b hb k ty => ?_) y2 y3 ⟨fun q => absurd q (by show ¬ _root_.Jvm.Pilot.CThreeBallsLaw_law_r5125_ff5d20.hT h a1 ≤ 14; omega), fun _ => ?_⟩
    · cases ty <;> simp [rdv, sC, hI, hL, hR, hb]
    · rw [show _root_.Jvm.Pilot.CThreeBallsLaw_law_r5125_ff5d20.hT (sC h a0 sp.toNatClampNeg a1 dp.toNatClampNeg n.toNatClampNeg) a1 = 15 from hk1, show hLn (sC h a0 sp.toNatClampNeg a1 dp.toNatClampNeg n.toNatClampNeg) a1 = hLn h a1 from rfl, y1]
      congr 2
      funext j
      simp [rdv, elT, sC, hI, cv]
  obtain ⟨t, q1, q2⟩ := kk.2.2 p l e R s m args below meth c c0 s0 mc ms hCC cells slots H2 _ lsr ⟨d1, d2, ⟨by rw [y2]; exact hS.1, fun q z1 z2 => by
      rw [y3 q (fun z => z2 (by rw [z]; exact hRel.Aa (by omega)))]
      exact hS.2.1 q z1 z2, fun q hq => by
      rcases List.mem_append.mp hq with z | z
      · exact hS.2.2 q z
      · obtain ⟨w, -, hw2⟩ := List.mem_map.mp z
        rw [← hw2]
        exact hRel.Aa (by omega)⟩, hR2, hl5⟩ _ hheap X'
  exact ⟨t, step t q1, q2⟩
end
