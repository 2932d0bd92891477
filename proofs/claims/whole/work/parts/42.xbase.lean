/-! ===== the class: lists, tags, frames ===== -/
/-- what is tagged lies in the class's own part, and what isn't made yet has no kind -/
def Wx (tg : Nat → Nat) (h : HS) : Prop := (∀ a, tg a ≠ 0 → (56 ≤ a ∧ (a < 60 ∨ 89 ≤ a)) ∧ a < hN h) ∧ (∀ a, hN h ≤ a → hT h a = 0) ∧ 89 ≤ hN h
/-- what is not among A stays -/
def Fx (A : Nat → Prop) (h h' : HS) : Prop := Pr h h' ∧ ∀ b, b < hN h → ¬ A b → (∀ k, hI h' b k = hI h b k) ∧ (∀ k, hL h' b k = hL h b k) ∧ ∀ k, hR h' b k = hR h b k
theorem Fx.rf {A : Nat → Prop} {h : HS} : Fx A h h := ⟨Pr.rf, fun _ _ _ => ⟨fun _ => rfl, fun _ => rfl, fun _ => rfl⟩⟩
theorem Fx.tr {A : Nat → Prop} {h h1 h2 : HS} (e : Fx A h h1) (f : Fx A h1 h2) : Fx A h h2 := ⟨e.1.tr f.1, fun b hb hA => by
  obtain ⟨e1, e2, e3⟩ := e.2 b hb hA
  obtain ⟨f1, f2, f3⟩ := f.2 b (Nat.lt_of_lt_of_le hb e.1.1) hA
  exact ⟨fun k => (f1 k).trans (e1 k), fun k => (f2 k).trans (e2 k), fun k => (f3 k).trans (e3 k)⟩⟩
theorem Fx.mono {A B : Nat → Prop} {h h' : HS} (e : Fx A h h') (q : ∀ b, b < hN h → A b → B b) : Fx B h h' := ⟨e.1, fun b hb hB => e.2 b hb (fun z => hB (q b hb z))⟩
theorem Fx.sI {A : Nat → Prop} {h h1 : HS} {a k : Nat} {v : Int32} (e : Fx A h h1) (q : A a ∨ hN h ≤ a) : Fx A h (sI h1 a k v) := ⟨e.1.sI, fun b hb hA => by
  obtain ⟨e1, e2, e3⟩ := e.2 b hb hA
  refine ⟨fun j => ?_, e2, e3⟩
  rw [hI_sI, if_neg (fun z => by subst z; rcases q with q | q; exact hA q; omega)]
  exact e1 j⟩
theorem Fx.sL {A : Nat → Prop} {h h1 : HS} {a k : Nat} {v : Int64} (e : Fx A h h1) (q : A a ∨ hN h ≤ a) : Fx A h (sL h1 a k v) := ⟨e.1.sL, fun b hb hA => by
  obtain ⟨e1, e2, e3⟩ := e.2 b hb hA
  refine ⟨e1, fun j => ?_, e3⟩
  rw [hL_sL, if_neg (fun z => by subst z; rcases q with q | q; exact hA q; omega)]
  exact e2 j⟩
theorem Fx.sR {A : Nat → Prop} {h h1 : HS} {a k : Nat} {v : Option Nat} (e : Fx A h h1) (g : fixR a k = false) (q : A a ∨ hN h ≤ a) : Fx A h (sR h1 a k v) := ⟨e.1.sR g, fun b hb hA => by
  obtain ⟨e1, e2, e3⟩ := e.2 b hb hA
  refine ⟨e1, e2, fun j => ?_⟩
  rw [hR_sR, if_neg (fun z => by subst z; rcases q with q | q; exact hA q; omega)]
  exact e3 j⟩
theorem hI_nw {h : HS} {kd ln ns b j : Nat} : hI (hNew h kd ln ns) b j = if b = hN h then 0 else hI h b j := Eq.trans rfl rfl
theorem hL_nw {h : HS} {kd ln ns b j : Nat} : hL (hNew h kd ln ns) b j = if b = hN h then 0 else hL h b j := Eq.trans rfl rfl
theorem hR_nw {h : HS} {kd ln ns b j : Nat} : hR (hNew h kd ln ns) b j = if b = hN h then none else hR h b j := Eq.trans rfl rfl
theorem hT_nw {h : HS} {kd ln ns b : Nat} : hT (hNew h kd ln ns) b = if b = hN h then kd else hT h b := Eq.trans rfl rfl
theorem hLn_nw {h : HS} {kd ln ns b : Nat} : hLn (hNew h kd ln ns) b = if b = hN h then ln else hLn h b := Eq.trans rfl rfl
theorem hN_nw {h : HS} {kd ln ns : Nat} : hN (hNew h kd ln ns) = hN h + 1 := Eq.trans rfl rfl
theorem Fx.nw {A : Nat → Prop} {h h1 : HS} {kd ln ns : Nat} (e : Fx A h h1) (g : hT h1 (hN h1) = 0) : Fx A h (hNew h1 kd ln ns) := ⟨e.1.nw g, fun b hb hA => by
  obtain ⟨e1, e2, e3⟩ := e.2 b hb hA
  have hne : b ≠ hN h1 := by have := e.1.1; omega
  exact ⟨fun j => by rw [hI_nw, if_neg hne]; exact e1 j, fun j => by rw [hL_nw, if_neg hne]; exact e2 j, fun j => by rw [hR_nw, if_neg hne]; exact e3 j⟩⟩
theorem Fx.t {A : Nat → Prop} {h h' : HS} (e : Fx A h h') {a k : Nat} (g : hT h a = k) (hk : k ≠ 0) : hT h' a = k := e.1.k g hk
theorem Fx.n {A : Nat → Prop} {h h' : HS} (e : Fx A h h') {a : Nat} (hk : hT h a ≠ 0) : hLn h' a = hLn h a := (e.1.2 a hk).2.1
theorem fixR_hi {a k : Nat} (h : 56 ≤ a) (h2 : a < 60 ∨ 89 ≤ a) : fixR a k = false := by
  refine fixR_no ?_
  rw [List.all_eq_true]
  intro x hx
  have hb : ∀ x ∈ (TX.2 ++ TM.2), x.1 = 32 ∨ x.1 = 39 ∨ x.1 = 44 ∨ x.1 = 48 ∨ x.1 = 60 := by decide
  have := hb x hx
  simp only [bne_iff_ne, ne_eq]
  omega
theorem fixR_l {a k : Nat} (h : a = 33 ∨ a = 34 ∨ a = 35) : fixR a k = false := by
  refine fixR_no ?_
  rcases h with e | e | e <;> subst e <;> decide
/-- a list of the class: its array has the tag te -/
def XL (tg : Nat → Nat) (h : HS) (l te n : Nat) (el : Nat → Nat) : Prop := hT h l = 1 ∧ hI h l 2 = nI n ∧ n ≤ 8 ∧ ∃ e, hR h l 1 = some e ∧ (e = 27 ∧ n = 0 ∨ e ≠ 27 ∧ tg e = te ∧ hT h e = 18 ∧ hLn h e = 10 ∧ ∀ i, i < n → hR h e i = some (el i))
theorem XL.size {tg : Nat → Nat} {h : HS} {l te n : Nat} {el : Nat → Nat} (hx : XL tg h l te n el) : f_Jx4a65c_size_8abf5 l h = some (nI n) := by
  unfold f_Jx4a65c_size_8abf5
  rw [if_pos hx.1, hx.2.1]
theorem XL.get {tg : Nat → Nat} {h : HS} {l te n i : Nat} {el : Nat → Nat} (hx : XL tg h l te n el) (hi : i < n) : f_Jx4a65c_get_915e3 l (nI i) h = some (some (el i)) := by
  obtain ⟨h1, h2, h3, e, he, hc⟩ := hx
  have hlt : nI i < nI n := nI_lt hi (by omega)
  have hc0 := nI_pos (n := i) (by omega)
  rcases hc with ⟨-, hz⟩ | ⟨c1, c2, c3, c4, c5⟩
  · omega
  · have hix := ixb_n (i := i) (n := 10) (by omega) (by decide)
    unfold f_Jx4a65c_get_915e3 f_J15_checkIndex_7cf53 f_J3_checkIndex_8e157N f_Jx4a65c_elementData_915e3
    simp only [h1, h2, hc0, hlt, he, om_some, c1, c3, c4, hix, if_true, if_false, Option.bind_some, nI_clamp (show i < 2 ^ 31 by omega), c5 i hi]
theorem XL.fx {tg tg' : Nat → Nat} {A : Nat → Prop} {h h' : HS} {l te n : Nat} {el : Nat → Nat} (hx : XL tg h l te n el) (F : Fx A h h') (hl : l < hN h) (ht : ∀ b, b < hN h → tg' b = tg b) (hw : Wx tg h) (hte : te ≠ 0) (hA1 : ¬ A l) (hA2 : ∀ b, tg b = te → ¬ A b) : XL tg' h' l te n el := by
  obtain ⟨h1, h2, h3, e, he, hc⟩ := hx
  refine ⟨F.t h1 (by decide), by rw [(F.2 l hl hA1).1]; exact h2, h3, e, by rw [(F.2 l hl hA1).2.2]; exact he, ?_⟩
  rcases hc with hc | ⟨c1, c2, c3, c4, c5⟩
  · exact Or.inl hc
  · have hlt := (hw.1 e (by rw [c2]; exact hte)).2
    exact Or.inr ⟨c1, by rw [ht e hlt]; exact c2, F.t c3 (by decide), by rw [F.n (by rw [c3]; decide)]; exact c4, fun i hi => by rw [(F.2 e hlt (hA2 e c2)).2.2]; exact c5 i hi⟩
theorem XL.uniq {tg : Nat → Nat} {h : HS} {l te n i : Nat} {el el2 : Nat → Nat} (hx : XL tg h l te n el) (hy : XL tg h l te n el2) (hi : i < n) : el i = el2 i := by
  obtain ⟨-, -, -, e, he, hc⟩ := hx
  obtain ⟨-, -, -, e2, he2, hc2⟩ := hy
  cases he.symm.trans he2
  rcases hc with ⟨-, hz⟩ | ⟨-, -, -, -, c5⟩
  · omega
  rcases hc2 with ⟨-, hz⟩ | ⟨-, -, -, -, d5⟩
  · omega
  exact Option.some.inj ((c5 i hi).symm.trans (d5 i hi))
/-- one more -/
theorem XL.add {tg : Nat → Nat} {h : HS} {l te n a : Nat} {el : Nat → Nat} (hx : XL tg h l te n el) (hw : Wx tg h) (hl : l = 33 ∨ l = 34 ∨ l = 35) (hte : te ≠ 0) (hn : n < 8) (ha : isEl (hT h a) = true) :
    ∃ (h' : HS) (tg' : Nat → Nat), f_Jx4a65c_add_9ea2d l a h = some (true, h') ∧ XL tg' h' l te (n + 1) (fun i => if i = n then a else el i) ∧ Wx tg' h' ∧ (∀ b, b < hN h → tg' b = tg b) ∧ (∀ b, hN h ≤ b → tg' b ≠ 0 → tg' b = te) ∧ Fx (fun b => b = l ∨ tg b = te) h h' := by
  obtain ⟨h1, h2, h3, e, he, hc⟩ := hx
  have hl56 : l < 56 := by omega
  have hf : fixR l 1 = false := fixR_l hl
  have hlN : l ≠ hN h := by have := hw.2.2; omega
  have e27 : ¬ (27 : Nat) = hN h := by have := hw.2.2; omega
  have h10 : nab (if (10 : Int32) < nI n + 1 then nI n + 1 else 10) = true ∧ (if (10 : Int32) < nI n + 1 then nI n + 1 else (10 : Int32)).toNatClampNeg = 10 := by
    have : ¬ (10 : Int32) < nI n + 1 := by
      rw [nI_1, show (10 : Int32) = nI 10 from rfl]; exact nI_nlt (by omega) (by omega)
    rw [if_neg this]; exact ⟨rfl, rfl⟩
  rcases hc with ⟨c1, c2⟩ | ⟨c1, c2, c3, c4, c5⟩
  · subst c1; subst c2
    have hz := hw.2.1 (hN h) (Nat.le_refl _)
    have hfN : fixR (hN h) 0 = false := fixR_hi (by have := hw.2.2; omega) (Or.inr hw.2.2)
    have haN : a ≠ hN h := fun z => by rw [z, hz] at ha; cases ha
    have c0 : (nI 0).toNatClampNeg = 0 := by rfl
    have z0 : Int32.toNatClampNeg 0 = 0 := by rfl
    have z10 : Int32.toNatClampNeg 10 = 10 := by rfl
    have hN27 : hN h ≠ 27 := fun z => e27 z.symm
    have hNl : hN h ≠ l := fun z => hlN z.symm
    refine ⟨sI (sR (sR (hNew (sI h l 0 (hI h l 0 + 1)) 18 10 10) l 1 (some (hN h))) (hN h) 0 (some a)) l 2 (0 + 1), fun b => if b = hN h then te else tg b, by
      unfold f_Jx4a65c_add_9ea2d f_Jx4a65c_add_72be8 f_Jx4a65c_grow_d5877 f_Jx4a65c_grow_92f84
      simp (config := { decide := true }) only [h1, h2, he, hI_sI, hI_sL, hI_sR, hL_sI, hL_sL, hL_sR, hR_sI, hR_sL, hR_sR, hT_sI, hT_sL, hT_sR, hLn_sI, hLn_sL, hLn_sR, hN_sI, hN_sL, hN_sR, hI_nw, hR_nw, hT_nw, hLn_nw, hN_nw, bh_eq, om_some, if_true, if_false, Option.bind_some, h10.1, h10.2, hz, hf, hlN, e27, nI_0, hfN, haN, ha, if_neg haN, c0, z0, z10], ?_, ?_, ?_, ?_, ?_⟩
    · refine ⟨by simp only [hI_sI, hI_sL, hI_sR, hL_sI, hL_sL, hL_sR, hR_sI, hR_sL, hR_sR, hT_sI, hT_sL, hT_sR, hLn_sI, hLn_sL, hLn_sR, hN_sI, hN_sL, hN_sR, hT_nw, if_neg hlN, h1], by simp only [hI_sI, hI_sL, hI_sR, hL_sI, hL_sL, hL_sR, hR_sI, hR_sL, hR_sR, hT_sI, hT_sL, hT_sR, hLn_sI, hLn_sL, hLn_sR, hN_sI, hN_sL, hN_sR, if_true]; rfl, by omega, hN h, by simp only [hI_sI, hI_sL, hI_sR, hL_sI, hL_sL, hL_sR, hR_sI, hR_sL, hR_sR, hT_sI, hT_sL, hT_sR, hLn_sI, hLn_sL, hLn_sR, hN_sI, hN_sL, hN_sR, if_true, if_neg hlN], Or.inr ⟨hN27, if_pos rfl, by simp only [hI_sI, hI_sL, hI_sR, hL_sI, hL_sL, hL_sR, hR_sI, hR_sL, hR_sR, hT_sI, hT_sL, hT_sR, hLn_sI, hLn_sL, hLn_sR, hN_sI, hN_sL, hN_sR, hT_nw, if_true], by simp only [hI_sI, hI_sL, hI_sR, hL_sI, hL_sL, hL_sR, hR_sI, hR_sL, hR_sR, hT_sI, hT_sL, hT_sR, hLn_sI, hLn_sL, hLn_sR, hN_sI, hN_sL, hN_sR, hLn_nw, if_true], fun i hi => ?_⟩⟩
      have : i = 0 := by omega
      subst this
      simp only [hI_sI, hI_sL, hI_sR, hL_sI, hL_sL, hL_sR, hR_sI, hR_sL, hR_sR, hT_sI, hT_sL, hT_sR, hLn_sI, hLn_sL, hLn_sR, hN_sI, hN_sL, hN_sR, if_true]
    · refine ⟨fun b hb => ?_, fun b hb => ?_, by show 89 ≤ hN h + 1; have := hw.2.2; omega⟩
      · show _ ∧ b < hN h + 1
        by_cases e : b = hN h
        · have := hw.2.2; omega
        · have h5 := hw.1 b (by simpa only [if_neg e] using hb); omega
      · have hb' : hN h + 1 ≤ b := hb
        simp only [hI_sI, hI_sL, hI_sR, hL_sI, hL_sL, hL_sR, hR_sI, hR_sL, hR_sR, hT_sI, hT_sL, hT_sR, hLn_sI, hLn_sL, hLn_sR, hN_sI, hN_sL, hN_sR, hT_nw, if_neg (show ¬ b = hN h by omega)]
        exact hw.2.1 b (by omega)
    · intro b hb
      exact if_neg (by omega)
    · intro b hb h0
      by_cases e : b = hN h
      · exact if_pos e
      · exfalso
        simp only [if_neg e] at h0
        have := (hw.1 b h0).2
        omega
    · refine Fx.sI (Fx.sR (Fx.sR (Fx.nw (Fx.sI Fx.rf (Or.inl (Or.inl rfl))) hz) hf (Or.inl (Or.inl rfl))) hfN (Or.inr (Nat.le_refl _))) (Or.inl (Or.inl rfl))
  · have hel := hw.1 e (by rw [c2]; exact hte)
    have hfe : fixR e n = false := fixR_hi hel.1.1 hel.1.2
    have hle : l ≠ e := by omega
    have hel' : e ≠ l := fun z => hle z.symm
    have n10 : ¬ nI n = nI 10 := by rw [nI_eq (by omega) (by decide)]; omega
    have hix := ixb_n (i := n) (n := 10) (by omega) (by decide)
    have hcl : (nI n).toNatClampNeg = n := nI_clamp (by omega)
    refine ⟨sI (sR (sI h l 0 (hI h l 0 + 1)) e n (some a)) l 2 (nI n + 1), tg, by
      unfold f_Jx4a65c_add_9ea2d f_Jx4a65c_add_72be8
      simp (config := { decide := true }) only [h1, h2, he, hI_sI, hI_sL, hI_sR, hL_sI, hL_sL, hL_sR, hR_sI, hR_sL, hR_sR, hT_sI, hT_sL, hT_sR, hLn_sI, hLn_sL, hLn_sR, hN_sI, hN_sL, hN_sR, om_some, if_true, if_false, Option.bind_some, c1, c3, c4, n10, hix, hcl, hfe, ha], ?_, ?_, fun _ _ => rfl, ?_, ?_⟩
    · refine ⟨by simp only [hI_sI, hI_sL, hI_sR, hL_sI, hL_sL, hL_sR, hR_sI, hR_sL, hR_sR, hT_sI, hT_sL, hT_sR, hLn_sI, hLn_sL, hLn_sR, hN_sI, hN_sL, hN_sR, h1], by simp only [hI_sI, hI_sL, hI_sR, hL_sI, hL_sL, hL_sR, hR_sI, hR_sL, hR_sR, hT_sI, hT_sL, hT_sR, hLn_sI, hLn_sL, hLn_sR, hN_sI, hN_sL, hN_sR, if_true, nI_1], by omega, e, by simp only [hI_sI, hI_sL, hI_sR, hL_sI, hL_sL, hL_sR, hR_sI, hR_sL, hR_sR, hT_sI, hT_sL, hT_sR, hLn_sI, hLn_sL, hLn_sR, hN_sI, hN_sL, hN_sR, if_neg hle, he], Or.inr ⟨c1, c2, by simp only [hI_sI, hI_sL, hI_sR, hL_sI, hL_sL, hL_sR, hR_sI, hR_sL, hR_sR, hT_sI, hT_sL, hT_sR, hLn_sI, hLn_sL, hLn_sR, hN_sI, hN_sL, hN_sR, c3], by simp only [hI_sI, hI_sL, hI_sR, hL_sI, hL_sL, hL_sR, hR_sI, hR_sL, hR_sR, hT_sI, hT_sL, hT_sR, hLn_sI, hLn_sL, hLn_sR, hN_sI, hN_sL, hN_sR, c4], fun i hi => ?_⟩⟩
      by_cases ei : i = n
      · subst ei; simp only [hI_sI, hI_sL, hI_sR, hL_sI, hL_sL, hL_sR, hR_sI, hR_sL, hR_sR, hT_sI, hT_sL, hT_sR, hLn_sI, hLn_sL, hLn_sR, hN_sI, hN_sL, hN_sR, if_true]
      · simp only [hI_sI, hI_sL, hI_sR, hL_sI, hL_sL, hL_sR, hR_sI, hR_sL, hR_sR, hT_sI, hT_sL, hT_sR, hLn_sI, hLn_sL, hLn_sR, hN_sI, hN_sL, hN_sR, if_true, if_neg ei]
        exact c5 i (by omega)
    · exact ⟨fun b hb => hw.1 b hb, fun b hb => hw.2.1 b hb, hw.2.2⟩
    · intro b hb h0
      have hb' : hN h ≤ b := hb
      have := (hw.1 b h0).2
      omega
    · exact Fx.sI (Fx.sR (Fx.sI Fx.rf (Or.inl (Or.inl rfl))) hfe (Or.inl (Or.inr c2))) (Or.inl (Or.inl rfl))
