/-! ===== texts: the class reads by the grammar ===== -/
def A7 (a k : Nat) : Prop := (a = 39 ∧ (k = 5 ∨ k = 7 ∨ k = 8)) ∨ a = 43
/-- at token i, with this code written -/
def XP (b : Nat → Int32) (n e i : Nat) (cs : List Int32) (h : HS) : Prop := hI h 39 8 = -1 ∧ hI h 39 5 = nI i ∧ hI h 39 4 = nI (e + 1) ∧ (∀ j, j ≤ e → hI h 41 j = tkc b n j ∧ hI h 42 j = nI (tkp b n j)) ∧ hI h 39 7 = nI cs.length ∧ (∀ j, j < cs.length → hI h 43 j = cs.getD j 0) ∧ i ≤ e ∧ cs.length ≤ i ∧ e ≤ 160
/-- the class has failed at this place -/
def XF (p : Nat) (h : HS) : Prop := hI h 39 8 = nI p ∧ p ≤ 160
theorem XF.ge {p : Nat} {h : HS} (hf : XF p h) : (0 : Int32) ≤ hI h 39 8 := by rw [hf.1]; exact nI_pos' (by have := hf.2; omega)
theorem XF_takes {p : Nat} {h : HS} (hf : XF p h) (t : Int32) : f_X6_takes t h = some (false, h) := by unfold f_X6_takes; rw [if_pos hf.ge]
theorem XF_refuse {p : Nat} {h : HS} (hf : XF p h) : f_X6_refuse h = some h := by unfold f_X6_refuse; rw [if_pos hf.ge]
theorem XF_ask {p : Nat} {h : HS} (hf : XF p h) (t : Int32) : f_X6_ask t h = some h := by
  unfold f_X6_ask
  rw [XF_takes hf, Option.bind_some, if_neg Bool.false_ne_true, XF_refuse hf]
  rfl
theorem ixb_any {v : Int32} {m : Nat} {M : Int32} (h0 : ¬ v < 0) (h1 : ¬ M ≤ v) (hM : M.toInt = m) : ixb v m = true := by
  rw [i32_lt0, z_0] at h0
  rw [i32_le0, hM] at h1
  unfold ixb
  rw [Bool.and_eq_true]
  refine ⟨?_, ?_⟩
  · rw [decide_eq_false (by rw [i32_lt0, z_0]; exact h0)]; rfl
  · rw [decide_eq_true_iff]
    show v.toInt.toNat < m
    omega
theorem X_write_any (t : Int32) (h : HS) : ∃ h', f_X6_write t h = some h' ∧ Fq A7 h h' ∧ hI h' 39 8 = hI h 39 8 := by
  unfold f_X6_write
  by_cases c1 : hI h 39 7 < 0
  · exact ⟨h, by rw [if_pos c1], Fq.rf, rfl⟩
  · rw [if_neg c1]
    by_cases c2 : (160 : Int32) ≤ hI h 39 7
    · exact ⟨h, by rw [if_pos c2], Fq.rf, rfl⟩
    · rw [if_neg c2, if_pos (ixb_any (m := 160) c1 c2 rfl)]
      exact ⟨_, rfl, Fq.sI (Fq.sI Fq.rf (Or.inr rfl)) (Or.inl ⟨rfl, Or.inr (Or.inl rfl)⟩), by rw [hI_sI, if_pos rfl, if_neg (by decide), hI_sI, if_neg (by decide)]⟩
theorem X_token_any (h : HS) : ∃ t, f_X6_token h = some t := by
  unfold f_X6_token
  by_cases c1 : hI h 39 5 < 0
  · exact ⟨_, by rw [if_pos c1]⟩
  · rw [if_neg c1]
    by_cases c2 : hI h 39 4 ≤ hI h 39 5
    · exact ⟨_, by rw [if_pos c2]⟩
    · rw [if_neg c2]
      by_cases c3 : (160 : Int32) < hI h 39 5
      · exact ⟨_, by rw [if_pos c3]⟩
      · rw [if_neg c3, if_pos (ixb_any (M := 161) (m := 161) c1 (fun z => c3 (by
          rw [i32_le0, show (161 : Int32).toInt = 161 from rfl] at z
          rw [i32_lt0, show (160 : Int32).toInt = 160 from rfl]
          omega)) rfl)]
        exact ⟨_, rfl⟩
section
variable {b : Nat → Int32} {n e i : Nat} {cs : List Int32} {h : HS}
theorem XP_token (hp : XP b n e i cs h) : f_X6_token h = some (tkc b n i) := by
  obtain ⟨p1, p2, p3, p4, p5, p6, p7, p8, p9⟩ := hp
  have hx := ixb_n (i := i) (n := 161) (by omega) (by decide)
  have hc : (nI i).toNatClampNeg = i := nI_clamp (by omega)
  unfold f_X6_token
  rw [p2, p3, if_neg (nI_pos (by omega)), if_neg (nI_ge (by omega) (by omega)), if_neg (by rw [show (160 : Int32) = nI 160 from rfl]; exact nI_nlt (by omega) (by decide)), if_pos hx, hc, (p4 i p7).1]
theorem XP_takes_n (hp : XP b n e i cs h) {t : Int32} (ht : tkc b n i ≠ t) : f_X6_takes t h = some (false, h) := by
  unfold f_X6_takes
  rw [if_neg (by rw [hp.1]; decide), XP_token hp, Option.bind_some, if_neg ht]
theorem XP_takes_y (hp : XP b n e i cs h) {t : Int32} (ht : tkc b n i = t) (h3 : t ≠ 10300) (he : tkc b n e = 10300) : ∃ h', f_X6_takes t h = some (true, h') ∧ XP b n e (i + 1) cs h' ∧ Fq A7 h h' := by
  obtain ⟨p1, p2, p3, p4, p5, p6, p7, p8, p9⟩ := hp
  have hlt := lt_e he p7 (fun z => h3 (ht.symm.trans z))
  have F : Fq A7 h (sI h 39 5 (nI (i + 1))) := Fq.sI Fq.rf (Or.inl ⟨rfl, Or.inl rfl⟩)
  refine ⟨sI h 39 5 (nI (i + 1)), ?_, ⟨?_, ?_, ?_, fun j hj => ?_, ?_, fun j hj => ?_, by omega, by omega, p9⟩, F⟩
  · unfold f_X6_takes
    rw [if_neg (by rw [p1]; decide), XP_token ⟨p1, p2, p3, p4, p5, p6, p7, p8, p9⟩, Option.bind_some, if_pos ht, p2, nI_1]
  · rw [hI_sI, if_pos rfl, if_neg (by decide)]; exact p1
  · rw [hI_sI, if_pos rfl, if_pos rfl]
  · rw [hI_sI, if_pos rfl, if_neg (by decide)]; exact p3
  · rw [hI_sI, if_neg (by decide), hI_sI, if_neg (by decide)]; exact p4 j hj
  · rw [hI_sI, if_pos rfl, if_neg (by decide)]; exact p5
  · rw [hI_sI, if_neg (by decide)]; exact p6 j hj
theorem XP_refuse (hp : XP b n e i cs h) (hn : n ≤ 160) : ∃ h', f_X6_refuse h = some h' ∧ XF (tkp b n i) h' ∧ Fq A7 h h' := by
  obtain ⟨p1, p2, p3, p4, p5, p6, p7, p8, p9⟩ := hp
  have hx := ixb_n (i := i) (n := 161) (by omega) (by decide)
  have hc : (nI i).toNatClampNeg = i := nI_clamp (by omega)
  have := tkp_le b n i
  refine ⟨sI h 39 8 (nI (tkp b n i)), ?_, ⟨by rw [hI_sI, if_pos rfl, if_pos rfl], by omega⟩, Fq.sI Fq.rf (Or.inl ⟨rfl, Or.inr (Or.inr rfl)⟩)⟩
  unfold f_X6_refuse
  rw [if_neg (by rw [p1]; decide), p2, p3, if_neg (nI_pos (by omega)), if_neg (nI_ge (by omega) (by omega)), if_neg (by rw [show (160 : Int32) = nI 160 from rfl]; exact nI_nlt (by omega) (by decide)), if_pos hx, hc, (p4 i p7).2]
theorem XP_write (hp : XP b n e i cs h) (t : Int32) (hl : cs.length + 1 ≤ i) : ∃ h', f_X6_write t h = some h' ∧ XP b n e i (cs ++ [t]) h' ∧ Fq A7 h h' := by
  obtain ⟨p1, p2, p3, p4, p5, p6, p7, p8, p9⟩ := hp
  have hx := ixb_n (i := cs.length) (n := 160) (by omega) (by decide)
  have hc : (nI cs.length).toNatClampNeg = cs.length := nI_clamp (by omega)
  have e7 : ∀ v, hI (sI h 43 cs.length v) 39 7 = nI cs.length := fun v => by rw [hI_sI, if_neg (by decide)]; exact p5
  have el : (cs ++ [t]).length = cs.length + 1 := by simp
  refine ⟨sI (sI h 43 cs.length t) 39 7 (nI (cs.length + 1)), ?_, ⟨?_, ?_, ?_, fun j hj => ?_, ?_, fun j hj => ?_, p7, by rw [el]; exact hl, p9⟩, Fq.sI (Fq.sI Fq.rf (Or.inr rfl)) (Or.inl ⟨rfl, Or.inr (Or.inl rfl)⟩)⟩
  · unfold f_X6_write
    rw [p5, if_neg (nI_pos (by omega)), if_neg (by rw [show (160 : Int32) = nI 160 from rfl]; exact nI_ge (by omega) (by decide)), if_pos hx, hc, e7, nI_1]
  · rw [hI_sI, if_pos rfl, if_neg (by decide), hI_sI, if_neg (by decide)]; exact p1
  · rw [hI_sI, if_pos rfl, if_neg (by decide), hI_sI, if_neg (by decide)]; exact p2
  · rw [hI_sI, if_pos rfl, if_neg (by decide), hI_sI, if_neg (by decide)]; exact p3
  · rw [hI_sI, if_neg (by decide), hI_sI, if_neg (by decide), hI_sI, if_neg (by decide), hI_sI, if_neg (by decide)]; exact p4 j hj
  · rw [hI_sI, if_pos rfl, if_pos rfl, el]
  · rw [hI_sI, if_neg (by decide), hI_sI, if_pos rfl]
    rw [el] at hj
    by_cases c : j = cs.length
    · rw [if_pos c, c]; simp
    · rw [if_neg c, p6 j (by omega)]
      simp only [List.getD_eq_getElem?_getD]
      rw [List.getElem?_append_left (by omega)]
end
def Xres (b : Nat → Int32) (n e : Nat) (c0 : List Int32) (h : HS) (r : Option HS) (q : PR) : Prop := match q with
  | .inl j => ∃ h', r = some h' ∧ XF (tkp b n j) h' ∧ Fq A7 h h'
  | .inr q => ∃ h', r = some h' ∧ XP b n e q.1 (c0 ++ q.2) h' ∧ Fq A7 h h'
theorem Xres.tr {b : Nat → Int32} {n e : Nat} {c0 : List Int32} {h h1 : HS} {r : Option HS} {q : PR} (F : Fq A7 h h1) (m : Xres b n e c0 h1 r q) : Xres b n e c0 h r q := by
  cases q with
  | inl j =>
    obtain ⟨h', m1, m2, m3⟩ := m
    exact ⟨h', m1, m2, F.tr m3⟩
  | inr q =>
    obtain ⟨h', m1, m2, m3⟩ := m
    exact ⟨h', m1, m2, F.tr m3⟩
theorem XF.wr {p : Nat} {h : HS} (hf : XF p h) (t : Int32) : ∃ h', f_X6_write t h = some h' ∧ XF p h' ∧ Fq A7 h h' := by
  obtain ⟨h', s1, s2, s3⟩ := X_write_any t h
  exact ⟨h', s1, ⟨by rw [s3]; exact hf.1, hf.2⟩, s2⟩
section
variable {b : Nat → Int32} {n e o : Nat}
theorem XF_readAny {rc : Nat → Int32 → HS → Option HS} {y x2 : Int32} {f p : Nat} {h : HS} (hf : XF p h) (h0 : 0 < f) : l_X6_readAny_7 rc y f x2 h = some h := by
  obtain ⟨f, rfl⟩ : ∃ f', f = f' + 1 := ⟨f - 1, by omega⟩
  rw [l_X6_readAny_7]
  by_cases c : (160 : Int32) ≤ x2
  · rw [if_pos c]
  · rw [if_neg c, XF_takes hf, Option.bind_some, if_neg Bool.false_ne_true]
theorem L_xreadAny {f : Nat} (he : tkc b n e = 10300) (hrec : ∀ i cs h, XP b n e i cs h → Xres b n e cs h (r_X6 f 1 (nI o) h) (apC (tkc b n) f 1 o i)) (hl : PL e (apC (tkc b n) f 1 o)) (c0 : List Int32) : ∀ (d it i : Nat) (c : List Int32) (h : HS) (fu : Nat), it + d = 160 → d < fu → XP b n e i (c0 ++ c) h → Xres b n e c0 h (l_X6_readAny_7 (r_X6 f) (nI o) fu (nI it) h) (lpC (apC (tkc b n) f 1 o) opOr (tkc b n) d i c) := by
  intro d
  induction d with
  | zero =>
    intro it i c h fu h1 h2 hp
    obtain ⟨fu, rfl⟩ : ∃ f', fu = f' + 1 := ⟨fu - 1, by omega⟩
    rw [l_X6_readAny_7, if_pos (by rw [show (160 : Int32) = nI 160 from rfl]; exact nI_le (by omega) (by omega)), lpC]
    exact ⟨h, rfl, hp, Fq.rf⟩
  | succ d ih =>
    intro it i cc h fu h1 h2 hp
    obtain ⟨fu, rfl⟩ : ∃ f', fu = f' + 1 := ⟨fu - 1, by omega⟩
    rw [l_X6_readAny_7, if_neg (by rw [show (160 : Int32) = nI 160 from rfl]; exact nI_ge (by omega) (by decide)), lpC]
    by_cases c : tkc b n i = 10210
    · obtain ⟨h1', s1, s2, s3⟩ := XP_takes_y hp c (by decide) he
      have hlt := lt_e he hp.2.2.2.2.2.2.1 (fun z => by rw [c] at z; exact absurd z (by decide))
      have hr := hrec (i + 1) (c0 ++ cc) h1' s2
      rw [s1, Option.bind_some, if_pos rfl, if_pos (by rw [c]; rfl)]
      cases hq : apC (tkc b n) f 1 o (i + 1) with
      | inl j =>
        rw [hq] at hr
        obtain ⟨h2', r1, r2, r3⟩ := hr
        obtain ⟨h3', w1, w2, w3⟩ := r2.wr 10210
        rw [r1, Option.bind_some, w1, Option.bind_some, pbn_l, XF_readAny w2 (by omega)]
        exact ⟨h3', rfl, w2, s3.tr (r3.tr w3)⟩
      | inr q =>
        obtain ⟨i1, c1⟩ := q
        rw [hq] at hr
        obtain ⟨h2', r1, r2, r3⟩ := hr
        obtain ⟨l1, l2, l3⟩ := hl _ _ _ hq (by omega)
        have l8 := hp.2.2.2.2.2.2.2.1
        obtain ⟨h3', w1, w2, w3⟩ := XP_write r2 10210 (by simp only [List.length_append] at *; omega)
        rw [r1, Option.bind_some, w1, Option.bind_some, pbn_r, nI_1, c]
        have w2' : XP b n e i1 (c0 ++ (cc ++ c1 ++ [10210])) h3' := by
          have ea : c0 ++ (cc ++ c1 ++ [(10210 : Int32)]) = c0 ++ cc ++ c1 ++ [10210] := by simp only [List.append_assoc]
          rw [ea]; exact w2
        exact (ih (it + 1) i1 (cc ++ c1 ++ [10210]) h3' fu (by omega) (by omega) w2').tr (s3.tr (r3.tr w3))
    · rw [XP_takes_n hp c, Option.bind_some, if_neg Bool.false_ne_true, if_neg (by simp [opOr, c])]
      exact ⟨h, rfl, hp, Fq.rf⟩
theorem XF_readEach {rc : Nat → Int32 → HS → Option HS} {y x2 : Int32} {f p : Nat} {h : HS} (hf : XF p h) (h0 : 0 < f) : l_X6_readEach_7 rc y f x2 h = some h := by
  obtain ⟨f, rfl⟩ : ∃ f', f = f' + 1 := ⟨f - 1, by omega⟩
  rw [l_X6_readEach_7]
  by_cases c : (160 : Int32) ≤ x2
  · rw [if_pos c]
  · rw [if_neg c, XF_takes hf, Option.bind_some, if_neg Bool.false_ne_true]
theorem L_xreadEach {f : Nat} (he : tkc b n e = 10300) (hrec : ∀ i cs h, XP b n e i cs h → Xres b n e cs h (r_X6 f 2 (nI o) h) (apC (tkc b n) f 2 o i)) (hl : PL e (apC (tkc b n) f 2 o)) (c0 : List Int32) : ∀ (d it i : Nat) (c : List Int32) (h : HS) (fu : Nat), it + d = 160 → d < fu → XP b n e i (c0 ++ c) h → Xres b n e c0 h (l_X6_readEach_7 (r_X6 f) (nI o) fu (nI it) h) (lpC (apC (tkc b n) f 2 o) opAnd (tkc b n) d i c) := by
  intro d
  induction d with
  | zero =>
    intro it i c h fu h1 h2 hp
    obtain ⟨fu, rfl⟩ : ∃ f', fu = f' + 1 := ⟨fu - 1, by omega⟩
    rw [l_X6_readEach_7, if_pos (by rw [show (160 : Int32) = nI 160 from rfl]; exact nI_le (by omega) (by omega)), lpC]
    exact ⟨h, rfl, hp, Fq.rf⟩
  | succ d ih =>
    intro it i cc h fu h1 h2 hp
    obtain ⟨fu, rfl⟩ : ∃ f', fu = f' + 1 := ⟨fu - 1, by omega⟩
    rw [l_X6_readEach_7, if_neg (by rw [show (160 : Int32) = nI 160 from rfl]; exact nI_ge (by omega) (by decide)), lpC]
    by_cases c : tkc b n i = 10211
    · obtain ⟨h1', s1, s2, s3⟩ := XP_takes_y hp c (by decide) he
      have hlt := lt_e he hp.2.2.2.2.2.2.1 (fun z => by rw [c] at z; exact absurd z (by decide))
      have hr := hrec (i + 1) (c0 ++ cc) h1' s2
      rw [s1, Option.bind_some, if_pos rfl, if_pos (by rw [c]; rfl)]
      cases hq : apC (tkc b n) f 2 o (i + 1) with
      | inl j =>
        rw [hq] at hr
        obtain ⟨h2', r1, r2, r3⟩ := hr
        obtain ⟨h3', w1, w2, w3⟩ := r2.wr 10211
        rw [r1, Option.bind_some, w1, Option.bind_some, pbn_l, XF_readEach w2 (by omega)]
        exact ⟨h3', rfl, w2, s3.tr (r3.tr w3)⟩
      | inr q =>
        obtain ⟨i1, c1⟩ := q
        rw [hq] at hr
        obtain ⟨h2', r1, r2, r3⟩ := hr
        obtain ⟨l1, l2, l3⟩ := hl _ _ _ hq (by omega)
        have l8 := hp.2.2.2.2.2.2.2.1
        obtain ⟨h3', w1, w2, w3⟩ := XP_write r2 10211 (by simp only [List.length_append] at *; omega)
        rw [r1, Option.bind_some, w1, Option.bind_some, pbn_r, nI_1, c]
        have w2' : XP b n e i1 (c0 ++ (cc ++ c1 ++ [10211])) h3' := by
          have ea : c0 ++ (cc ++ c1 ++ [(10211 : Int32)]) = c0 ++ cc ++ c1 ++ [10211] := by simp only [List.append_assoc]
          rw [ea]; exact w2
        exact (ih (it + 1) i1 (cc ++ c1 ++ [10211]) h3' fu (by omega) (by omega) w2').tr (s3.tr (r3.tr w3))
    · rw [XP_takes_n hp c, Option.bind_some, if_neg Bool.false_ne_true, if_neg (by simp [opAnd, c])]
      exact ⟨h, rfl, hp, Fq.rf⟩
theorem XF_readTerm {rc : Nat → Int32 → HS → Option HS} {y x2 : Int32} {f p : Nat} {h : HS} (hf : XF p h) (h0 : 0 < f) : l_X6_readTerm_7 rc y f x2 h = some h := by
  obtain ⟨f, rfl⟩ : ∃ f', f = f' + 1 := ⟨f - 1, by omega⟩
  rw [l_X6_readTerm_7]
  by_cases c : (160 : Int32) ≤ x2
  · rw [if_pos c]
  · rw [if_neg c, XF_takes hf, Option.bind_some, if_neg Bool.false_ne_true]
theorem L_xreadTerm {f : Nat} (he : tkc b n e = 10300) (hrec : ∀ i cs h, XP b n e i cs h → Xres b n e cs h (r_X6 f 5 (nI o) h) (apC (tkc b n) f 5 o i)) (hl : PL e (apC (tkc b n) f 5 o)) (c0 : List Int32) : ∀ (d it i : Nat) (c : List Int32) (h : HS) (fu : Nat), it + d = 160 → d < fu → XP b n e i (c0 ++ c) h → Xres b n e c0 h (l_X6_readTerm_7 (r_X6 f) (nI o) fu (nI it) h) (lpC (apC (tkc b n) f 5 o) opMul (tkc b n) d i c) := by
  intro d
  induction d with
  | zero =>
    intro it i c h fu h1 h2 hp
    obtain ⟨fu, rfl⟩ : ∃ f', fu = f' + 1 := ⟨fu - 1, by omega⟩
    rw [l_X6_readTerm_7, if_pos (by rw [show (160 : Int32) = nI 160 from rfl]; exact nI_le (by omega) (by omega)), lpC]
    exact ⟨h, rfl, hp, Fq.rf⟩
  | succ d ih =>
    intro it i cc h fu h1 h2 hp
    obtain ⟨fu, rfl⟩ : ∃ f', fu = f' + 1 := ⟨fu - 1, by omega⟩
    rw [l_X6_readTerm_7, if_neg (by rw [show (160 : Int32) = nI 160 from rfl]; exact nI_ge (by omega) (by decide)), lpC]
    by_cases c : tkc b n i = 10042
    · obtain ⟨h1', s1, s2, s3⟩ := XP_takes_y hp c (by decide) he
      have hlt := lt_e he hp.2.2.2.2.2.2.1 (fun z => by rw [c] at z; exact absurd z (by decide))
      have hr := hrec (i + 1) (c0 ++ cc) h1' s2
      rw [s1, Option.bind_some, if_pos rfl, if_pos (by rw [c]; rfl)]
      cases hq : apC (tkc b n) f 5 o (i + 1) with
      | inl j =>
        rw [hq] at hr
        obtain ⟨h2', r1, r2, r3⟩ := hr
        obtain ⟨h3', w1, w2, w3⟩ := r2.wr 10042
        rw [r1, Option.bind_some, w1, Option.bind_some, pbn_l, XF_readTerm w2 (by omega)]
        exact ⟨h3', rfl, w2, s3.tr (r3.tr w3)⟩
      | inr q =>
        obtain ⟨i1, c1⟩ := q
        rw [hq] at hr
        obtain ⟨h2', r1, r2, r3⟩ := hr
        obtain ⟨l1, l2, l3⟩ := hl _ _ _ hq (by omega)
        have l8 := hp.2.2.2.2.2.2.2.1
        obtain ⟨h3', w1, w2, w3⟩ := XP_write r2 10042 (by simp only [List.length_append] at *; omega)
        rw [r1, Option.bind_some, w1, Option.bind_some, pbn_r, nI_1, c]
        have w2' : XP b n e i1 (c0 ++ (cc ++ c1 ++ [10042])) h3' := by
          have ea : c0 ++ (cc ++ c1 ++ [(10042 : Int32)]) = c0 ++ cc ++ c1 ++ [10042] := by simp only [List.append_assoc]
          rw [ea]; exact w2
        exact (ih (it + 1) i1 (cc ++ c1 ++ [10042]) h3' fu (by omega) (by omega) w2').tr (s3.tr (r3.tr w3))
    · rw [XP_takes_n hp c, Option.bind_some, if_neg Bool.false_ne_true, if_neg (by simp [opMul, c])]
      exact ⟨h, rfl, hp, Fq.rf⟩
theorem XF_readSum {rc : Nat → Int32 → HS → Option HS} {y x1 x2 : Int32} {f p : Nat} {h : HS} (hf : XF p h) (h0 : 0 < f) : l_X6_readSum_12 rc y f x1 x2 h = some h := by
  obtain ⟨f, rfl⟩ : ∃ f', f = f' + 1 := ⟨f - 1, by omega⟩
  rw [l_X6_readSum_12]
  by_cases c : (160 : Int32) ≤ x2
  · rw [if_pos c]
  · rw [if_neg c, XF_takes hf, Option.bind_some, if_neg Bool.false_ne_true, XF_takes hf, Option.bind_some, if_neg Bool.false_ne_true]
theorem L_xreadSum {f : Nat} (he : tkc b n e = 10300) (hrec : ∀ i cs h, XP b n e i cs h → Xres b n e cs h (r_X6 f 4 (nI o) h) (apC (tkc b n) f 4 o i)) (hl : PL e (apC (tkc b n) f 4 o)) (c0 : List Int32) : ∀ (d it i : Nat) (c : List Int32) (h : HS) (fu : Nat), it + d = 160 → d < fu → XP b n e i (c0 ++ c) h → Xres b n e c0 h (l_X6_readSum_12 (r_X6 f) (nI o) fu (tkc b n i) (nI it) h) (lpC (apC (tkc b n) f 4 o) opSum (tkc b n) d i c) := by
  intro d
  induction d with
  | zero =>
    intro it i c h fu h1 h2 hp
    obtain ⟨fu, rfl⟩ : ∃ f', fu = f' + 1 := ⟨fu - 1, by omega⟩
    rw [l_X6_readSum_12, if_pos (by rw [show (160 : Int32) = nI 160 from rfl]; exact nI_le (by omega) (by omega)), lpC]
    exact ⟨h, rfl, hp, Fq.rf⟩
  | succ d ih =>
    intro it i cc h fu h1 h2 hp
    obtain ⟨fu, rfl⟩ : ∃ f', fu = f' + 1 := ⟨fu - 1, by omega⟩
    have go : ∀ h1' t, tkc b n i = t → (t = 10043 ∨ t = 10045) → XP b n e (i + 1) (c0 ++ cc) h1' → Fq A7 h h1' → Xres b n e c0 h (Option.bind (r_X6 f 4 (nI o) h1') (fun q44 => Option.bind (f_X6_write (tkc b n i) q44) (fun q48 => Option.bind (f_X6_token q48) (fun q52 => l_X6_readSum_12 (r_X6 f) (nI o) fu q52 (nI it + 1) q48)))) (pbn (apC (tkc b n) f 4 o (i + 1)) (fun i' c' => lpC (apC (tkc b n) f 4 o) opSum (tkc b n) d i' (cc ++ c' ++ [tkc b n i]))) := by
      intro h1' t c ht s2 s3
      have hlt := lt_e he hp.2.2.2.2.2.2.1 (fun z => by rw [c] at z; rcases ht with y | y <;> subst y <;> exact absurd z (by decide))
      have hr := hrec (i + 1) (c0 ++ cc) h1' s2
      cases hq : apC (tkc b n) f 4 o (i + 1) with
      | inl j =>
        rw [hq] at hr
        obtain ⟨h2', r1, r2, r3⟩ := hr
        obtain ⟨h3', w1, w2, w3⟩ := r2.wr (tkc b n i)
        obtain ⟨u, hu⟩ := X_token_any h3'
        rw [r1, Option.bind_some, w1, Option.bind_some, hu, Option.bind_some, pbn_l, XF_readSum w2 (by omega)]
        exact ⟨h3', rfl, w2, s3.tr (r3.tr w3)⟩
      | inr q =>
        obtain ⟨i1, c1⟩ := q
        rw [hq] at hr
        obtain ⟨h2', r1, r2, r3⟩ := hr
        obtain ⟨l1, l2, l3⟩ := hl _ _ _ hq (by omega)
        have l8 := hp.2.2.2.2.2.2.2.1
        obtain ⟨h3', w1, w2, w3⟩ := XP_write r2 (tkc b n i) (by simp only [List.length_append] at *; omega)
        have w2' : XP b n e i1 (c0 ++ (cc ++ c1 ++ [tkc b n i])) h3' := by
          have ea : c0 ++ (cc ++ c1 ++ [tkc b n i]) = c0 ++ cc ++ c1 ++ [tkc b n i] := by simp only [List.append_assoc]
          rw [ea]; exact w2
        rw [r1, Option.bind_some, w1, Option.bind_some, XP_token w2', Option.bind_some, pbn_r, nI_1]
        exact (ih (it + 1) i1 (cc ++ c1 ++ [tkc b n i]) h3' fu (by omega) (by omega) w2').tr (s3.tr (r3.tr w3))
    rw [l_X6_readSum_12, if_neg (by rw [show (160 : Int32) = nI 160 from rfl]; exact nI_ge (by omega) (by decide)), lpC]
    by_cases c : tkc b n i = 10043
    · obtain ⟨h1', s1, s2, s3⟩ := XP_takes_y hp c (by decide) he
      rw [s1, Option.bind_some, if_pos rfl, if_pos (show opSum (tkc b n i) = true by rw [c]; rfl)]
      exact go h1' _ c (Or.inl rfl) s2 s3
    · rw [XP_takes_n hp c, Option.bind_some, if_neg Bool.false_ne_true]
      by_cases c2 : tkc b n i = 10045
      · obtain ⟨h1', s1, s2, s3⟩ := XP_takes_y hp c2 (by decide) he
        rw [s1, Option.bind_some, if_pos rfl, if_pos (show opSum (tkc b n i) = true by rw [c2]; rfl)]
        exact go h1' _ c2 (Or.inr rfl) s2 s3
      · rw [XP_takes_n hp c2, Option.bind_some, if_neg Bool.false_ne_true, if_neg (by simp [opSum, c, c2])]
        exact ⟨h, rfl, hp, Fq.rf⟩
end
