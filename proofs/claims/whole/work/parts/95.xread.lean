/-! ===== texts: the class reads a text ===== -/
theorem apT_1 {tk : Nat → Int32} {j : Nat} (h1 : apP tk 10220 0 = .inl j) : apT tk = .inl j := by unfold apT; rw [h1]
theorem apT_2 {tk : Nat → Int32} {j i1 : Nat} {c1 : List Int32} (h1 : apP tk 10220 0 = .inr (i1, c1)) (h2 : apP tk 10221 i1 = .inl j) : apT tk = .inl j := by
  unfold apT; simp only [h1, h2]
theorem apT_3 {tk : Nat → Int32} {j i1 i2 : Nat} {c1 c2 : List Int32} (h1 : apP tk 10220 0 = .inr (i1, c1)) (h2 : apP tk 10221 i1 = .inr (i2, c2)) (h3 : apP tk 10222 i2 = .inl j) : apT tk = .inl j := by
  unfold apT; simp only [h1, h2, h3]
theorem apT_4 {tk : Nat → Int32} {i1 i2 i3 : Nat} {c1 c2 c3 : List Int32} (h1 : apP tk 10220 0 = .inr (i1, c1)) (h2 : apP tk 10221 i1 = .inr (i2, c2)) (h3 : apP tk 10222 i2 = .inr (i3, c3)) : apT tk = if tk i3 = 10300 then .inr (c1, c2, c3) else .inl i3 := by
  unfold apT; simp only [h1, h2, h3]
section
variable {b : Nat → Int32} {n e : Nat}
theorem X_ask {i : Nat} {c0 : List Int32} {h : HS} (hn : n ≤ 160) (he : tkc b n e = 10300) (hp : XP b n e i c0 h) (t : Int32) (ht : t ≠ 10300) : (tkc b n i = t ∧ ∃ h', f_X6_ask t h = some h' ∧ XP b n e (i + 1) c0 h' ∧ Fq A7 h h') ∨ (tkc b n i ≠ t ∧ ∃ h', f_X6_ask t h = some h' ∧ XF (tkp b n i) h' ∧ Fq A7 h h') := by
  unfold f_X6_ask
  by_cases c : tkc b n i = t
  · obtain ⟨h1, s1, s2, s3⟩ := XP_takes_y hp c ht he
    exact Or.inl ⟨c, h1, by rw [s1, Option.bind_some, if_pos rfl], s2, s3⟩
  · obtain ⟨h1, s1, s2, s3⟩ := XP_refuse hp hn
    exact Or.inr ⟨c, h1, by rw [XP_takes_n hp c, Option.bind_some, if_neg Bool.false_ne_true, s1]; rfl, s2, s3⟩
theorem XF_part {p : Nat} {h : HS} (hf : XF p h) (K : Int32) : f_X6_readPart K h = some h := by
  unfold f_X6_readPart
  have := XF_ap 60 0 0 h p (by omega) (by omega) (by omega) hf
  rw [XF_ask hf, Option.bind_some, show (0 : Int32) = nI 0 from rfl, this, Option.bind_some, XF_ask hf, Option.bind_some]
theorem X_part {i : Nat} {c0 : List Int32} {h : HS} (hn : n ≤ 160) (he : tkc b n e = 10300) (hp : XP b n e i c0 h) {K : Int32} (hK : K ≠ 10300) : Xres b n e c0 h (f_X6_readPart K h) (apP (tkc b n) K i) := by
  unfold f_X6_readPart apP
  rcases X_ask hn he hp K hK with ⟨c, h1, s1, s2, s3⟩ | ⟨c, h1, s1, s2, s3⟩
  · have hr := X_ap hn he 60 0 0 (i + 1) c0 h1 (by omega) (by omega) (by omega) s2
    rw [s1, Option.bind_some, if_pos c, show (0 : Int32) = nI 0 from rfl]
    cases hq : apC (tkc b n) 60 0 0 (i + 1) with
    | inl j =>
      rw [hq] at hr
      obtain ⟨h2, r1, r2, r3⟩ := hr
      rw [r1, Option.bind_some, XF_ask r2, Option.bind_some, pbn_l]
      exact ⟨h2, rfl, r2, s3.tr r3⟩
    | inr q =>
      obtain ⟨i1, cc⟩ := q
      rw [hq] at hr
      obtain ⟨h2, r1, r2, r3⟩ := hr
      rw [r1, Option.bind_some, pbn_r]
      rcases X_ask hn he r2 10059 (by decide) with ⟨c2, h3, t1, t2, t3⟩ | ⟨c2, h3, t1, t2, t3⟩
      · rw [t1, Option.bind_some, if_pos c2]
        exact ⟨h3, rfl, t2, s3.tr (r3.tr t3)⟩
      · rw [t1, Option.bind_some, if_neg c2]
        exact ⟨h3, rfl, t2, s3.tr (r3.tr t3)⟩
  · have := XF_ap 60 0 0 h1 _ (by omega) (by omega) (by omega) s2
    rw [s1, Option.bind_some, show (0 : Int32) = nI 0 from rfl, this, Option.bind_some, XF_ask s2, Option.bind_some, if_neg c]
    exact ⟨h1, rfl, s2, s3⟩
/-- the three parts and the end -/
theorem X_parse {h : HS} (hn : n ≤ 160) (he : tkc b n e = 10300) (hp : XP b n e 0 [] h) : ∃ h1 h2 h3 h4, f_X6_readPart 10220 h = some h1 ∧ f_X6_readPart 10221 h1 = some h2 ∧ f_X6_readPart 10222 h2 = some h3 ∧ f_X6_ask 10300 h3 = some h4 ∧ Fq A7 h h4 ∧ (match apT (tkc b n) with
    | .inl j => XF (tkp b n j) h4
    | .inr q => hI h4 39 8 = -1 ∧ hI h1 39 7 = nI q.1.length ∧ hI h2 39 7 = nI (q.1.length + q.2.1.length) ∧ hI h4 39 7 = nI (q.1.length + q.2.1.length + q.2.2.length) ∧ (∀ j, j < q.1.length + q.2.1.length + q.2.2.length → hI h4 43 j = (q.1 ++ q.2.1 ++ q.2.2).getD j 0) ∧ q.1.length + q.2.1.length + q.2.2.length < 160) := by
  have hr1 := X_part hn he hp (K := 10220) (by decide)
  cases hq1 : apP (tkc b n) 10220 0 with
  | inl j =>
    rw [hq1] at hr1
    obtain ⟨h1, a1, a2, a3⟩ := hr1
    rw [apT_1 hq1]
    exact ⟨h1, h1, h1, h1, a1, XF_part a2 _, XF_part a2 _, XF_ask a2 _, a3, a2⟩
  | inr q1 =>
    obtain ⟨i1, c1⟩ := q1
    obtain ⟨l1, l2, l3⟩ := apP_len he (by decide) hq1 (Nat.zero_le e)
    rw [hq1] at hr1
    obtain ⟨h1, a1, a2, a3⟩ := hr1
    have a2 : XP b n e i1 c1 h1 := a2
    have hr2 := X_part hn he a2 (K := 10221) (by decide)
    cases hq2 : apP (tkc b n) 10221 i1 with
    | inl j =>
      rw [hq2] at hr2
      obtain ⟨h2, b1, b2, b3⟩ := hr2
      rw [apT_2 hq1 hq2]
      exact ⟨h1, h2, h2, h2, a1, b1, XF_part b2 _, XF_ask b2 _, a3.tr b3, b2⟩
    | inr q2 =>
      obtain ⟨i2, c2⟩ := q2
      obtain ⟨m1, m2, m3⟩ := apP_len he (by decide) hq2 l3
      rw [hq2] at hr2
      obtain ⟨h2, b1, b2, b3⟩ := hr2
      have b2 : XP b n e i2 (c1 ++ c2) h2 := b2
      have hr3 := X_part hn he b2 (K := 10222) (by decide)
      cases hq3 : apP (tkc b n) 10222 i2 with
      | inl j =>
        rw [hq3] at hr3
        obtain ⟨h3, d1, d2, d3⟩ := hr3
        rw [apT_3 hq1 hq2 hq3]
        exact ⟨h1, h2, h3, h3, a1, b1, d1, XF_ask d2 _, a3.tr (b3.tr d3), d2⟩
      | inr q3 =>
        obtain ⟨i3, c3⟩ := q3
        obtain ⟨k1, k2, k3⟩ := apP_len he (by decide) hq3 m3
        rw [hq3] at hr3
        obtain ⟨h3, d1, d2, d3⟩ := hr3
        have d2 : XP b n e i3 (c1 ++ c2 ++ c3) h3 := d2
        have F3 := a3.tr (b3.tr d3)
        rw [apT_4 hq1 hq2 hq3]
        by_cases ce : tkc b n i3 = 10300
        · rw [if_pos ce]
          have F4 : Fq A7 h3 (sI h3 39 5 (nI (i3 + 1))) := Fq.sI Fq.rf (Or.inl ⟨rfl, Or.inl rfl⟩)
          obtain ⟨p1, p2, p3, p4, p5, p6, p7, p8, p9⟩ := d2
          have hll : (c1 ++ c2 ++ c3).length = c1.length + c2.length + c3.length := by simp only [List.length_append]
          have hl2 : (c1 ++ c2).length = c1.length + c2.length := by simp only [List.length_append]
          have b5 := b2.2.2.2.2.1
          rw [hl2] at b5
          rw [hll] at p5 p6
          refine ⟨h1, h2, h3, sI h3 39 5 (nI (i3 + 1)), a1, b1, d1, ?_, F3.tr F4, ?_⟩
          · unfold f_X6_ask f_X6_takes
            rw [if_neg (by rw [p1]; decide), XP_token ⟨p1, p2, p3, p4, by rw [hll]; exact p5, by rw [hll]; exact p6, p7, p8, p9⟩, Option.bind_some, if_pos ce, p2, nI_1]
            rfl
          · refine ⟨?_, a2.2.2.2.2.1, b5, ?_, fun j hj => ?_, ?_⟩
            · rw [hI_sI, if_pos rfl, if_neg (by decide)]; exact p1
            · rw [hI_sI, if_pos rfl, if_neg (by decide)]; exact p5
            · rw [hI_sI, if_neg (by decide)]; exact p6 j hj
            · show c1.length + c2.length + c3.length < 160
              omega
        · rw [if_neg ce]
          obtain ⟨h4, t1, t2, t3⟩ := XP_refuse d2 hn
          refine ⟨h1, h2, h3, h4, a1, b1, d1, ?_, F3.tr t3, t2⟩
          unfold f_X6_ask
          rw [XP_takes_n d2 ce, Option.bind_some, if_neg Bool.false_ne_true, t1]
          rfl
end
def AX (b : Nat) : Prop := b = 39 ∨ b = 41 ∨ b = 42 ∨ b = 43
theorem Fq.fx {A : Nat → Nat → Prop} {B : Nat → Prop} {h h' : HS} (F : Fq A h h') (hA : ∀ a k, A a k → B a) : Fx B h h' := by
  obtain ⟨f1, f2, f3, f4, f5, f6⟩ := F
  refine ⟨⟨by rw [f1]; exact Nat.le_refl _, fun a ha => ⟨by rw [f3], by rw [f4], fun k _ => by rw [f5]⟩⟩, fun b hb hB => ⟨fun k => (f6 b k (fun z => hB (hA b k z))).1, fun k => (f6 b k (fun z => hB (hA b k z))).2, fun k => by rw [f5]⟩⟩
theorem Wx.fq {A : Nat → Nat → Prop} {tg : Nat → Nat} {h h' : HS} (hw : Wx tg h) (F : Fq A h h') : Wx tg h' := by
  obtain ⟨w1, w2, w3⟩ := hw
  exact ⟨fun a ha => by rw [F.1]; exact w1 a ha, fun a ha => by rw [F.2.2.1]; rw [F.1] at ha; exact w2 a ha, by rw [F.1]; exact w3⟩
theorem hI_sC {h : HS} {a0 sp a1 dp n b j : Nat} : hI (sC h a0 sp a1 dp n) b j = if b = a1 then va_cpy (hI h a0) (hI h a1) sp dp n j else hI h b j := rfl
theorem hL_sC {h : HS} {a0 sp a1 dp n b j : Nat} : hL (sC h a0 sp a1 dp n) b j = hL h b j := rfl
theorem hR_sC {h : HS} {a0 sp a1 dp n b j : Nat} : hR (sC h a0 sp a1 dp n) b j = hR h b j := rfl
theorem hT_sC {h : HS} {a0 sp a1 dp n b : Nat} : hT (sC h a0 sp a1 dp n) b = hT h b := rfl
theorem hLn_sC {h : HS} {a0 sp a1 dp n b : Nat} : hLn (sC h a0 sp a1 dp n) b = hLn h b := rfl
theorem hN_sC {h : HS} {a0 sp a1 dp n : Nat} : hN (sC h a0 sp a1 dp n) = hN h := rfl
theorem nab_n {n : Nat} (h : n ≤ 1000) : nab (nI n) = true := by
  unfold nab
  rw [Bool.and_eq_true, decide_eq_true_iff, nI_clamp (by omega), decide_eq_false (nI_pos (by omega))]
  exact ⟨rfl, by omega⟩
/-- the text's object is made -/
theorem X_mkText {tg : Nat → Nat} {g : HS} {q : List Int32 × List Int32 × List Int32} {i : Nat} (hY : LY TX g) (hw : Wx tg g) (hi : i < 6) (h7 : hI g 39 7 = nI (q.1.length + q.2.1.length + q.2.2.length)) (hcd : ∀ j, j < q.1.length + q.2.1.length + q.2.2.length → hI g 43 j = (q.1 ++ q.2.1 ++ q.2.2).getD j 0) (h160 : q.1.length + q.2.1.length + q.2.2.length < 160) : ∃ h' tg', (if hT g (hN g) = 0 then (bh (hNew g 11 0 4) (fun h25 => (Option.bind (f_J7_copyOf_59c91 43 (hI h25 39 7) h25) (fun q29 => (om q29.1 none (fun b32 => (Option.bind (f_X9_init (hN g) b32 (nI q.1.length) (nI (q.1.length + q.2.1.length)) q29.2) (fun q36 => (some (some (hN g), q36)))))))))) else none) = some (some (hN g), h') ∧ (hN h' = hN g + 3 ∧ hS h' ≤ hS g + 400) ∧ Wx tg' h' ∧ (∀ b, b < hN g → tg' b = tg b) ∧ (∀ b, hN g ≤ b → tg' b ≠ 0 → tg' b = 30 + i ∨ tg' b = 40 + i ∨ tg' b = 50 + i) ∧ tg' (hN g) = 30 + i ∧ tg' (hN g + 1) = 40 + i ∧ tg' (hN g + 2) = 50 + i ∧ Otx0 q h' (hN g) (hN g + 1) (hN g + 2) ∧ Fx (fun _ => False) g h' := by
  obtain ⟨T, hT0⟩ : ∃ T, T = q.1.length + q.2.1.length + q.2.2.length := ⟨_, rfl⟩
  rw [← hT0] at h7 hcd h160
  have k43 : hT g 43 = 15 := hY.t 11 rfl
  have n43 : hLn g 43 = 160 := hY.n 11 rfl
  obtain ⟨w1, w2, w3⟩ := hw
  have z0 := w2 (hN g) (Nat.le_refl _)
  have z1 := w2 (hN g + 1) (by omega)
  have z2 := w2 (hN g + 2) (by omega)
  obtain ⟨N, hNN⟩ : ∃ N, hN g = N := ⟨_, rfl⟩
  rw [hNN] at z0 z1 z2 w1 w2 w3 ⊢
  have hab := nab_n (n := T) (by omega)
  have hcT : (nI T).toNatClampNeg = T := nI_clamp (by omega)
  have ne160 : ¬ nI T = nI 160 := by rw [nI_eq (by omega) (by decide)]; omega
  have lt160 : nI T < nI 160 := nI_lt h160 (by decide)
  have f0 : fixR N 0 = false := fixR_hi (by omega) (Or.inr w3)
  have f1 : fixR N 1 = false := fixR_hi (by omega) (Or.inr w3)
  have n43N : ¬ (43 : Nat) = N := by omega
  have n39N : ¬ (39 : Nat) = N := by omega
  have n43M : ¬ (43 : Nat) = N + 1 := by omega
  have c0 : (0 : Int32).toNatClampNeg = 0 := rfl
  obtain ⟨g1, hg1⟩ : ∃ g1, g1 = hNew g 11 0 4 := ⟨_, rfl⟩
  have a1 : hN g1 = N + 1 := by rw [hg1, hN_nw, hNN]
  have a2 : ∀ b, hT g1 b = if b = N then 11 else hT g b := fun b => by rw [hg1, hT_nw, hNN]
  have a3 : ∀ b, hLn g1 b = if b = N then 0 else hLn g b := fun b => by rw [hg1, hLn_nw, hNN]
  have a4 : ∀ b j, hI g1 b j = if b = N then 0 else hI g b j := fun b j => by rw [hg1, hI_nw, hNN]
  obtain ⟨g2, hg2⟩ : ∃ g2, g2 = hNew g1 15 T T := ⟨_, rfl⟩
  have b1 : hN g2 = N + 2 := by rw [hg2, hN_nw, a1]
  have b2 : ∀ b, hT g2 b = if b = N + 1 then 15 else hT g1 b := fun b => by rw [hg2, hT_nw, a1]
  have b3 : ∀ b, hLn g2 b = if b = N + 1 then T else hLn g1 b := fun b => by rw [hg2, hLn_nw, a1]
  have b4 : ∀ b j, hI g2 b j = if b = N + 1 then 0 else hI g1 b j := fun b j => by rw [hg2, hI_nw, a1]
  obtain ⟨g3, hg3⟩ : ∃ g3, g3 = sC g2 43 0 (N + 1) 0 T := ⟨_, rfl⟩
  have d1 : hN g3 = N + 2 := by rw [hg3, hN_sC, b1]
  have d2 : ∀ b, hT g3 b = hT g2 b := fun b => by rw [hg3, hT_sC]
  have d3 : ∀ b, hLn g3 b = hLn g2 b := fun b => by rw [hg3, hLn_sC]
  have copy : f_J7_copyOf_59c91 43 (nI T) g1 = some (some (N + 1), g3) := by
    unfold f_J7_copyOf_59c91
    rw [a2, if_neg n43N, if_pos k43, a3, if_neg n43N, n43, if_neg ne160, if_pos hab, a1, a2, if_neg (show ¬ N + 1 = N by omega), if_pos z1, hcT, ← hg2, bh_eq, b3, if_neg n43M, a3, if_neg n43N, n43, if_pos lt160, b3, if_pos rfl, c0, hcT, ← hg3]
    rw [if_pos]
    unfold cpb
    rw [c0, hcT, decide_eq_false (nI_pos (show T < 2 ^ 31 by omega)), decide_eq_true (show 0 + T ≤ 160 by omega), decide_eq_true (show 0 + T ≤ T by omega)]
    rfl
  obtain ⟨g4, hg4⟩ : ∃ g4, g4 = sR g3 N 0 (some (N + 1)) := ⟨_, rfl⟩
  have e1 : hN g4 = N + 2 := by rw [hg4, hN_sR, d1]
  have e2 : ∀ b, hT g4 b = hT g3 b := fun b => by rw [hg4, hT_sR]
  have e3 : ∀ b, hLn g4 b = hLn g3 b := fun b => by rw [hg4, hLn_sR]
  obtain ⟨g5, hg5⟩ : ∃ g5, g5 = hNew g4 15 T T := ⟨_, rfl⟩
  have i1 : hN g5 = N + 3 := by rw [hg5, hN_nw, e1]
  have i2 : ∀ b, hT g5 b = if b = N + 2 then 15 else hT g4 b := fun b => by rw [hg5, hT_nw, e1]
  have i3 : ∀ b, hLn g5 b = if b = N + 2 then T else hLn g4 b := fun b => by rw [hg5, hLn_nw, e1]
  obtain ⟨g6, hg6⟩ : ∃ g6, g6 = sI (sI (sR g5 N 1 (some (N + 2))) N 2 (nI q.1.length)) N 3 (nI (q.1.length + q.2.1.length)) := ⟨_, rfl⟩
  have j1 : hN g6 = N + 3 := by rw [hg6, hN_sI, hN_sI, hN_sR, i1]
  have js : hS g6 = hS g + 4 + T + T := by rw [hg6]; show hS g5 = _; rw [hg5]; show hS g4 + T = _; rw [hg4]; show hS g3 + T = _; rw [hg3]; show hS g2 + T = _; rw [hg2]; show hS g1 + T + T = _; rw [hg1]; rfl
  have j2 : ∀ b, hT g6 b = if b = N + 2 then 15 else if b = N + 1 then 15 else if b = N then 11 else hT g b := fun b => by rw [hg6, hT_sI, hT_sI, hT_sR, i2, e2, d2, b2, a2]
  have j3 : ∀ b, hLn g6 b = if b = N + 2 then T else if b = N + 1 then T else if b = N then 0 else hLn g b := fun b => by rw [hg6, hLn_sI, hLn_sI, hLn_sR, i3, e3, d3, b3, a3]
  have init : f_X9_init N (N + 1) (nI q.1.length) (nI (q.1.length + q.2.1.length)) g3 = some g6 := by
    unfold f_X9_init
    rw [d2, b2, if_neg (show ¬ N = N + 1 by omega), a2, if_pos rfl, if_pos rfl, f0, if_pos rfl, ← hg4, e2, d2, b2, if_pos rfl, if_pos rfl, e3, d3, b3, if_pos rfl, hab, if_pos rfl, e1, e2, d2, b2, if_neg (show ¬ N + 2 = N + 1 by omega), a2, if_neg (show ¬ N + 2 = N by omega), if_pos z2, hcT, ← hg5, bh_eq, f1, if_pos rfl, hg6]
  have F : Fx (fun _ => False) g g6 := by
    have s1 : Fx (fun _ => False) g g1 := by rw [hg1]; exact Fx.nw Fx.rf (by rw [hNN]; exact z0)
    have s2 : Fx (fun _ => False) g g2 := by rw [hg2]; exact Fx.nw s1 (by rw [a1, a2, if_neg (show ¬ N + 1 = N by omega)]; exact z1)
    have s3 : Fx (fun _ => False) g g3 := by
      refine ⟨by rw [hg3]; exact s2.1.sC, fun b hb hA => ?_⟩
      obtain ⟨q1, q2, q3⟩ := s2.2 b hb hA
      rw [hNN] at hb
      exact ⟨fun k => by rw [hg3, hI_sC, if_neg (by omega)]; exact q1 k, fun k => by rw [hg3, hL_sC]; exact q2 k, fun k => by rw [hg3, hR_sC]; exact q3 k⟩
    have s4 : Fx (fun _ => False) g g4 := by rw [hg4]; exact Fx.sR s3 f0 (Or.inr (by omega))
    have s5 : Fx (fun _ => False) g g5 := by rw [hg5]; exact Fx.nw s4 (by rw [e1, e2, d2, b2, if_neg (show ¬ N + 2 = N + 1 by omega), a2, if_neg (show ¬ N + 2 = N by omega)]; exact z2)
    rw [hg6]
    exact Fx.sI (Fx.sI (Fx.sR s5 f1 (Or.inr (by omega))) (Or.inr (by omega))) (Or.inr (by omega))
  refine ⟨g6, fun b => if b = N then 30 + i else if b = N + 1 then 40 + i else if b = N + 2 then 50 + i else tg b, ?_, ⟨j1, by rw [js]; omega⟩, ?_, ?_, ?_, ?_, ?_, ?_, ?_, F⟩
  · rw [if_pos z0, bh_eq, ← hg1, a4, if_neg n39N, h7, copy, Option.bind_some, om_some, init, Option.bind_some]
  · refine ⟨fun b hb => ?_, fun b hb => ?_, by rw [j1]; omega⟩
    · rw [j1]
      by_cases y : b = N ∨ b = N + 1 ∨ b = N + 2
      · omega
      · have := w1 b (by
          simp only [if_neg (show ¬ b = N by omega), if_neg (show ¬ b = N + 1 by omega), if_neg (show ¬ b = N + 2 by omega)] at hb
          exact hb)
        omega
    · rw [j1] at hb
      rw [j2, if_neg (by omega), if_neg (by omega), if_neg (by omega)]
      exact w2 b (by omega)
  · intro b hb
    simp only [if_neg (show ¬ b = N by omega), if_neg (show ¬ b = N + 1 by omega), if_neg (show ¬ b = N + 2 by omega)]
  · intro b hb h0
    by_cases y0 : b = N
    · left; simp only [if_pos y0]
    · by_cases y1 : b = N + 1
      · right; left; simp only [if_neg y0, if_pos y1]
      · by_cases y2 : b = N + 2
        · right; right; simp only [if_neg y0, if_neg y1, if_pos y2]
        · exfalso
          simp only [if_neg y0, if_neg y1, if_neg y2] at h0
          have := w1 b h0; omega
  · simp only [if_true]
  · simp only [if_neg (show ¬ N + 1 = N by omega), if_true]
  · simp only [if_neg (show ¬ N + 2 = N by omega), if_neg (show ¬ N + 2 = N + 1 by omega), if_true]
  · refine ⟨?_, ?_, ?_, ?_, ?_, ?_, ?_, ?_, ?_, fun j hj => ?_, by rw [← hT0]; omega, by omega, by omega, by show N + 2 ≠ 50; omega⟩
    · rw [j2, if_neg (by omega), if_neg (by omega), if_pos rfl]
    · rw [hg6, hR_sI, hR_sI, hR_sR, if_pos rfl, if_neg (by decide), hg5, hR_nw, e1, if_neg (by omega), hg4, hR_sR, if_pos rfl, if_pos rfl]
    · rw [hg6, hR_sI, hR_sI, hR_sR, if_pos rfl, if_pos rfl]
    · rw [j2, if_neg (by omega), if_pos rfl]
    · rw [j2, if_pos rfl]
    · rw [j3, if_neg (by omega), if_pos rfl, hT0]
    · rw [j3, if_pos rfl, hT0]
    · rw [hg6, hI_sI, if_pos rfl, if_neg (by decide), hI_sI, if_pos rfl, if_pos rfl]
    · rw [hg6, hI_sI, if_pos rfl, if_pos rfl]
    · rw [← hT0] at hj
      rw [hg6, hI_sI, if_neg (by omega), hI_sI, if_neg (by omega), hI_sR, hg5, hI_nw, e1, if_neg (by omega), hg4, hI_sR, hg3, hI_sC, if_pos rfl]
      unfold va_cpy
      rw [if_pos ⟨Nat.zero_le _, by omega⟩, b4, if_neg n43M, a4, if_neg n43N]
      rw [show 0 + (j - 0) = j by omega]
      exact hcd j hj
