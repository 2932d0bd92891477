/-! ===== text ===== -/
noncomputable def a_text (X : XT) (B : BT) : Int32 := if X.1 = 6 then -4 else match apT (tkc B.2 B.1) with
  | .inl j => -100 - nI (tkp B.2 B.1 j)
  | .inr _ => nI X.1
noncomputable def u_textX (X : XT) (B : BT) : XT := if X.1 = 6 then X else match apT (tkc B.2 B.1) with
  | .inl _ => X
  | .inr _ => (X.1 + 1, fun i => if i = X.1 then B else X.2 i)
def u_textB (X : XT) (B : BT) : BT := if X.1 = 6 then B else (0, B.2)
theorem L_mtext {X : XT} {B : BT} (hX6 : X.1 < 6) : ∀ (d k f : Nat) (h : HS), k + d = B.1 → d < f → hI h 60 3 = nI X.1 → Mtp B h → (∀ j, j < k → hI h 61 (160 * X.1 + j) = B.2 j) → ∃ h', l_X12_text_14 f (nI k) h = some h' ∧ (∀ j, j < B.1 → hI h' 61 (160 * X.1 + j) = B.2 j) ∧ (∀ a j, ¬ (a = 61 ∧ 160 * X.1 ≤ j) → hI h' a j = hI h a j) ∧ Fr 6 h h' := by
  intro d
  induction d with
  | zero =>
    intro k f h hk hf h3 hB hc
    obtain ⟨f, rfl⟩ : ∃ f', f = f' + 1 := ⟨f - 1, by omega⟩
    have := hB.2.1
    refine ⟨h, ?_, fun j hj => hc j (by omega), fun _ _ _ => rfl, Fr.rf⟩
    rw [l_X12_text_14, hB.1, if_pos (nI_le (by omega) (by omega))]
  | succ d ih =>
    intro k f h hk hf h3 hB hc
    obtain ⟨f, rfl⟩ : ∃ f', f = f' + 1 := ⟨f - 1, by omega⟩
    obtain ⟨b1, b2, b3⟩ := hB
    have hx := ixb_n (i := k) (n := 160) (by omega) (by decide)
    have hx2 := ixb_n (i := 160 * X.1 + k) (n := 960) (by omega) (by decide)
    have hcl : (nI k).toNatClampNeg = k := nI_clamp (by omega)
    have hcl2 : (nI (160 * X.1 + k)).toNatClampNeg = 160 * X.1 + k := nI_clamp (by omega)
    have e1 : (160 : Int32) * nI X.1 + nI k = nI (160 * X.1 + k) := by rw [show (160 : Int32) = nI 160 from rfl, pk_mul, nI_add]
    have F1 : Fr 6 h (sI h 61 (160 * X.1 + k) (B.2 k)) := Fr.sI Fr.rf (Or.inl rfl)
    obtain ⟨h', s1, s2, s3, s4⟩ := ih (k + 1) f (sI h 61 (160 * X.1 + k) (B.2 k)) (by omega) (by omega) (by rw [hI_sI, if_neg (by decide)]; exact h3) (Mtp.fr ⟨b1, b2, b3⟩ F1 (by decide)) (fun j hj => by
      rw [hI_sI, if_pos rfl]
      by_cases e : j = k
      · rw [if_pos (by rw [e]), e]
      · rw [if_neg (by omega)]; exact hc j (by omega))
    refine ⟨h', ?_, s2, fun a j z => ?_, F1.tr s4⟩
    · rw [l_X12_text_14, b1, if_neg (nI_ge (by omega) (by omega)), if_pos hx, h3, e1, if_pos hx2, hcl, hcl2, b3 k (by omega), nI_1]
      exact s1
    · rw [s3 a j z, hI_sI]
      by_cases ha : a = 61
      · rw [if_pos ha, if_neg (fun y => z ⟨ha, by omega⟩)]
      · rw [if_neg ha]
theorem M_text {X : XT} {B : BT} {h : HS} (hX : Mtx X h) (hWX : Wtx X) (hB : Mtp B h) (hWB : Wby B.2 B.1) : ∃ h1 h2 h', f_X12_text h = some (a_text X B, h') ∧ Mtx (u_textX X B) h' ∧ Mtp (u_textB X B) h' ∧ hI h' 60 4 = hI h 60 4 ∧ Fr 6 h h1 ∧ Fr 5 h1 h2 ∧ Fr 6 h2 h' := by
  have h6 := hX.2.1
  unfold f_X12_text a_text u_textX u_textB
  rw [hX.1]
  by_cases c6 : X.1 = 6
  · refine ⟨h, h, h, ?_, by rw [if_pos c6]; exact hX, by rw [if_pos c6]; exact hB, rfl, Fr.rf, Fr.rf, Fr.rf⟩
    rw [if_pos (by rw [c6]; rfl), if_pos c6]
  · have hlt : X.1 < 6 := by omega
    have n6 : ¬ nI X.1 = (6 : Int32) := by rw [show (6 : Int32) = nI 6 from rfl, nI_eq (by omega) (by decide)]; exact c6
    obtain ⟨h1, s1, s2, s3, s4⟩ := L_mtext (X := X) (B := B) hlt B.1 0 1000 h (by omega) (by have := hB.2.1; omega) hX.1 hB (fun j hj => by omega)
    have s1' : l_X12_text_14 1000 (0 : Int32) h = some h1 := s1
    have e3 : hI h1 60 3 = nI X.1 := by rw [s3 _ _ (fun z => absurd z.1 (by decide))]; exact hX.1
    have e6 : hI h1 60 6 = nI B.1 := by rw [s3 _ _ (fun z => absurd z.1 (by decide))]; exact hB.1
    have hx := ixb_n (i := X.1) (n := 6) hlt (by decide)
    have hcl : (nI X.1).toNatClampNeg = X.1 := nI_clamp (by omega)
    obtain ⟨g, hg⟩ : ∃ g, g = sI (sI h1 62 X.1 (nI B.1)) 60 6 0 := ⟨_, rfl⟩
    have F2 : Fr 6 h (sI h1 62 X.1 (nI B.1)) := s4.tr (Fr.sI Fr.rf (Or.inl rfl))
    have F3 : Fr 5 (sI h1 62 X.1 (nI B.1)) g := by rw [hg]; exact Fr.sI Fr.rf (Or.inl rfl)
    have g3 : hI g 60 3 = nI X.1 := by rw [hg, hI_sI, if_pos rfl, if_neg (by decide), hI_sI, if_neg (by decide)]; exact e3
    have g4 : hI g 60 4 = hI h 60 4 := by rw [hg, hI_sI, if_pos rfl, if_neg (by decide), hI_sI, if_neg (by decide), s3 _ _ (fun z => absurd z.1 (by decide))]
    have g6 : hI g 60 6 = 0 := by rw [hg, hI_sI, if_pos rfl, if_pos rfl]
    have g62 : ∀ i, hI g 62 i = if i = X.1 then nI B.1 else hI h 62 i := fun i => by
      rw [hg, hI_sI, if_neg (by decide), hI_sI, if_pos rfl]
      split
      · rfl
      · rw [s3 _ _ (fun z => absurd z.1 (by decide))]
    have g61 : ∀ i, hI g 61 i = hI h1 61 i := fun i => by rw [hg, hI_sI, if_neg (by decide), hI_sI, if_neg (by decide)]
    have gtx : Mtx X g := ⟨g3, h6, fun i hi => by
      obtain ⟨t1, t2⟩ := hX.2.2 i hi
      rw [g62, if_neg (by omega)]
      refine ⟨t1, fun k hk => ?_⟩
      have := (hWX i hi).1
      rw [g61, s3 _ _ (by omega)]
      exact t2 k hk⟩
    have gtp : Mtp (0, B.2) g := ⟨g6, by show 0 ≤ 160; omega, fun i hi => by have : i < 0 := hi; omega⟩
    have hr := M_read (b := B.2) (n := B.1) (x := X.1) (s := 0) (ev := fun k => if k = 1 then hI g 67 0 else if k = 2 then hI g 68 0 else if k = 3 then hI g 69 0 else 0) (h := g) hWB hlt hB.2.1 (by rw [g62, if_pos rfl]) (fun k hk => by rw [g61]; exact s2 k hk) (by decide) rfl rfl rfl 0
    have hrd : ∀ v g', f_X12_read (nI X.1) (nI 0) ((fun k => if k = 1 then hI g 67 0 else if k = 2 then hI g 68 0 else if k = 3 then hI g 69 0 else (0 : Int32)) 0) ((fun k => if k = 1 then hI g 67 0 else if k = 2 then hI g 68 0 else if k = 3 then hI g 69 0 else (0 : Int32)) 4) ((fun k => if k = 1 then hI g 67 0 else if k = 2 then hI g 68 0 else if k = 3 then hI g 69 0 else (0 : Int32)) 5) 0 g = some (v, g') → f_X12_read (nI X.1) (0 : Int32) (0 : Int32) (0 : Int32) (0 : Int32) (0 : Int32) g = some (v, g') := fun v g' q => q
    rw [if_neg n6, if_neg c6, if_neg c6, if_neg c6, s1', Option.bind_some, e3, if_pos hx, hcl, e6, ← hg, g3]
    cases hq : apT (tkc B.2 B.1) with
    | inl j =>
      rw [hq] at hr
      obtain ⟨v, g', r1, r2, r3, r4⟩ := hr
      have F4 : Fr 6 g g' := r4.fr (fun k hk => hk)
      have F5 : ∀ {q : Nat}, Fr q g g' := r4.fr (fun k hk => hk)
      refine ⟨_, g, g', ?_, gtx.fr (F5 (q := 0)) (by decide), gtp.fr F4 (by decide), by rw [r4.i (by omega)]; exact g4, F2, F3, F4⟩
      rw [hrd _ _ r1, Option.bind_some, if_neg (by show ¬ hI g' 60 33 = 0; rw [r2]; decide)]
      show some (-100 - hI g' 60 34, g') = _
      rw [r3]
    | inr q =>
      rw [hq] at hr
      obtain ⟨v, g', r1, r2, r4, r5⟩ := hr
      have F4 : Fr 6 g g' := r4.fr (fun k hk => hk)
      have F5 : ∀ {q : Nat}, Fr q g g' := r4.fr (fun k hk => hk)
      have k3 : hI g' 60 3 = nI X.1 := by rw [r4.i (by omega)]; exact g3
      have gtx' : Mtx X g' := gtx.fr (F5 (q := 0)) (by decide)
      have F6 : Fr 6 g' (sI g' 60 3 (nI (X.1 + 1))) := Fr.sI Fr.rf (Or.inl rfl)
      refine ⟨_, g, sI g' 60 3 (nI (X.1 + 1)), ?_, ⟨by rw [hI_sI, if_pos rfl, if_pos rfl], by show X.1 + 1 ≤ 6; omega, fun i hi => ?_⟩, (gtp.fr F4 (by decide)).fr F6 (by decide), by rw [hI_sI, if_pos rfl, if_neg (by decide), r4.i (by omega)]; exact g4, F2, F3, F4.tr F6⟩
      · rw [hrd _ _ r1, Option.bind_some, if_pos (show hI g' 60 33 = 0 from r2)]
        show some (hI (sI g' 60 3 (hI g' 60 3 + 1)) 60 3 - 1, sI g' 60 3 (hI g' 60 3 + 1)) = _
        rw [k3, nI_1, hI_sI, if_pos rfl, if_pos rfl, nI_pred]
      · have hi' : i < X.1 + 1 := hi
        show hI (sI g' 60 3 (nI (X.1 + 1))) 62 i = nI (if i = X.1 then B else X.2 i).1 ∧ ∀ k, k < (if i = X.1 then B else X.2 i).1 → hI (sI g' 60 3 (nI (X.1 + 1))) 61 (160 * i + k) = (if i = X.1 then B else X.2 i).2 k
        rw [hI_sI, if_neg (by decide)]
        by_cases e : i = X.1
        · rw [if_pos e, r4.o (by decide), g62, if_pos e]
          refine ⟨rfl, fun k hk => ?_⟩
          rw [hI_sI, if_neg (by decide), r4.o (by decide), g61, e]
          exact s2 k hk
        · rw [if_neg e]
          obtain ⟨t1, t2⟩ := gtx'.2.2 i (by omega)
          exact ⟨t1, fun k hk => by rw [hI_sI, if_neg (by decide)]; exact t2 k hk⟩
theorem Wx.fx0 {tg : Nat → Nat} {h h' : HS} (hw : Wx tg h) (h1 : hN h' = hN h) (h2 : hT h' = hT h) : Wx tg h' := by
  obtain ⟨w1, w2, w3⟩ := hw
  exact ⟨fun a ha => by rw [h1]; exact w1 a ha, fun a ha => by rw [h2]; rw [h1] at ha; exact w2 a ha, by rw [h1]; exact w3⟩
theorem X_text {X : XT} {B : BT} {tg : Nat → Nat} {h : HS} (hY : LY TX h) (hX : Xtx X tg h) (hw : Wx tg h) (hB : Xtp B h) : ∃ h' tg', f_X11_text h = some (a_text X B, h') ∧ Xtx (u_textX X B) tg' h' ∧ Xtp (u_textB X B) h' ∧ Wx tg' h' ∧ (∀ b, b < hN h → tg' b = tg b) ∧ Fx (fun b => AX b ∨ b = 35 ∨ tg b = 3) h h' ∧ (∀ b, hN h ≤ b → tg' b ≠ 0 → tg' b = 3 ∨ 30 ≤ tg' b ∧ tg' b < 60) ∧ (hN h' ≤ hN h + 4 ∧ hS h' ≤ hS h + 410) := by
  have hX0 := hX
  obtain ⟨h6, el, hl, ho⟩ := hX
  have h89 := hw.2.2
  unfold f_X11_text a_text u_textX u_textB
  rw [if_pos hl.1, hl.size, Option.bind_some]
  by_cases c6 : X.1 = 6
  · refine ⟨h, tg, ?_, by rw [if_pos c6]; exact hX0, by rw [if_pos c6]; exact hB, hw, fun _ _ => rfl, Fx.rf, fun b hb h0 => by have := hw.1 b h0; omega, by omega, by omega⟩
    rw [if_neg (by rw [c6]; decide), if_pos c6]
  · have hlt : X.1 < 6 := by omega
    rw [if_pos (by rw [show (6 : Int32) = nI 6 from rfl]; exact nI_lt hlt (by decide)), if_neg c6, if_neg c6, if_neg c6]
    -- the text is split
    obtain ⟨h1, e, s1, s2, s3, s4, s5, s6⟩ := X_split (b := B.2) (n := B.1) hB
    have h160 := hB.2.1
    obtain ⟨g1, hg1⟩ : ∃ g1, g1 = sI (sI (sI h1 39 5 0) 39 7 0) 39 8 (-1) := ⟨_, rfl⟩
    have G1 : Fq (fun a k => (a = 39 ∧ k ≠ 1) ∨ a = 41 ∨ a = 42 ∨ a = 43) h g1 := by
      rw [hg1]
      exact Fq.sI (Fq.sI (Fq.sI (s6.mono (fun a k z => by unfold A6 at z; omega)) (Or.inl ⟨rfl, by decide⟩)) (Or.inl ⟨rfl, by decide⟩)) (Or.inl ⟨rfl, by decide⟩)
    have hp : XP B.2 B.1 e 0 [] g1 := by
      refine ⟨?_, ?_, ?_, fun j hj => ?_, ?_, fun j hj => by simp at hj, Nat.zero_le _, by simp, by omega⟩
      · rw [hg1, hI_sI, if_pos rfl, if_pos rfl]
      · rw [hg1, hI_sI, if_pos rfl, if_neg (by decide), hI_sI, if_pos rfl, if_neg (by decide), hI_sI, if_pos rfl, if_pos rfl]; rfl
      · rw [hg1, hI_sI, if_pos rfl, if_neg (by decide), hI_sI, if_pos rfl, if_neg (by decide), hI_sI, if_pos rfl, if_neg (by decide)]; exact s4
      · rw [hg1, hI_sI, if_neg (by decide), hI_sI, if_neg (by decide), hI_sI, if_neg (by decide), hI_sI, if_neg (by decide), hI_sI, if_neg (by decide), hI_sI, if_neg (by decide)]; exact s5 j hj
      · rw [hg1, hI_sI, if_pos rfl, if_neg (by decide), hI_sI, if_pos rfl, if_pos rfl]; rfl
    obtain ⟨k1, k2, k3, k4, p1, p2, p3, p4, p5, p6⟩ := X_parse h160 s3 hp
    obtain ⟨g, hg⟩ : ∃ g, g = sI k4 39 1 0 := ⟨_, rfl⟩
    have G2 : Fq (fun a _ => AX a) h g := by
      rw [hg]
      exact Fq.sI ((G1.mono (fun a k z => by unfold AX; omega)).tr (p5.mono (fun a k z => by unfold A7 at z; unfold AX; omega))) (Or.inl rfl)
    have hwg := hw.fq G2
    have hYg : LY TX g := LY.pr hY okX ((G2.fx (B := fun _ => True) (fun _ _ _ => trivial)).1)
    have gtp : Xtp (0, B.2) g := ⟨by rw [hg, hI_sI, if_pos rfl, if_pos rfl]; rfl, by show 0 ≤ 160; omega, fun i hi => by have : i < 0 := hi; omega⟩
    have FX : Fx (fun b => AX b ∨ b = 35 ∨ tg b = 3) h g := G2.fx (fun a _ z => Or.inl z)
    have dAX : ∀ b, b = 35 ∨ tg b = 3 ∨ (30 ≤ tg b ∧ tg b < 36) ∨ (40 ≤ tg b ∧ tg b < 46) → ¬ AX b := fun b hb z => by
      unfold AX at z
      by_cases t0 : tg b = 0
      · have : b = 35 := by omega
        omega
      · have := hw.1 b t0; omega
    have gtx : Xtx X tg g := hX0.fx hw (G2.fx (B := AX) (fun _ _ z => z)) (fun _ _ => rfl) dAX
    have hread : f_X6_read h = (if (hI g 39 8) < 0 then (if hT g (hN g) = 0 then (bh (hNew g 11 0 4) (fun h25 => (Option.bind (f_J7_copyOf_59c91 43 (hI h25 39 7) h25) (fun q29 => (om q29.1 none (fun b32 => (Option.bind (f_X9_init (hN g) b32 (hI k1 39 7) (hI k2 39 7) q29.2) (fun q36 => (some ((some (hN g)), q36)))))))))) else none) else (some (none, g))) := by
      unfold f_X6_read
      rw [s1, Option.bind_some, ← hg1, p1, Option.bind_some, p2, Option.bind_some, p3, Option.bind_some, p4, Option.bind_some, ← hg]
    have g8 : hI g 39 8 = hI k4 39 8 := by rw [hg, hI_sI, if_pos rfl, if_neg (by decide)]
    cases hq : apT (tkc B.2 B.1) with
    | inl j =>
      rw [hq] at p6
      refine ⟨g, tg, ?_, gtx, gtp, hwg, fun _ _ => rfl, FX, fun b hb h0 => by have := hw.1 b h0; omega, by rw [G2.1]; omega, by rw [G2.2.1]; omega⟩
      rw [hread, g8, p6.1, if_neg (nI_pos (by have := p6.2; omega)), Option.bind_some, om_none, g8, p6.1]
    | inr q =>
      rw [hq] at p6
      obtain ⟨q1, q2, q3', q4, q5, q6⟩ := p6
      have g7 : hI g 39 7 = nI (q.1.length + q.2.1.length + q.2.2.length) := by rw [hg, hI_sI, if_pos rfl, if_neg (by decide)]; exact q4
      have gcd : ∀ j, j < q.1.length + q.2.1.length + q.2.2.length → hI g 43 j = (q.1 ++ q.2.1 ++ q.2.2).getD j 0 := fun j hj => by rw [hg, hI_sI, if_neg (by decide)]; exact q5 j hj
      obtain ⟨m, tg1, u1, u2, u3, u4, u5, u6, u7, u8, u9, u10⟩ := X_mkText hYg hwg (i := X.1) hlt g7 gcd q6
      have hNg : hN g = hN h := G2.1
      have ne3 : ∀ b, b < hN g → tg1 b = tg b := u4
      obtain ⟨-, el', hl', ho'⟩ := gtx
      have hlm : XL tg1 m 35 3 X.1 el' := hl'.fx u10 (by rw [hNg]; omega) ne3 hwg (by decide) (fun z => z) (fun _ _ z => z)
      obtain ⟨h', tg', v1, v2, v3, v4, v5, v6⟩ := hlm.add u3 (Or.inr (Or.inr rfl)) (by decide) (by omega) (a := hN g) (by rw [u9.1]; rfl)
      have hNm : hN m = hN g + 3 := u2.1
      have hSm := u2.2
      have ga := G_add (n := X.1) hlm.2.1 (by omega) v1
      have gS := G2.2.1
      have nd : ∀ b, b = 35 ∨ tg1 b = 3 → ∀ x, tg1 x ≠ 0 → tg1 x ≠ 3 → ¬ x = b := fun b hb x hx h3 z => by
        rcases hb with hb | hb
        · have := u3.1 x hx; omega
        · rw [z] at h3; exact h3 hb
      refine ⟨h', tg', ?_, ⟨by show X.1 + 1 ≤ 6; omega, _, v2, fun i hi => ?_⟩, ?_, v3, fun b hb => ?_, ?_, fun b hb h0 => ?_, by have := ga.1; have : hN h' ≤ hN m + 1 := ga.1; omega, by have : hS h' ≤ hS m + 10 := ga.2; omega⟩
      · rw [hread, g8, q1, if_pos (by decide), q2, q3', u1, Option.bind_some, om_some, v1, Option.bind_some, v2.size, Option.bind_some, nI_pred]
      · have hi' : i < X.1 + 1 := hi
        have pres : ∀ x, tg1 x ≠ 0 → tg1 x ≠ 3 → ¬ (x = 35 ∨ tg1 x = 3) := fun x h0 h3 z => by
          rcases z with z | z
          · have := u3.1 x h0; omega
          · exact h3 z
        by_cases e : i = X.1
        · have e9 : q3 (if i = X.1 then B else X.2 i) = q := by rw [if_pos e]; exact q3_eq hq
          have w6 := (u3.1 (hN g) (by omega)).2
          have w7 := (u3.1 (hN g + 1) (by omega)).2
          have w8 := (u3.1 (hN g + 2) (by omega)).2
          refine ⟨hN g + 1, hN g + 2, ?_, by rw [v4 _ w7, u7, e], by rw [v4 _ w8, u8, e], ?_⟩
          · show tg' (if i = X.1 then hN g else el' i) = _
            rw [if_pos e, v4 _ w6, u6, e]
          · show Otx0 (q3 (if i = X.1 then B else X.2 i)) h' (if i = X.1 then hN g else el' i) _ _
            rw [e9, if_pos e]
            exact u9.fx v6 w6 w7 (pres _ (by omega) (by omega)) (pres _ (by omega) (by omega))
        · obtain ⟨ca, sa, t1, t2, t3, O⟩ := ho' i (by omega)
          have w1 := (hwg.1 (el' i) (by omega)).2
          have w2 := (hwg.1 ca (by omega)).2
          have w3 := (hwg.1 sa (by omega)).2
          have x1 := ne3 _ w1
          have x2 := ne3 _ w2
          have x3 := ne3 _ w3
          have O1 := O.fx u10 w1 w2 (fun z => z) (fun z => z)
          refine ⟨ca, sa, ?_, by rw [v4 _ (by omega), x2, t2], by rw [v4 _ (by omega), x3, t3], ?_⟩
          · show tg' (if i = X.1 then hN g else el' i) = _
            rw [if_neg e, v4 _ (by omega), x1, t1]
          · show Otx0 (q3 (if i = X.1 then B else X.2 i)) h' (if i = X.1 then hN g else el' i) _ _
            rw [if_neg e, if_neg e]
            exact O1.fx v6 (by omega) (by omega) (pres _ (by omega) (by omega)) (pres _ (by omega) (by omega))
      · have gm : Xtp (0, B.2) m := gtp.fx hwg u10 (fun z => z) (fun z => z)
        refine gm.fx u3 v6 (fun z => ?_) (fun z => ?_)
        · rcases z with z | z
          · exact absurd z (by decide)
          · have := u3.1 39 (by omega); omega
        · rcases z with z | z
          · exact absurd z (by decide)
          · have := u3.1 40 (by omega); omega
      · rw [v4 b (by omega), ne3 b (by omega)]
      · refine FX.tr ?_
        refine ((u10.mono (B := fun b => AX b ∨ b = 35 ∨ tg b = 3) (fun _ _ z => z.elim)).tr ⟨v6.1, fun b hb hA => v6.2 b hb (fun z => hA ?_)⟩)
        rcases z with z | z
        · exact Or.inr (Or.inl z)
        · by_cases hbg : b < hN g
          · rw [ne3 b hbg] at z; exact Or.inr (Or.inr z)
          · have := u5 b (by omega) (by omega); omega
      · by_cases hbm : b < hN m
        · rw [v4 b hbm] at h0 ⊢
          have := u5 b (by omega) h0
          omega
        · exact Or.inl (v5 b (by omega) h0)
