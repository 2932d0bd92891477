/-! ===== texts: tables ===== -/
def PV (ev : Nat → Int32) (P : Nat → PR) : Prop := ∀ i i' c, P i = .inr (i', c) → ∃ v, ∀ st, runC ev c st = v :: st
theorem lpC_val {ev : Nat → Int32} {P : Nat → PR} {op : Int32 → Bool} {tk : Nat → Int32} (hop : ∀ t, op t = true → t = 10210 ∨ t = 10211 ∨ t = 10042 ∨ t = 10043 ∨ t = 10045 ∨ t = 10060 ∨ t = 10061) (hP : PV ev P) : ∀ (d i : Nat) (c : List Int32) (i' : Nat) (c' : List Int32), lpC P op tk d i c = .inr (i', c') → (∃ v, ∀ st, runC ev c st = v :: st) → ∃ v, ∀ st, runC ev c' st = v :: st := by
  intro d
  induction d with
  | zero =>
    intro i c i' c' h hv
    rw [lpC] at h
    cases h
    exact hv
  | succ d ih =>
    intro i c i' c' h hv
    rw [lpC] at h
    by_cases ho : op (tk i) = true
    · rw [if_pos ho] at h
      cases hq : P (i + 1) with
      | inl j => rw [hq, pbn_l] at h; cases h
      | inr q =>
        obtain ⟨i1, c1⟩ := q
        obtain ⟨w, hw⟩ := hP _ _ _ hq
        obtain ⟨v, hv⟩ := hv
        rw [hq, pbn_r] at h
        exact ih _ _ _ _ h ⟨_, run_jn (hop _ ho) hv hw⟩
    · rw [if_neg ho] at h
      cases h
      exact hv
theorem apC_val {ev : Nat → Int32} {tk : Nat → Int32} : ∀ (f m o : Nat), m ≤ 5 → PV ev (apC tk f m o) := by
  intro f
  induction f with
  | zero => intro m o _ i i' c h; rw [apC] at h; cases h
  | succ f ih =>
    intro m o hm i i' c h
    have lpq : ∀ {P : Nat → PR} {op : Int32 → Bool}, (∀ t, op t = true → t = 10210 ∨ t = 10211 ∨ t = 10042 ∨ t = 10043 ∨ t = 10045 ∨ t = 10060 ∨ t = 10061) → PV ev P → pbn (P i) (lpC P op tk 160) = .inr (i', c) → ∃ v, ∀ st, runC ev c st = v :: st := by
      intro P op ho hP h
      cases hq : P i with
      | inl j => rw [hq, pbn_l] at h; cases h
      | inr q =>
        obtain ⟨i1, c1⟩ := q
        rw [hq, pbn_r] at h
        exact lpC_val ho hP 160 i1 c1 i' c h (hP _ _ _ hq)
    have hm6 : m = 0 ∨ m = 1 ∨ m = 2 ∨ m = 3 ∨ m = 4 ∨ m = 5 := by omega
    rcases hm6 with e0 | e0 | e0 | e0 | e0 | e0 <;> subst e0
    · rw [apC_0] at h; exact lpq (fun t ht => by simp only [opOr, decide_eq_true_eq] at ht; simp [ht]) (ih 1 o (by omega)) h
    · rw [apC_1] at h; exact lpq (fun t ht => by simp only [opAnd, decide_eq_true_eq] at ht; simp [ht]) (ih 2 o (by omega)) h
    · rw [apC_2] at h
      by_cases c0 : o < 5 ∧ tk i = 10212
      · rw [if_pos c0] at h
        cases hq : apC tk f 2 (o + 1) (i + 1) with
        | inl j => rw [hq, pbn_l] at h; cases h
        | inr q =>
          obtain ⟨i1, c1⟩ := q
          obtain ⟨v, hv⟩ := ih 2 (o + 1) (by omega) _ _ _ hq
          rw [hq, pbn_r] at h
          cases h
          exact ⟨_, (run_sk1 hv).2⟩
      · rw [if_neg c0] at h
        cases hq : apC tk f 3 o i with
        | inl j => rw [hq, pbn_l] at h; cases h
        | inr q =>
          obtain ⟨i1, c1⟩ := q
          obtain ⟨v, hv⟩ := ih 3 o (by omega) _ _ _ hq
          rw [hq, pbn_r] at h
          by_cases c2 : opCmp (tk i1) = true
          · rw [if_pos c2] at h
            cases hq2 : apC tk f 3 o (i1 + 1) with
            | inl j => rw [hq2, pbn_l] at h; cases h
            | inr q =>
              obtain ⟨i2, c3⟩ := q
              obtain ⟨w, hw⟩ := ih 3 o (by omega) _ _ _ hq2
              rw [hq2, pbn_r] at h
              cases h
              simp only [opCmp, Bool.or_eq_true, decide_eq_true_eq] at c2
              exact ⟨_, run_jn (by rcases c2 with c2 | c2 <;> simp [c2]) hv hw⟩
          · rw [if_neg c2] at h
            cases h
            exact ⟨v, hv⟩
    · rw [apC_3] at h; exact lpq (fun t ht => by simp only [opSum, Bool.or_eq_true, decide_eq_true_eq] at ht; rcases ht with ht | ht <;> simp [ht]) (ih 4 o (by omega)) h
    · rw [apC_4] at h; exact lpq (fun t ht => by simp only [opMul, decide_eq_true_eq] at ht; simp [ht]) (ih 5 o (by omega)) h
    · rw [apC_5] at h
      by_cases cv : isVl (tk i) = true
      · rw [if_pos cv] at h
        cases h
        exact ⟨pv ev (tk i), fun st => by rw [runC_1]; unfold stp; rw [if_pos cv]⟩
      · rw [if_neg cv] at h
        by_cases c0 : o < 5 ∧ tk i = 10045
        · rw [if_pos c0] at h
          cases hq : apC tk f 5 (o + 1) (i + 1) with
          | inl j => rw [hq, pbn_l] at h; cases h
          | inr q =>
            obtain ⟨i1, c1⟩ := q
            obtain ⟨v, hv⟩ := ih 5 (o + 1) (by omega) _ _ _ hq
            rw [hq, pbn_r] at h
            cases h
            exact ⟨_, (run_sk1 hv).1⟩
        · rw [if_neg c0] at h
          by_cases c1 : o < 5 ∧ tk i = 10040
          · rw [if_pos c1] at h
            cases hq : apC tk f 0 (o + 1) (i + 1) with
            | inl j => rw [hq, pbn_l] at h; cases h
            | inr q =>
              obtain ⟨i1, c1⟩ := q
              obtain ⟨v, hv⟩ := ih 0 (o + 1) (by omega) _ _ _ hq
              rw [hq, pbn_r] at h
              by_cases c2 : tk i1 = 10041
              · rw [if_pos c2] at h
                cases h
                exact ⟨v, hv⟩
              · rw [if_neg c2] at h; cases h
          · rw [if_neg c1] at h; cases h
theorem apP_val {ev : Nat → Int32} {tk : Nat → Int32} {key : Int32} {i i' : Nat} {c : List Int32} (h : apP tk key i = .inr (i', c)) : ∃ v, ∀ st, runC ev c st = v :: st := by
  unfold apP at h
  by_cases c0 : tk i = key
  · rw [if_pos c0] at h
    cases hq : apC tk 60 0 0 (i + 1) with
    | inl j => rw [hq, pbn_l] at h; cases h
    | inr q =>
      obtain ⟨i1, c1⟩ := q
      obtain ⟨v, hv⟩ := apC_val (ev := ev) 60 0 0 (by omega) _ _ _ hq
      rw [hq, pbn_r] at h
      by_cases c2 : tk i1 = 10059
      · rw [if_pos c2] at h; cases h; exact ⟨v, hv⟩
      · rw [if_neg c2] at h; cases h
  · rw [if_neg c0] at h; cases h
theorem apT_val {ev : Nat → Int32} {tk : Nat → Int32} {q : List Int32 × List Int32 × List Int32} (h : apT tk = .inr q) (w : Int32) : ∃ v, ∀ st, runC ev (ck3 q w) st = v :: st := by
  cases hq1 : apP tk 10220 0 with
  | inl j => rw [apT_1 hq1] at h; cases h
  | inr q1 =>
    obtain ⟨i1, c1⟩ := q1
    cases hq2 : apP tk 10221 i1 with
    | inl j => rw [apT_2 hq1 hq2] at h; cases h
    | inr q2 =>
      obtain ⟨i2, c2⟩ := q2
      cases hq3 : apP tk 10222 i2 with
      | inl j => rw [apT_3 hq1 hq2 hq3] at h; cases h
      | inr q3 =>
        obtain ⟨i3, c3⟩ := q3
        rw [apT_4 hq1 hq2 hq3] at h
        by_cases ce : tk i3 = 10300
        · rw [if_pos ce] at h
          cases h
          unfold ck3
          by_cases w0 : w = 0
          · rw [if_pos w0]; exact apP_val hq1
          · rw [if_neg w0]
            by_cases w1 : w = 1
            · rw [if_pos w1]; exact apP_val hq2
            · rw [if_neg w1]; exact apP_val hq3
        · rw [if_neg ce] at h; cases h
abbrev XT : Type := Nat × (Nat → BT)
def okBT (B : BT) : Prop := B.1 ≤ 160 ∧ Wby B.2 B.1 ∧ ∃ q, apT (tkc B.2 B.1) = .inr q
def q3 (B : BT) : List Int32 × List Int32 × List Int32 := match apT (tkc B.2 B.1) with
  | .inr q => q
  | .inl _ => ([], [], [])
theorem q3_eq {B : BT} {q : List Int32 × List Int32 × List Int32} (h : apT (tkc B.2 B.1) = .inr q) : q3 B = q := by unfold q3; rw [h]
def Mtx (X : XT) (h : HS) : Prop := hI h 60 3 = nI X.1 ∧ X.1 ≤ 6 ∧ ∀ i, i < X.1 → hI h 62 i = nI (X.2 i).1 ∧ ∀ k, k < (X.2 i).1 → hI h 61 (160 * i + k) = (X.2 i).2 k
def Wtx (X : XT) : Prop := ∀ i, i < X.1 → okBT (X.2 i)
def Xtx (X : XT) (tg : Nat → Nat) (h : HS) : Prop := X.1 ≤ 6 ∧ ∃ el, XL tg h 35 3 X.1 el ∧ ∀ i, i < X.1 → ∃ ca sa, tg (el i) = 30 + i ∧ tg ca = 40 + i ∧ tg sa = 50 + i ∧ Otx0 (q3 (X.2 i)) h (el i) ca sa
theorem Mtx.fr {X : XT} {g : Nat} {h h' : HS} (hX : Mtx X h) (F : Fr g h h') (hg : g ≠ 6) : Mtx X h' := by
  have f := F.2.2.2.2.2.1
  have q : ∀ a k, grp a k = 6 → hI h' a k = hI h a k := fun a k e => f a k (by rw [e]; exact fun z => hg z.symm) (by rw [e]; decide)
  exact ⟨by rw [q _ _ rfl]; exact hX.1, hX.2.1, fun i hi => ⟨by rw [q _ _ rfl]; exact (hX.2.2 i hi).1, fun k hk => by rw [q _ _ rfl]; exact (hX.2.2 i hi).2 k hk⟩⟩
theorem Otx0.fx {q : List Int32 × List Int32 × List Int32} {h h' : HS} {a ca sa : Nat} {A : Nat → Prop} (O : Otx0 q h a ca sa) (F : Fx A h h') (h1 : a < hN h) (h2 : ca < hN h) (ha : ¬ A a) (hc : ¬ A ca) : Otx0 q h' a ca sa := by
  obtain ⟨o1, o2, o3, o4, o5, o6, o7, o8, o9, o10, o11, o12, o13, o14⟩ := O
  obtain ⟨f1, -, f3⟩ := F.2 a h1 ha
  obtain ⟨g1, -, -⟩ := F.2 ca h2 hc
  exact ⟨F.t o1 (by decide), by rw [f3]; exact o2, by rw [f3]; exact o3, F.t o4 (by decide), F.t o5 (by decide), by rw [F.n (by rw [o4]; decide)]; exact o6, by rw [F.n (by rw [o5]; decide)]; exact o7, by rw [f1]; exact o8, by rw [f1]; exact o9, fun j hj => by rw [g1]; exact o10 j hj, o11, o12, o13, o14⟩
theorem Xtx.fx {X : XT} {tg tg' : Nat → Nat} {A : Nat → Prop} {h h' : HS} (hX : Xtx X tg h) (hw : Wx tg h) (F : Fx A h h') (ht : ∀ b, b < hN h → tg' b = tg b) (hA : ∀ b, b = 35 ∨ tg b = 3 ∨ (30 ≤ tg b ∧ tg b < 36) ∨ (40 ≤ tg b ∧ tg b < 46) → ¬ A b) : Xtx X tg' h' := by
  obtain ⟨h6, el, hl, ho⟩ := hX
  refine ⟨h6, el, hl.fx F (by have := hw.2.2; omega) ht hw (by decide) (hA _ (Or.inl rfl)) (fun b hb => hA b (Or.inr (Or.inl hb))), fun i hi => ?_⟩
  obtain ⟨ca, sa, t1, t2, t3, O⟩ := ho i hi
  have w1 := (hw.1 (el i) (by omega)).2
  have w2 := (hw.1 ca (by omega)).2
  have w3 := (hw.1 sa (by omega)).2
  exact ⟨ca, sa, by rw [ht _ w1]; exact t1, by rw [ht _ w2]; exact t2, by rw [ht _ w3]; exact t3, O.fx F w1 w2 (hA _ (Or.inr (Or.inr (Or.inl (by omega))))) (hA _ (Or.inr (Or.inr (Or.inr (by omega)))))⟩
/-- what a rule says -/
def vR (X : XT) (p : Nat) (ev : Nat → Int32) (w : Int32) : Int32 := (runC ev (ck3 (q3 (X.2 p)) w) []).headD 0
theorem vR_eq {X : XT} {p : Nat} (hW : okBT (X.2 p)) (ev : Nat → Int32) (w : Int32) : runC ev (ck3 (q3 (X.2 p)) w) [] = [vR X p ev w] := by
  obtain ⟨-, -, q, hq⟩ := hW
  obtain ⟨v, hv⟩ := apT_val (ev := ev) hq w
  have := hv []
  rw [q3_eq hq]
  unfold vR
  rw [q3_eq hq, this]
  rfl
theorem M_rule {X : XT} {p s : Nat} {h : HS} {ev : Nat → Int32} (hX : Mtx X h) (hW : Wtx X) (hp : p < X.1) (hs : s < 8) (e1 : hI h 67 s = ev 1) (e2 : hI h 68 s = ev 2) (e3 : hI h 69 s = ev 3) (w : Int32) : ∃ h', f_X12_read (nI p) (nI s) (ev 0) (ev 4) (ev 5) w h = some (vR X p ev w, h') ∧ Fk (fun k => 26 ≤ k ∧ k ≤ 38) h h' := by
  have hok := hW p hp
  have hv := vR_eq hok ev w
  obtain ⟨o1, o2, q, hq⟩ := hok
  obtain ⟨t1, t2⟩ := hX.2.2 p hp
  have h6 := hX.2.1
  have hr := M_read (ev := ev) (s := s) o2 (x := p) (by omega) o1 t1 t2 hs e1 e2 e3 w
  rw [hq] at hr
  obtain ⟨v, h', r1, r2, r3, r4⟩ := hr
  refine ⟨h', ?_, r3⟩
  have r5 : runC ev (ck3 q w) [] = [v] := r4 []
  rw [q3_eq hq, r5] at hv
  have : v = vR X p ev w := by injection hv
  rw [r1, this]
theorem X_rule {X : XT} {p : Nat} {tg : Nat → Nat} {h : HS} {ev : Nat → Int32} (hY : LY TX h) (hX : Xtx X tg h) (hW : Wtx X) (hw : Wx tg h) (hp : p < X.1) (h3 : hI h 32 3 = nI p) (hev : ∀ k, k < 4 → hI h 50 k = ev k) (w : Int32) : ∃ h', f_X11_ruleSays w (ev 4) (ev 5) h = some (vR X p ev w, h') ∧ (∀ k, k < 4 → hI h' 50 k = ev k) ∧ Wx tg h' ∧ hN h' = hN h ∧ Fx (fun b => b = 50 ∨ (50 ≤ tg b ∧ tg b < 56)) h h' := by
  obtain ⟨h6, el, hl, ho⟩ := hX
  obtain ⟨ca, sa, t1, t2, t3, O⟩ := ho p hp
  have w1 := hw.1 (el p) (by omega)
  have w2 := hw.1 ca (by omega)
  have w3 := hw.1 sa (by omega)
  have h89 := hw.2.2
  have F1 : Fx (fun b => b = 50) h (sI (sI h 50 4 (ev 4)) 50 5 (ev 5)) := Fx.sI (Fx.sI Fx.rf (Or.inl rfl)) (Or.inl rfl)
  have hl1 := hl.fx F1 (by omega) (fun _ _ => rfl) hw (by decide) (by decide) (fun b hb z => by have := hw.1 b (by omega); omega)
  have O1 := O.fx F1 w1.2 w2.2 (by omega) (by omega)
  have rd : ∀ k, k < 6 → hI (sI (sI h 50 4 (ev 4)) 50 5 (ev 5)) 50 k = ev k := fun k hk => by
    rw [hI_sI, if_pos rfl]
    by_cases k5 : k = 5
    · rw [if_pos k5, k5]
    · rw [if_neg k5, hI_sI, if_pos rfl]
      by_cases k4 : k = 4
      · rw [if_pos k4, k4]
      · rw [if_neg k4]; exact hev k (by omega)
  obtain ⟨h', s1, s2⟩ := X_comesTo (ev := ev) O1 (hY.t 18 rfl) (hY.n 18 rfl) rd w (vR_eq (hW p hp) ev w)
  have hz : inZ (nI p).toInt 0 ((X.1 : Int) - 1) = true := by rw [inZ_t, nI_Z (by omega)]; omega
  have F2 : Fx (fun b => b = 50 ∨ (50 ≤ tg b ∧ tg b < 56)) h h' := (F1.mono (fun _ _ q => Or.inl q)).tr (s2.fx (fun a k z => Or.inr (by rw [z, t3]; omega)))
  refine ⟨h', ?_, fun k hk => ?_, ?_, by rw [s2.1]; rfl, F2⟩
  · unfold f_X11_ruleSays
    rw [if_pos hl.1, hl.size, Option.bind_some, f_isIn_eq, h3, cnt_pred2 (by omega), z_0, hz, Option.bind_some, if_pos rfl]
    have e32 : hI (sI (sI h 50 (4 : Int32).toNatClampNeg (ev 4)) 50 (5 : Int32).toNatClampNeg (ev 5)) 32 3 = nI p := by rw [hI_sI, if_neg (by decide), hI_sI, if_neg (by decide)]; exact h3
    rw [e32]
    have hg : f_Jx4a65c_get_915e3 35 (nI p) (sI (sI h 50 (4 : Int32).toNatClampNeg (ev 4)) 50 (5 : Int32).toNatClampNeg (ev 5)) = some (some (el p)) := hl1.get hp
    have hk : hT (sI (sI h 50 (4 : Int32).toNatClampNeg (ev 4)) 50 (5 : Int32).toNatClampNeg (ev 5)) (el p) = 11 := O1.1
    have s1' : f_X9_comesTo (el p) w 50 (sI (sI h 50 (4 : Int32).toNatClampNeg (ev 4)) 50 (5 : Int32).toNatClampNeg (ev 5)) = some (vR X p ev w, h') := s1
    rw [hg, Option.bind_some, om_some, if_pos hk, s1', Option.bind_some]
  · rw [s2.i (fun z => by omega)]; exact rd k (by omega)
  · exact Wx.fq (A := fun b _ => b = sa) (show Wx tg (sI (sI h 50 4 (ev 4)) 50 5 (ev 5)) from hw) s2
