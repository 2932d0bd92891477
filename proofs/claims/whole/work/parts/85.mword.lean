/-! ===== texts: the reference at a token ===== -/
def MP (b : Nat → Int32) (n x i o : Nat) (h : HS) : Prop := Mby b n x h ∧ hI h 60 33 = 0 ∧ RT (hI h 60 28) (hL h 60 30) (tkc b n i) ∧ hI h 60 29 = nI (tkp b n i) ∧ (tkc b n i ≠ 10301 → hI h 60 31 = nI (psI b n (i + 1))) ∧ hI h 60 32 = nI o
/-- the reference has failed at token j -/
def MF (b : Nat → Int32) (n j : Nat) (h : HS) : Prop := hI h 60 33 = 1 ∧ hI h 60 34 = nI (tkp b n j)
/-- the values that a text speaks of -/
def EVm (ev : Nat → Int32) (s : Nat) (h : HS) : Prop := s < 8 ∧ hI h 60 35 = nI s ∧ hI h 60 36 = ev 0 ∧ hI h 67 s = ev 1 ∧ hI h 68 s = ev 2 ∧ hI h 69 s = ev 3 ∧ hI h 60 37 = ev 4 ∧ hI h 60 38 = ev 5
def K7 (k : Nat) : Prop := 28 ≤ k ∧ k ≤ 34
theorem K4_7 {k : Nat} (h : K4 k) : K7 k := by unfold K4 at h; unfold K7; omega
theorem EVm.fk {ev : Nat → Int32} {s : Nat} {h h' : HS} (e : EVm ev s h) (F : Fk K7 h h') : EVm ev s h' := by
  obtain ⟨e1, e2, e3, e4, e5, e6, e7, e8⟩ := e
  exact ⟨e1, by rw [F.i (by unfold K7; omega)]; exact e2, by rw [F.i (by unfold K7; omega)]; exact e3, by rw [F.o (by decide)]; exact e4, by rw [F.o (by decide)]; exact e5, by rw [F.o (by decide)]; exact e6, by rw [F.i (by unfold K7; omega)]; exact e7, by rw [F.i (by unfold K7; omega)]; exact e8⟩
theorem isSg_Z {t : Int32} (h : isSg t = true) : 40 ≤ t.toInt ∧ t.toInt ≤ 61 := by
  simp only [isSg, Bool.or_eq_true, decide_eq_true_eq] at h
  rcases h with ((((((e | e) | e) | e) | e) | e) | e) | e <;> subst e <;> decide
section
variable {b : Nat → Int32} {n x i o : Nat} {h : HS}
theorem RT_word {k : Int32} {w : Int64} {c C : Int32} {W : Int64} (hr : RT k w c) (hWC : ∀ w, wcode w = C ↔ w = W) (hC : 10200 ≤ C.toInt ∧ C.toInt ≤ 10222) : (k = 1 ∧ w = W) ↔ c = C := by
  rcases hr with ⟨e, q⟩ | ⟨e, q⟩ | ⟨e, q⟩ | ⟨e, q, -⟩ | ⟨e, s, s1, s2, -⟩
  · subst e; subst q
    exact ⟨fun z => absurd z.1 (by decide), fun z => by rw [← z] at hC; exact absurd hC (by decide)⟩
  · subst e; subst q
    exact ⟨fun z => absurd z.1 (by decide), fun z => by rw [← z] at hC; exact absurd hC (by decide)⟩
  · subst e; subst q
    exact ⟨fun z => (hWC w).mpr z.2, fun z => ⟨rfl, (hWC w).mp z⟩⟩
  · subst e
    exact ⟨fun z => absurd z.1 (by decide), fun z => by rw [z] at q; omega⟩
  · subst e; subst s2
    refine ⟨fun z => absurd z.1 (by decide), fun z => ?_⟩
    exfalso
    have st := isSg_Z s1
    have e10 : (10000 : Int32).toInt = 10000 := rfl
    rw [← z, i32_addZ (by omega) (by omega), e10] at hC
    omega
theorem RT_sign {k : Int32} {w : Int64} {c s : Int32} (hr : RT k w c) (hs : 0 ≤ s.toInt ∧ s.toInt ≤ 100) : (k = 3 ∧ w = s.toInt64) ↔ c = 10000 + s := by
  have es : ((10000 : Int32) + s).toInt = 10000 + s.toInt := by
    have e : (10000 : Int32).toInt = 10000 := rfl
    rw [i32_addZ (by omega) (by omega), e]
  rcases hr with ⟨e, q⟩ | ⟨e, q⟩ | ⟨e, q⟩ | ⟨e, q, -⟩ | ⟨e, t, s1, s2, s3⟩
  · subst e; subst q
    refine ⟨fun z => absurd z.1 (by decide), fun z => ?_⟩
    rw [i32_eqZ, es, show (10300 : Int32).toInt = 10300 from rfl] at z; omega
  · subst e; subst q
    refine ⟨fun z => absurd z.1 (by decide), fun z => ?_⟩
    rw [i32_eqZ, es, show (10301 : Int32).toInt = 10301 from rfl] at z; omega
  · subst e
    refine ⟨fun z => absurd z.1 (by decide), fun z => ?_⟩
    rw [i32_eqZ, es, q] at z
    rcases wc_in w with y | y
    · rw [y, show (10301 : Int32).toInt = 10301 from rfl] at z; omega
    · omega
  · subst e
    refine ⟨fun z => absurd z.1 (by decide), fun z => ?_⟩
    rw [i32_eqZ, es] at z; omega
  · subst e; subst s2; subst s3
    have et : t.toInt64 = s.toInt64 ↔ t = s := ⟨fun z => by rw [i64_eq0, Int32.toInt_toInt64, Int32.toInt_toInt64] at z; exact i32_eqZ.mpr z, fun z => by rw [z]⟩
    have e2 : (10000 : Int32) + t = 10000 + s ↔ t = s := by
      refine ⟨fun z => ?_, fun z => by rw [z]⟩
      have st := isSg_Z s1
      have e10 : (10000 : Int32).toInt = 10000 := rfl
      rw [i32_eqZ, es, i32_addZ (by omega) (by omega), e10] at z
      rw [i32_eqZ]
      omega
    rw [e2, et]
    exact ⟨fun z => z.2, fun z => ⟨rfl, z⟩⟩
theorem MP_next (hWb : Wby b n) (hp : MP b n x i o h) (hc : tkc b n i ≠ 10301) : ∃ h', f_X12_next h = some h' ∧ MP b n x (i + 1) o h' ∧ Fk K4 h h' := by
  obtain ⟨p1, p2, p3, p4, p5, p6⟩ := hp
  obtain ⟨h', s1, s2, s3, s4, s5⟩ := M_next0 p1 hWb (psI_le b n (i + 1)) (p5 hc)
  exact ⟨h', s1, ⟨p1.fk s5 (by unfold K4; omega) (by unfold K4; omega), by rw [s5.i (by unfold K4; omega)]; exact p2, s2, s3, fun z => by rw [psI_s]; exact s4 z, by rw [s5.i (by unfold K4; omega)]; exact p6⟩, s5⟩
theorem MP_word (hp : MP b n x i o h) {C : Int32} {W : Int64} (hWC : ∀ w, wcode w = C ↔ w = W) (hC : 10200 ≤ C.toInt ∧ C.toInt ≤ 10222) : f_X12_isWord W h = some (decide (tkc b n i = C)) := by
  obtain ⟨p1, p2, p3, p4, p5, p6⟩ := hp
  have q := RT_word p3 hWC hC
  unfold f_X12_isWord
  rw [if_pos p2]
  by_cases c : tkc b n i = C
  · obtain ⟨k1, k2⟩ := q.mpr c
    rw [if_pos k1, if_pos k2, decide_eq_true c]
  · rw [decide_eq_false c]
    by_cases k1 : hI h 60 28 = 1
    · rw [if_pos k1, if_neg (fun z => c (q.mp ⟨k1, z⟩))]
    · rw [if_neg k1]
theorem MP_sign (hp : MP b n x i o h) {s C : Int32} (hC : 10000 + s = C) (hs : 0 ≤ s.toInt ∧ s.toInt ≤ 100) : f_X12_isSign s h = some (decide (tkc b n i = C)) := by
  subst hC
  obtain ⟨p1, p2, p3, p4, p5, p6⟩ := hp
  have q := RT_sign p3 hs
  unfold f_X12_isSign
  rw [if_pos p2]
  by_cases c : tkc b n i = 10000 + s
  · obtain ⟨k1, k2⟩ := q.mpr c
    rw [if_pos k1, if_pos k2, decide_eq_true c]
  · rw [decide_eq_false c]
    by_cases k1 : hI h 60 28 = 3
    · rw [if_pos k1, if_neg (fun z => c (q.mp ⟨k1, z⟩))]
    · rw [if_neg k1]
theorem MF_word {j : Nat} (hf : MF b n j h) (W : Int64) : f_X12_isWord W h = some false := by
  unfold f_X12_isWord
  rw [if_neg (by rw [hf.1]; decide)]
theorem MF_sign {j : Nat} (hf : MF b n j h) (s : Int32) : f_X12_isSign s h = some false := by
  unfold f_X12_isSign
  rw [if_neg (by rw [hf.1]; decide)]
theorem MF_fail {j : Nat} (hf : MF b n j h) : f_X12_fail h = some h := by
  unfold f_X12_fail
  rw [if_neg (by rw [hf.1]; decide)]
theorem MF.fk {j : Nat} {K : Nat → Prop} {h' : HS} (hf : MF b n j h) (F : Fk K h h') (h33 : ¬ K 33) (h34 : ¬ K 34) : MF b n j h' := ⟨by rw [F.i h33]; exact hf.1, by rw [F.i h34]; exact hf.2⟩
theorem MP_fail (hp : MP b n x i o h) : ∃ h', f_X12_fail h = some h' ∧ MF b n i h' ∧ Fk K7 h h' := by
  obtain ⟨p1, p2, p3, p4, p5, p6⟩ := hp
  refine ⟨sI (sI h 60 33 1) 60 34 (hI (sI h 60 33 1) 60 29), ?_, ⟨?_, ?_⟩, Fk.sI (Fk.sI Fk.rf (by unfold K7; omega)) (by unfold K7; omega)⟩
  · unfold f_X12_fail
    rw [if_pos p2]
  · simp (config := { decide := true }) only [hI_sI, hI_sL, hI_sR, hL_sI, hL_sL, hL_sR, hR_sI, hR_sL, hR_sR, hT_sI, hT_sL, hT_sR, hLn_sI, hLn_sL, hLn_sR, hN_sI, hN_sL, hN_sR, if_true, if_false]
  · simp (config := { decide := true }) only [hI_sI, hI_sL, hI_sR, hL_sI, hL_sL, hL_sR, hR_sI, hR_sL, hR_sR, hT_sI, hT_sL, hT_sR, hLn_sI, hLn_sL, hLn_sR, hN_sI, hN_sL, hN_sR, if_true, if_false]
    exact p4
theorem MP_open (hp : MP b n x i o h) (v : Nat) : MP b n x i v (sI h 60 32 (nI v)) := by
  obtain ⟨p1, p2, p3, p4, p5, p6⟩ := hp
  have F : Fk (fun k => k = 32) h (sI h 60 32 (nI v)) := Fk.sI Fk.rf rfl
  exact ⟨p1.fk F (by decide) (by decide), by rw [F.i (by decide)]; exact p2, by rw [F.i (by decide), F.l (by decide)]; exact p3, by rw [F.i (by decide)]; exact p4, fun z => by rw [F.i (by decide)]; exact p5 z, by rw [hI_sI, if_pos rfl, if_pos rfl]⟩
theorem MP_opens (hWb : Wby b n) (hp : MP b n x i o h) (ho : o ≤ 5) (hc : tkc b n i ≠ 10301) : (o = 5 ∧ ∃ h', f_X12_opens h = some (false, h') ∧ MF b n i h' ∧ Fk K7 h h') ∨ (o < 5 ∧ ∃ h', f_X12_opens h = some (true, h') ∧ MP b n x (i + 1) (o + 1) h' ∧ Fk K7 h h') := by
  have p6 := hp.2.2.2.2.2
  by_cases c : o = 5
  · obtain ⟨h', s1, s2, s3⟩ := MP_fail hp
    refine Or.inl ⟨c, h', ?_, s2, s3⟩
    unfold f_X12_opens
    rw [if_pos (by rw [p6, c]; rfl), s1, Option.bind_some]
  · obtain ⟨h', s1, s2, s3⟩ := MP_next hWb (MP_open hp (o + 1)) hc
    refine Or.inr ⟨by omega, h', ?_, s2, (Fk.sI Fk.rf (by unfold K7; omega)).tr (s3.mono (fun _ q => K4_7 q))⟩
    unfold f_X12_opens
    rw [if_neg (by rw [p6, show (5 : Int32) = nI 5 from rfl, nI_eq (by omega) (by decide)]; exact c), p6, nI_1, s1, Option.bind_some]
theorem MP_kind (hp : MP b n x i o h) : (hI h 60 28 = 2 ↔ tkc b n i < 10000) ∧ (tkc b n i < 10000 → (hL h 60 30).toInt32 = tkc b n i ∧ tkc b n i ≠ 10301) ∧ (isVl (tkc b n i) = true → ¬ tkc b n i < 10000 → hI h 60 28 = 1) := by
  obtain ⟨p1, p2, p3, p4, p5, p6⟩ := hp
  have e10 : (10000 : Int32).toInt = 10000 := rfl
  rcases p3 with ⟨e, q⟩ | ⟨e, q⟩ | ⟨e, q⟩ | ⟨e, q, q2⟩ | ⟨e, t, s1, s2, -⟩
  · rw [e, q]; exact ⟨by decide, fun z => absurd z (by decide), fun z => absurd z (by decide)⟩
  · rw [e, q]; exact ⟨by decide, fun z => absurd z (by decide), fun z => absurd z (by decide)⟩
  · rw [e]
    have hn : ¬ tkc b n i < 10000 := by
      rw [i32_lt0, q, e10]
      rcases wc_in (hL h 60 30) with y | y
      · rw [y]; decide
      · omega
    exact ⟨⟨fun z => absurd z (by decide), fun z => absurd z hn⟩, fun z => absurd z hn, fun _ _ => rfl⟩
  · rw [e]
    have hy : tkc b n i < 10000 := by rw [i32_lt0, e10]; omega
    refine ⟨⟨fun _ => hy, fun _ => rfl⟩, fun _ => ⟨?_, fun z => by rw [z] at q; exact absurd q (by decide)⟩, fun _ z => absurd hy z⟩
    rw [i32_eqZ, Int64.toInt_toInt32, q2]
    exact Int.bmod_eq_of_le (by omega) (by omega)
  · rw [e]
    have st := isSg_Z s1
    have hz : (tkc b n i).toInt = 10000 + t.toInt := by rw [s2, i32_addZ (by omega) (by omega), e10]
    have hn : ¬ tkc b n i < 10000 := by rw [i32_lt0, e10]; omega
    refine ⟨⟨fun z => absurd z (by decide), fun z => absurd z hn⟩, fun z => absurd z hn, fun z => ?_⟩
    exfalso
    unfold isVl at z
    rw [if_neg hn, if_pos (by rw [i32_lt0, show (10200 : Int32).toInt = 10200 from rfl]; omega)] at z
    cases z
theorem MP_name (hp : MP b n x i o h) {ev : Nat → Int32} {s : Nat} (he : EVm ev s h) (hk : ¬ tkc b n i < 10000) : (isVl (tkc b n i) = true ∧ f_X12_name h = some (pv ev (tkc b n i), h)) ∨ (isVl (tkc b n i) = false ∧ ∃ h', f_X12_name h = some (0, h') ∧ MF b n i h' ∧ Fk K7 h h') := by
  obtain ⟨e1, e2, e3, e4, e5, e6, e7, e8⟩ := he
  have hx := ixb_n (i := s) (n := 8) e1 (by decide)
  have hc : (nI s).toNatClampNeg = s := nI_clamp (by omega)
  have w0 := MP_word hp wc_odds (by decide)
  have w1 := MP_word hp wc_price (by decide)
  have w2 := MP_word hp wc_bear (by decide)
  have w3 := MP_word hp wc_seems (by decide)
  have w4 := MP_word hp wc_won (by decide)
  have w5 := MP_word hp wc_tries (by decide)
  unfold f_X12_name
  rw [w0, w1, w2, w3, w4, w5, Option.bind_some, Option.bind_some, Option.bind_some, Option.bind_some, Option.bind_some, Option.bind_some, e2, hx, hc, e3, e4, e5, e6, e7, e8]
  obtain ⟨h', f1, f2, f3⟩ := MP_fail hp
  rw [f1]
  generalize tkc b n i = t at *
  by_cases c0 : t = 10200
  · subst c0; exact Or.inl ⟨rfl, rfl⟩
  by_cases c1 : t = 10201
  · subst c1; exact Or.inl ⟨rfl, rfl⟩
  by_cases c2 : t = 10202
  · subst c2; exact Or.inl ⟨rfl, rfl⟩
  by_cases c3 : t = 10203
  · subst c3; exact Or.inl ⟨rfl, rfl⟩
  by_cases c4 : t = 10204
  · subst c4; exact Or.inl ⟨rfl, rfl⟩
  by_cases c5 : t = 10205
  · subst c5; exact Or.inl ⟨rfl, rfl⟩
  refine Or.inr ⟨?_, h', ?_, f2, f3⟩
  · unfold isVl
    rw [if_neg hk]
    by_cases g1 : t < 10200
    · rw [if_pos g1]
    · rw [if_neg g1]
      by_cases g2 : (10206 : Int32) ≤ t
      · rw [if_pos g2]
      · exfalso
        rw [i32_lt0, show (10200 : Int32).toInt = 10200 from rfl] at g1
        rw [i32_le0, show (10206 : Int32).toInt = 10206 from rfl] at g2
        rw [i32_eqZ] at c0 c1 c2 c3 c4 c5
        have a0 : (10200 : Int32).toInt = 10200 := rfl
        have a1 : (10201 : Int32).toInt = 10201 := rfl
        have a2 : (10202 : Int32).toInt = 10202 := rfl
        have a3 : (10203 : Int32).toInt = 10203 := rfl
        have a4 : (10204 : Int32).toInt = 10204 := rfl
        have a5 : (10205 : Int32).toInt = 10205 := rfl
        omega
  · simp only [decide_eq_false c0, decide_eq_false c1, decide_eq_false c2, decide_eq_false c3, decide_eq_false c4, decide_eq_false c5, Option.bind_some]
    rfl
theorem MP_sgw (hp : MP b n x i o h) {s C : Int32} (hC : 10000 + s = C) (hs : 0 ≤ s.toInt ∧ s.toInt ≤ 100) (c : tkc b n i = C) : hL h 60 30 = s.toInt64 := ((RT_sign hp.2.2.1 hs).mpr (c.trans hC.symm)).2
end
