/-! ===== texts: the class splits a text ===== -/
def A6 (a k : Nat) : Prop := (a = 39 ∧ k = 4) ∨ a = 41 ∨ a = 42
theorem X_addToken {h : HS} {k : Nat} {c : Int32} {pl : Int32} (hk : hI h 39 4 = nI k) (h160 : k ≤ 160) : ∃ h', f_X6_addToken c pl h = some h' ∧ hI h' 39 4 = nI (k + 1) ∧ (∀ j, hI h' 41 j = if j = k then c else hI h 41 j) ∧ (∀ j, hI h' 42 j = if j = k then pl else hI h 42 j) ∧ Fq A6 h h' := by
  have hx := ixb_n (i := k) (n := 161) (by omega) (by decide)
  have hc : (nI k).toNatClampNeg = k := nI_clamp (by omega)
  have e4 : ∀ v, hI (sI h 41 k v) 39 4 = nI k := fun v => by rw [hI_sI, if_neg (by decide)]; exact hk
  have e4' : ∀ v w, hI (sI (sI h 41 k v) 42 k w) 39 4 = nI k := fun v w => by rw [hI_sI, if_neg (by decide)]; exact e4 v
  refine ⟨sI (sI (sI h 41 k c) 42 k pl) 39 4 (nI k + 1), ?_, ?_, fun j => ?_, fun j => ?_, ?_⟩
  · unfold f_X6_addToken
    rw [hk, if_neg (nI_pos (by omega)), if_neg (by rw [show (160 : Int32) = nI 160 from rfl]; exact nI_nlt h160 (by decide)), if_pos hx, hc, e4, if_pos hx, hc, bh_eq, e4']
  · rw [hI_sI, if_pos rfl, if_pos rfl, nI_1]
  · rw [hI_sI, if_neg (by decide), hI_sI, if_neg (by decide), hI_sI, if_pos rfl]
  · rw [hI_sI, if_neg (by decide), hI_sI, if_pos rfl, hI_sI, if_neg (show ¬ (42 : Nat) = 41 by decide)]
  · exact Fq.sI (Fq.sI (Fq.sI Fq.rf (Or.inr (Or.inl rfl))) (Or.inr (Or.inr rfl))) (Or.inl ⟨rfl, rfl⟩)
theorem Xby.a6 {b : Nat → Int32} {n : Nat} {h h' : HS} (hB : Xby b n h) (F : Fq A6 h h') : Xby b n h' := hB.fq F (by unfold A6; omega) (fun k => by unfold A6; omega)
theorem X_splitOne {b : Nat → Int32} {n p k : Nat} {h : HS} (hB : Xby b n h) (hk : hI h 39 4 = nI k) (h160 : k ≤ 160) (hp : p < n) (hb : ¬ isBl (b p) = true) : ∃ h', f_X6_splitOne (nI p) h = some (nI (lq b n p).2.2, h') ∧ hI h' 39 4 = nI (k + 1) ∧ (∀ j, hI h' 41 j = if j = k then (lq b n p).1 else hI h 41 j) ∧ (∀ j, hI h' 42 j = if j = k then nI (lq b n p).2.1 else hI h 42 j) ∧ Fq A6 h h' := by
  have hn := hB.2.1
  simp only [isBl, Bool.or_eq_true, decide_eq_true_eq, not_or] at hb
  unfold f_X6_splitOne
  rw [X_byteAt hB hp, Option.bind_some, if_neg hb.1, if_neg hb.2, X_isDigit, X_isLetter, X_isSign, Option.bind_some, Option.bind_some, Option.bind_some]
  unfold lq
  rw [if_pos hp]
  by_cases c1 : isLt (b p) = true
  · have c2 : ¬ isDg (b p) = true := fun z => by
      obtain ⟨g1, g2⟩ := inZ_t.mp c1
      obtain ⟨g3, g4⟩ := inZ_t.mp z
      omega
    obtain ⟨r1, r2, r3, r4, r5⟩ := rE_spec (P := isLt) (b := b) (n := n) _ p rfl
    have hE := L_xlt hB (n - p) p 1000 rfl (by omega) (by omega)
    have hW := X_wordToken hB r1 (r2 (by omega)) (fun j hj => r4 _ (by omega) (by omega))
    obtain ⟨h', s1, s2, s3, s4, s5⟩ := X_addToken (c := wcode (wdM b (rE isLt b n p - p) p 0 0)) (pl := nI p) hk h160
    rw [if_neg c2, if_pos c1, if_pos c1]
    refine ⟨h', ?_, s2, s3, s4, s5⟩
    unfold f_X6_endOfLetters
    rw [hE, Option.bind_some, Option.bind_some, hW, Option.bind_some, s1, Option.bind_some]
  · rw [if_neg c1, if_neg c1]
    by_cases c2 : isDg (b p) = true
    · obtain ⟨r1, r2, r3, r4, r5⟩ := rE_spec (P := isDg) (b := b) (n := n) _ p rfl
      have r2' := r2 (by omega)
      have hE := L_xdg hB (n - p) p 1000 rfl (by omega) (by omega)
      have e1 : nI (rE isDg b n p) - nI p = nI (rE isDg b n p - p) := by
        rw [i32_eqZ, i32_subZ (by rw [nI_Z (by omega), nI_Z (by omega)]; omega) (by rw [nI_Z (by omega), nI_Z (by omega)]; omega), nI_Z (by omega), nI_Z (by omega), nI_Z (by omega)]
        omega
      have hM := L_xnum hB r2' (rE isDg b n p - p) p 1000 0 rfl (by omega) r1
      obtain ⟨h', s1, s2, s3, s4, s5⟩ := X_addToken (c := if rE isDg b n p - p ≤ 4 then nmX b (rE isDg b n p - p) p 0 else 10301) (pl := nI p) hk h160
      rw [if_pos c2, if_pos c2]
      refine ⟨h', ?_, s2, s3, s4, s5⟩
      unfold f_X6_endOfDigits
      rw [hE, Option.bind_some, Option.bind_some, e1]
      by_cases c4 : rE isDg b n p - p ≤ 4
      · rw [if_neg (by rw [show (4 : Int32) = nI 4 from rfl]; exact nI_nlt c4 (by decide))]
        rw [if_pos c4] at s1
        unfold f_X6_numberToken
        rw [hM, Option.bind_some, Option.bind_some, Option.bind_some, s1, Option.bind_some]
      · rw [if_pos (by rw [show (4 : Int32) = nI 4 from rfl]; exact nI_lt (by omega) (by omega))]
        rw [if_neg c4] at s1
        rw [Option.bind_some, s1, Option.bind_some]
    · rw [if_neg c2, if_neg c2]
      by_cases c3 : isSg (b p) = true
      · obtain ⟨h', s1, s2, s3, s4, s5⟩ := X_addToken (c := 10000 + b p) (pl := nI p) hk h160
        rw [if_pos c3, if_pos c3]
        refine ⟨h', ?_, s2, s3, s4, s5⟩
        rw [Option.bind_some, s1, Option.bind_some, nI_1]
      · obtain ⟨h', s1, s2, s3, s4, s5⟩ := X_addToken (c := 10301) (pl := nI p) hk h160
        rw [if_neg c3, if_neg c3]
        refine ⟨h', ?_, s2, s3, s4, s5⟩
        rw [Option.bind_some, s1, Option.bind_some, nI_1]
def Xtk (b : Nat → Int32) (n k : Nat) (h : HS) : Prop := hI h 39 4 = nI k ∧ ∀ j, j < k → hI h 41 j = tkc b n j ∧ hI h 42 j = nI (tkp b n j)
theorem L_xsplit0 {b : Nat → Int32} {n it k f : Nat} {h : HS} (hf : 0 < f) (hkp : k ≤ n) (hr : rE isBl b n (psI b n k) = rE isBl b n n) (hB : Xby b n h) (hT : Xtk b n k h) : ∃ h' k', l_X6_split_9 f (nI n) (nI it) h = some h' ∧ Xtk b n k' h' ∧ k' ≤ n ∧ tkc b n k' = 10300 ∧ tkp b n k' = n ∧ Fq A6 h h' := by
  obtain ⟨f, rfl⟩ : ∃ f', f = f' + 1 := ⟨f - 1, by omega⟩
  have h160 := hB.2.1
  have e0 : rE isBl b n (psI b n k) = n := by rw [hr]; exact rE_n (fun z => by omega)
  refine ⟨h, k, ?_, hT, by omega, ?_, ?_, Fq.rf⟩
  · rw [l_X6_split_9]
    by_cases c : (160 : Int32) ≤ nI it
    · rw [if_pos c]
    · rw [if_neg c, hB.1, if_pos (nI_le (by omega) (by omega))]
  · rw [(tkc_s (b := b) (n := n) (i := k)).1, e0]; unfold lq; rw [if_neg (by omega)]
  · rw [(tkc_s (b := b) (n := n) (i := k)).2.1, e0]; unfold lq; rw [if_neg (by omega)]
theorem L_xsplit {b : Nat → Int32} {n : Nat} : ∀ (d p it k f : Nat) (h : HS), n - p ≤ d → d < f → it ≤ 160 → n + it ≤ p + 160 → p ≤ n → k ≤ p → rE isBl b n (psI b n k) = rE isBl b n p → Xby b n h → Xtk b n k h → ∃ h' k', l_X6_split_9 f (nI p) (nI it) h = some h' ∧ Xtk b n k' h' ∧ k' ≤ n ∧ tkc b n k' = 10300 ∧ tkp b n k' = n ∧ Fq A6 h h' := by
  intro d
  induction d with
  | zero =>
    intro p it k f h hd hf hit hpi hp hkp hr hB hT
    have hpn : p = n := by omega
    subst hpn
    exact L_xsplit0 hf hkp hr hB hT
  | succ d ih =>
    intro p it k f h hd hf hit hpi hp hkp hr hB hT
    obtain ⟨f, rfl⟩ : ∃ f', f = f' + 1 := ⟨f - 1, by omega⟩
    have h160 := hB.2.1
    by_cases hpe : p = n
    · subst hpe
      exact L_xsplit0 (by omega) hkp hr hB hT
    have hpn : p < n := by omega
    rw [l_X6_split_9, if_neg (by rw [show (160 : Int32) = nI 160 from rfl]; exact nI_ge (by omega) (by decide)), hB.1, if_neg (nI_ge (by omega) (by omega)), nI_1]
    by_cases cb : isBl (b p) = true
    · have e1 : f_X6_splitOne (nI p) h = some (nI (p + 1), h) := by
        unfold f_X6_splitOne
        rw [X_byteAt hB hpn, Option.bind_some, nI_1]
        simp only [isBl, Bool.or_eq_true, decide_eq_true_eq] at cb
        by_cases c : b p = 32
        · rw [if_pos c]
        · rw [if_neg c, if_pos (cb.resolve_left c)]
      rw [e1, Option.bind_some]
      exact ih (p + 1) (it + 1) k f h (by omega) (by omega) (by omega) (by omega) (by omega) (by omega) (by rw [hr]; exact rE_y hpn cb) hB hT
    · have er : rE isBl b n p = p := rE_n (fun z => cb z.2)
      obtain ⟨t1, t2, t3⟩ := tkc_s (b := b) (n := n) (i := k)
      rw [hr, er] at t1 t2 t3
      obtain ⟨l1, l2, l3, l4⟩ := lq_le (b := b) (n := n) (q := p) (by omega)
      have l4 := l4 hpn
      obtain ⟨h1, s1, s2, s3, s4, s5⟩ := X_splitOne hB hT.1 (by omega) hpn cb
      rw [s1, Option.bind_some]
      rw [← t1] at s3
      rw [← t2] at s4
      rw [← t3] at l1 l2 l4
      rw [← t3]
      obtain ⟨h', k', u1, u2, u3, u4, u5, u6⟩ := ih (psI b n (k + 1)) (it + 1) (k + 1) f h1 (by omega) (by omega) (by omega) (by omega) l2 (by omega) rfl (hB.a6 s5) ⟨s2, fun j hj => by
        rw [s3, s4]
        by_cases e : j = k
        · rw [if_pos e, if_pos e, e]; exact ⟨rfl, rfl⟩
        · rw [if_neg e, if_neg e]; exact hT.2 j (by omega)⟩
      exact ⟨h', k', u1, u2, u3, u4, u5, s5.tr u6⟩
theorem X_split {b : Nat → Int32} {n : Nat} {h : HS} (hB : Xby b n h) : ∃ h' e, f_X6_split h = some h' ∧ e ≤ n ∧ tkc b n e = 10300 ∧ hI h' 39 4 = nI (e + 1) ∧ (∀ j, j ≤ e → hI h' 41 j = tkc b n j ∧ hI h' 42 j = nI (tkp b n j)) ∧ Fq A6 h h' := by
  have h160 := hB.2.1
  have F0 : Fq A6 h (sI h 39 4 0) := Fq.sI Fq.rf (Or.inl ⟨rfl, rfl⟩)
  obtain ⟨h1, e, s1, s2, s3, s4, s5, s6⟩ := L_xsplit (b := b) (n := n) n 0 0 0 1000 (sI h 39 4 0) (by omega) (by omega) (by omega) (by omega) (by omega) (by omega) rfl (hB.a6 F0) ⟨by rw [hI_sI, if_pos rfl, if_pos rfl]; rfl, fun j hj => by omega⟩
  have s1' : l_X6_split_9 1000 (0 : Int32) (0 : Int32) (sI h 39 4 0) = some h1 := s1
  obtain ⟨h2, u1, u2, u3, u4, u5⟩ := X_addToken (c := 10300) (pl := hI h1 39 1) s2.1 (by omega)
  refine ⟨h2, e, ?_, s3, s4, u2, fun j hj => ?_, F0.tr (s6.tr u5)⟩
  · unfold f_X6_split
    rw [s1', Option.bind_some, u1, Option.bind_some]
  · rw [u3, u4]
    by_cases c : j = e
    · rw [if_pos c, if_pos c, c, s4, s5, ((hB.a6 F0).a6 s6).1]
      exact ⟨rfl, rfl⟩
    · rw [if_neg c, if_neg c]; exact s2.2 j (by omega)
