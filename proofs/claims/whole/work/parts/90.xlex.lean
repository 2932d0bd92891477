/-! ===== texts: the class's words and numbers ===== -/
def Fq (A : Nat → Nat → Prop) (h h' : HS) : Prop := hN h' = hN h ∧ hS h' = hS h ∧ hT h' = hT h ∧ hLn h' = hLn h ∧ hR h' = hR h ∧ ∀ a k, ¬ A a k → hI h' a k = hI h a k ∧ hL h' a k = hL h a k
theorem Fq.rf {A : Nat → Nat → Prop} {h : HS} : Fq A h h := ⟨rfl, rfl, rfl, rfl, rfl, fun _ _ _ => ⟨rfl, rfl⟩⟩
theorem Fq.tr {A : Nat → Nat → Prop} {h h1 h2 : HS} (e : Fq A h h1) (f : Fq A h1 h2) : Fq A h h2 := ⟨f.1.trans e.1, f.2.1.trans e.2.1, f.2.2.1.trans e.2.2.1, f.2.2.2.1.trans e.2.2.2.1, f.2.2.2.2.1.trans e.2.2.2.2.1, fun a k z => ⟨(f.2.2.2.2.2 a k z).1.trans (e.2.2.2.2.2 a k z).1, (f.2.2.2.2.2 a k z).2.trans (e.2.2.2.2.2 a k z).2⟩⟩
theorem Fq.mono {A B : Nat → Nat → Prop} {h h' : HS} (e : Fq A h h') (q : ∀ a k, A a k → B a k) : Fq B h h' := ⟨e.1, e.2.1, e.2.2.1, e.2.2.2.1, e.2.2.2.2.1, fun a k z => e.2.2.2.2.2 a k (fun y => z (q a k y))⟩
theorem Fq.sI {A : Nat → Nat → Prop} {h h1 : HS} {a k : Nat} {v : Int32} (e : Fq A h h1) (q : A a k) : Fq A h (sI h1 a k v) := ⟨e.1, e.2.1, e.2.2.1, e.2.2.2.1, e.2.2.2.2.1, fun c j z => by
  obtain ⟨e1, e2⟩ := e.2.2.2.2.2 c j z
  refine ⟨?_, e2⟩
  rw [hI_sI]
  split
  · split
    · rename_i c1 c2
      exact absurd (by rw [c1, c2]; exact q) z
    · exact e1
  · exact e1⟩
theorem Fq.i {A : Nat → Nat → Prop} {h h' : HS} (e : Fq A h h') {a k : Nat} (z : ¬ A a k) : hI h' a k = hI h a k := (e.2.2.2.2.2 a k z).1
def Xby (b : Nat → Int32) (n : Nat) (h : HS) : Prop := hI h 39 1 = nI n ∧ n ≤ 160 ∧ ∀ k, k < n → hI h 40 k = b k
theorem Xby.fq {A : Nat → Nat → Prop} {b : Nat → Int32} {n : Nat} {h h' : HS} (hB : Xby b n h) (F : Fq A h h') (h1 : ¬ A 39 1) (h2 : ∀ k, ¬ A 40 k) : Xby b n h' := ⟨by rw [F.i h1]; exact hB.1, hB.2.1, fun k hk => by rw [F.i (h2 k)]; exact hB.2.2 k hk⟩
theorem X_byteAt {b : Nat → Int32} {n : Nat} {h : HS} (hB : Xby b n h) {p : Nat} (hp : p < n) : f_X6_byteAt (nI p) h = some (b p) := by
  obtain ⟨b1, b2, b3⟩ := hB
  have hx := ixb_n (i := p) (n := 160) (by omega) (by decide)
  have hc : (nI p).toNatClampNeg = p := nI_clamp (by omega)
  unfold f_X6_byteAt
  rw [if_neg (nI_pos (by omega)), if_neg (by rw [show (160 : Int32) = nI 160 from rfl]; exact nI_ge (by omega) (by decide)), if_pos hx, hc, b3 p hp]
theorem X_isDigit (c : Int32) : f_X6_isDigit c = some (isDg c) := by
  have e1 : (48 : Int32).toInt = 48 := rfl
  have e2 : (57 : Int32).toInt = 57 := rfl
  unfold f_X6_isDigit isDg inZ
  by_cases h1 : c < 48
  · rw [if_pos h1]; rw [i32_lt0, e1] at h1; rw [decide_eq_false (by omega)]; rfl
  · rw [if_neg h1]; rw [i32_lt0, e1] at h1
    by_cases h2 : (57 : Int32) < c
    · rw [if_pos h2]; rw [i32_lt0, e2] at h2; rw [decide_eq_true (show (48 : Int) ≤ c.toInt by omega), decide_eq_false (show ¬ c.toInt ≤ 57 by omega)]; rfl
    · rw [if_neg h2]; rw [i32_lt0, e2] at h2; rw [decide_eq_true (show (48 : Int) ≤ c.toInt by omega), decide_eq_true (show c.toInt ≤ 57 by omega)]; rfl
theorem X_isLetter (c : Int32) : f_X6_isLetter c = some (isLt c) := by
  have e1 : (97 : Int32).toInt = 97 := rfl
  have e2 : (122 : Int32).toInt = 122 := rfl
  unfold f_X6_isLetter isLt inZ
  by_cases h1 : c < 97
  · rw [if_pos h1]; rw [i32_lt0, e1] at h1; rw [decide_eq_false (by omega)]; rfl
  · rw [if_neg h1]; rw [i32_lt0, e1] at h1
    by_cases h2 : (122 : Int32) < c
    · rw [if_pos h2]; rw [i32_lt0, e2] at h2; rw [decide_eq_true (show (97 : Int) ≤ c.toInt by omega), decide_eq_false (show ¬ c.toInt ≤ 122 by omega)]; rfl
    · rw [if_neg h2]; rw [i32_lt0, e2] at h2; rw [decide_eq_true (show (97 : Int) ≤ c.toInt by omega), decide_eq_true (show c.toInt ≤ 122 by omega)]; rfl
theorem X_isSign (c : Int32) : f_X6_isSign c = some (isSg c) := by
  by_cases hs : isSg c = true
  · have hs2 := hs
    simp only [isSg, Bool.or_eq_true, decide_eq_true_eq] at hs2
    rcases hs2 with ((((((e | e) | e) | e) | e) | e) | e) | e <;> subst e <;> rfl
  · have hf : isSg c = false := by cases hv : isSg c <;> simp_all
    rw [hf]
    simp only [isSg, Bool.or_eq_true, decide_eq_true_eq, not_or] at hs
    obtain ⟨⟨⟨⟨⟨⟨⟨q1, q2⟩, q3⟩, q4⟩, q5⟩, q6⟩, q7⟩, q8⟩ := hs
    unfold f_X6_isSign
    simp only [if_neg q1, if_neg q2, if_neg q3, if_neg q4, if_neg q5, if_neg q6, if_neg q7, if_neg q8, ite_self]
theorem L_xdg {b : Nat → Int32} {n : Nat} {h : HS} (hB : Xby b n h) : ∀ (d p f : Nat), n - p = d → d < f → p ≤ n → l_X6_endOfDigits_2 h f (nI p) = some (nI (rE isDg b n p)) := by
  have h160 := hB.2.1
  intro d
  induction d with
  | zero =>
    intro p f hd hf hp
    obtain ⟨f, rfl⟩ : ∃ f', f = f' + 1 := ⟨f - 1, by omega⟩
    rw [l_X6_endOfDigits_2, hB.1, if_pos (nI_le (by omega) (by omega)), rE_n (fun z => by omega)]
  | succ d ih =>
    intro p f hd hf hp
    obtain ⟨f, rfl⟩ : ∃ f', f = f' + 1 := ⟨f - 1, by omega⟩
    rw [l_X6_endOfDigits_2, hB.1, if_neg (nI_ge (by omega) (by omega)), X_byteAt hB (by omega), Option.bind_some, X_isDigit, Option.bind_some]
    by_cases c : isDg (b p) = true
    · rw [if_pos c, nI_1, rE_y (by omega) c]
      exact ih (p + 1) f (by omega) (by omega) (by omega)
    · rw [if_neg c, rE_n (fun z => c z.2)]
theorem L_xlt {b : Nat → Int32} {n : Nat} {h : HS} (hB : Xby b n h) : ∀ (d p f : Nat), n - p = d → d < f → p ≤ n → l_X6_endOfLetters_2 h f (nI p) = some (nI (rE isLt b n p)) := by
  have h160 := hB.2.1
  intro d
  induction d with
  | zero =>
    intro p f hd hf hp
    obtain ⟨f, rfl⟩ : ∃ f', f = f' + 1 := ⟨f - 1, by omega⟩
    rw [l_X6_endOfLetters_2, hB.1, if_pos (nI_le (by omega) (by omega)), rE_n (fun z => by omega)]
  | succ d ih =>
    intro p f hd hf hp
    obtain ⟨f, rfl⟩ : ∃ f', f = f' + 1 := ⟨f - 1, by omega⟩
    rw [l_X6_endOfLetters_2, hB.1, if_neg (nI_ge (by omega) (by omega)), X_byteAt hB (by omega), Option.bind_some, X_isLetter, Option.bind_some]
    by_cases c : isLt (b p) = true
    · rw [if_pos c, nI_1, rE_y (by omega) c]
      exact ih (p + 1) f (by omega) (by omega) (by omega)
    · rw [if_neg c, rE_n (fun z => c z.2)]
theorem L_xnum {b : Nat → Int32} {n : Nat} {h : HS} (hB : Xby b n h) {e : Nat} (he : e ≤ n) : ∀ (d p f : Nat) (a : Int32), e - p = d → d < f → p ≤ e → l_X6_numberToken_5 (nI e) h f a (nI p) = some (nmX b d p a) := by
  have h160 := hB.2.1
  intro d
  induction d with
  | zero =>
    intro p f a hd hf hp
    obtain ⟨f, rfl⟩ : ∃ f', f = f' + 1 := ⟨f - 1, by omega⟩
    rw [l_X6_numberToken_5, if_pos (nI_le (by omega) (by omega)), nmX]
  | succ d ih =>
    intro p f a hd hf hp
    obtain ⟨f, rfl⟩ : ∃ f', f = f' + 1 := ⟨f - 1, by omega⟩
    rw [l_X6_numberToken_5, if_neg (nI_ge (by omega) (by omega)), X_byteAt hB (by omega), Option.bind_some, nI_1, nmX]
    exact ih (p + 1) f _ (by omega) (by omega) (by omega)
/-! a word by its letters or by its worth -/
theorem wdM_sn {b : Nat → Int32} : ∀ (d q k : Nat) (a : Int64), wdM b (d + 1) q k a = (if k + d < 8 then (27 : Int64) * wdM b d q k a + (b (q + d)).toInt64 - (96 : Int64) else -1) := by
  intro d
  induction d with
  | zero => intro q k a; rfl
  | succ d ih =>
    intro q k a
    rw [wdM, ih, wdM, show k + 1 + d = k + (d + 1) by omega, show q + 1 + d = q + (d + 1) by omega]
def vlR : List Int → Int
  | [] => 0
  | r :: t => 27 * vlR t + r
def eqR (c : Nat → Int) : Nat → List Int → Prop
  | d, [] => d = 0
  | 0, _ :: _ => False
  | d + 1, r :: t => c d = r ∧ eqR c d t
theorem vlR_0 {rs : List Int} (h : ∀ r ∈ rs, 1 ≤ r ∧ r ≤ 26) : 0 ≤ vlR rs := by
  induction rs with
  | nil => exact Int.le_refl _
  | cons r t ih =>
    have h1 := h r (List.mem_cons_self ..)
    have h2 := ih (fun x hx => h x (List.mem_cons_of_mem _ hx))
    show 0 ≤ 27 * vlR t + r
    omega
theorem eqR_len {c : Nat → Int} : ∀ (rs : List Int) (d : Nat), eqR c d rs → d = rs.length := by
  intro rs
  induction rs with
  | nil => intro d h; cases d <;> exact h
  | cons r t ih =>
    intro d h
    cases d with
    | zero => exact absurd h (fun z => z)
    | succ d => have := ih d h.2; simp [this]
theorem wd_val {b : Nat → Int32} {q : Nat} : ∀ (d : Nat), d ≤ 8 → (∀ j, j < d → isLt (b (q + j)) = true) → 0 ≤ (wdM b d q 0 0).toInt ∧ (wdM b d q 0 0).toInt < 27 ^ d ∧ (1 ≤ d → 1 ≤ (wdM b d q 0 0).toInt) ∧ ∀ d', d = d' + 1 → (wdM b d q 0 0).toInt = 27 * (wdM b d' q 0 0).toInt + ((b (q + d')).toInt - 96) := by
  intro d
  induction d with
  | zero => intro _ _; exact ⟨by show (0 : Int) ≤ 0; decide, by show (0 : Int) < 1; decide, fun z => by omega, fun d' z => by omega⟩
  | succ d ih =>
    intro h8 hl
    obtain ⟨i1, i2, i3, i4⟩ := ih (by omega) (fun j hj => hl j (by omega))
    obtain ⟨g1, g2⟩ := inZ_t.mp (hl d (by omega))
    have hk : (27 : Int) ^ (d + 1) = 27 * 27 ^ d := by rw [Int.pow_succ]; omega
    have hb : (27 : Int) ^ d ≤ 10460353203 := by
      have : d = 0 ∨ d = 1 ∨ d = 2 ∨ d = 3 ∨ d = 4 ∨ d = 5 ∨ d = 6 ∨ d = 7 := by omega
      rcases this with e | e | e | e | e | e | e | e <;> subst e <;> decide
    have f27 : (27 : Int64).toInt = 27 := rfl
    have f96 : (96 : Int64).toInt = 96 := rfl
    have e0 := wdM_sn (b := b) d q 0 0
    rw [if_pos (by omega)] at e0
    have m1 : ((27 : Int64) * wdM b d q 0 0).toInt = 27 * (wdM b d q 0 0).toInt := by
      rw [Int64.toInt_mul, f27]; exact Int.bmod_eq_of_le (by omega) (by omega)
    have m2 : ((27 : Int64) * wdM b d q 0 0 + (b (q + d)).toInt64).toInt = 27 * (wdM b d q 0 0).toInt + (b (q + d)).toInt := by
      rw [Int64.toInt_add, m1, Int32.toInt_toInt64]; exact Int.bmod_eq_of_le (by omega) (by omega)
    have m3 : (wdM b (d + 1) q 0 0).toInt = 27 * (wdM b d q 0 0).toInt + (b (q + d)).toInt - 96 := by
      rw [e0, Int64.toInt_sub, m2, f96]; exact Int.bmod_eq_of_le (by omega) (by omega)
    refine ⟨by omega, by rw [hk]; omega, fun _ => by omega, fun d' z => ?_⟩
    have : d' = d := by omega
    subst this
    omega
theorem wd_long {b : Nat → Int32} {q d : Nat} (h : 8 < d) : wdM b d q 0 0 = -1 := by
  obtain ⟨d, rfl⟩ : ∃ d', d = d' + 1 := ⟨d - 1, by omega⟩
  rw [wdM_sn, if_neg (by omega)]
theorem wd_eqR {b : Nat → Int32} {q : Nat} : ∀ (rs : List Int) (d : Nat), d ≤ 8 → (∀ j, j < d → isLt (b (q + j)) = true) → (∀ r ∈ rs, 1 ≤ r ∧ r ≤ 26) → ((wdM b d q 0 0).toInt = vlR rs ↔ eqR (fun j => (b (q + j)).toInt - 96) d rs) := by
  intro rs
  induction rs with
  | nil =>
    intro d h8 hl _
    obtain ⟨i1, i2, i3, i4⟩ := wd_val d h8 hl
    show _ = (0 : Int) ↔ _
    cases d with
    | zero => exact ⟨fun _ => rfl, fun _ => rfl⟩
    | succ d => exact ⟨fun z => by have := i3 (by omega); omega, fun z => by have : d + 1 = 0 := z; omega⟩
  | cons r t ih =>
    intro d h8 hl hr
    have h1 := hr r (List.mem_cons_self ..)
    have h2 := vlR_0 (rs := t) (fun x hx => hr x (List.mem_cons_of_mem _ hx))
    show _ = 27 * vlR t + r ↔ _
    cases d with
    | zero =>
      refine ⟨fun z => ?_, fun z => absurd z (fun y => y)⟩
      have e : (wdM b 0 q 0 0).toInt = 0 := rfl
      omega
    | succ d =>
      obtain ⟨i1, i2, i3, i4⟩ := wd_val (b := b) (q := q) (d + 1) h8 hl
      obtain ⟨g1, g2⟩ := inZ_t.mp (hl d (by omega))
      have e := i4 d rfl
      have q1 := ih d (by omega) (fun j hj => hl j (by omega)) (fun x hx => hr x (List.mem_cons_of_mem _ hx))
      show _ ↔ ((b (q + d)).toInt - 96 = r ∧ eqR _ d t)
      rw [← q1, e]
      omega
theorem wd_word {b : Nat → Int32} {q d : Nat} {rs : List Int} {W : Int64} (hl : ∀ j, j < d → isLt (b (q + j)) = true) (hr : ∀ r ∈ rs, 1 ≤ r ∧ r ≤ 26) (h8 : rs.length ≤ 8) (hW : W.toInt = vlR rs) : wdM b d q 0 0 = W ↔ eqR (fun j => (b (q + j)).toInt - 96) d rs := by
  by_cases c : d ≤ 8
  · rw [← wd_eqR rs d c hl hr, ← hW]
    exact i64_eq0
  · rw [wd_long (by omega)]
    refine ⟨fun z => ?_, fun z => ?_⟩
    · have := vlR_0 hr
      rw [← hW, ← z] at this
      exact absurd this (by decide)
    · have := eqR_len _ _ z; omega
def eqW (b : Nat → Int32) : Nat → List Int32 → Bool
  | _, [] => true
  | q, c :: r => decide (c = b q) && eqW b (q + 1) r
theorem L_xword {b : Nat → Int32} {n : Nat} {h : HS} (hB : Xby b n h) {k : Nat} (hk : k < 13) {cs : List Int32} (hlen : f_J0_length_8abf5 k = some (nI cs.length)) (h8 : cs.length ≤ 8) (hch : ∀ i, i < cs.length → f_J0_charAt_5068e k (nI i) = some (cs.getD i 0)) {q : Nat} (hq : q + cs.length ≤ n) : ∀ (d i f : Nat), i + d = cs.length → d < f → l_X6_isWord_15 k (nI q) h f (nI i) = some (if eqW b (q + i) (cs.drop i) = true then Sum.inr () else Sum.inl false) := by
  have h160 := hB.2.1
  intro d
  induction d with
  | zero =>
    intro i f hd hf
    obtain ⟨f, rfl⟩ : ∃ f', f = f' + 1 := ⟨f - 1, by omega⟩
    rw [l_X6_isWord_15, if_pos hk, hlen, Option.bind_some, if_pos (nI_le (by omega) (by omega)), List.drop_of_length_le (by omega)]
    rfl
  | succ d ih =>
    intro i f hd hf
    obtain ⟨f, rfl⟩ : ∃ f', f = f' + 1 := ⟨f - 1, by omega⟩
    have hi : i < cs.length := by omega
    have ed : cs.drop i = cs.getD i 0 :: cs.drop (i + 1) := by
      rw [List.drop_eq_getElem_cons hi]
      simp [List.getD, hi]
    rw [l_X6_isWord_15, if_pos hk, hlen, Option.bind_some, if_neg (nI_ge (by omega) (by omega)), hch i hi, Option.bind_some, nI_add, X_byteAt hB (by omega), Option.bind_some, nI_1, ed, eqW]
    by_cases c : cs.getD i 0 = b (q + i)
    · rw [if_pos c, ih (i + 1) f (by omega) (by omega), decide_eq_true c, Bool.true_and, Nat.add_assoc]
    · rw [if_neg c, decide_eq_false c, Bool.false_and]
      rfl
theorem X_isWord {b : Nat → Int32} {n : Nat} {h : HS} (hB : Xby b n h) {k : Nat} (hk : k < 13) {cs : List Int32} (hlen : f_J0_length_8abf5 k = some (nI cs.length)) (h8 : cs.length ≤ 8) (hch : ∀ i, i < cs.length → f_J0_charAt_5068e k (nI i) = some (cs.getD i 0)) {q e : Nat} (hq : q ≤ e) (he : e ≤ n) : f_X6_isWord k (nI q) (nI e) h = some (decide (e - q = cs.length) && eqW b q cs) := by
  have h160 := hB.2.1
  have e1 : nI e - nI q = nI (e - q) := by
    rw [i32_eqZ, i32_subZ (by rw [nI_Z (by omega), nI_Z (by omega)]; omega) (by rw [nI_Z (by omega), nI_Z (by omega)]; omega), nI_Z (by omega), nI_Z (by omega), nI_Z (by omega)]
    omega
  unfold f_X6_isWord
  rw [if_pos hk, hlen, Option.bind_some, e1]
  by_cases c : e - q = cs.length
  · have hL := L_xword hB hk hlen h8 hch (q := q) (by omega) cs.length 0 1000 (by omega) (by omega)
    have hL' : l_X6_isWord_15 k (nI q) h 1000 (0 : Int32) = some (if eqW b (q + 0) (cs.drop 0) = true then Sum.inr () else Sum.inl false) := hL
    rw [if_pos (by rw [c]), hL', Option.bind_some, decide_eq_true c, Bool.true_and, List.drop_zero, Nat.add_zero]
    cases eqW b q cs <;> rfl
  · rw [if_neg (by rw [nI_eq (by omega) (by omega)]; omega), decide_eq_false c, Bool.false_and]
theorem X_w_odds {b : Nat → Int32} {n : Nat} {h : HS} (hB : Xby b n h) {q e : Nat} (hq : q ≤ e) (he : e ≤ n) (hl : ∀ j, j < e - q → isLt (b (q + j)) = true) : f_X6_isWord 1 (nI q) (nI e) h = some (decide (wdM b (e - q) q 0 0 = 298288)) := by
  rw [X_isWord hB (k := 1) (by decide) (cs := [111, 100, 100, 115]) (by decide +kernel) (by decide) (fun i hi => by
    have : i = 0 ∨ i = 1 ∨ i = 2 ∨ i = 3 := by simp only [List.length_cons, List.length_nil] at hi; omega
    rcases this with e | e | e | e <;> subst e <;> decide +kernel) hq he]
  refine congrArg some ?_
  have hw := wd_word (b := b) (q := q) (d := e - q) (rs := [19, 4, 4, 15]) (W := 298288) hl (by decide) (by decide) (by decide)
  rw [Bool.eq_iff_iff, decide_eq_true_iff, hw, Bool.and_eq_true, decide_eq_true_iff]
  simp only [List.length_cons, List.length_nil, eqW, Bool.and_eq_true, decide_eq_true_eq, i32_eqZ]
  constructor
  · rintro ⟨z, y⟩
    rw [show e - q = 4 by omega]
    simp only [eqR]
    have a0 : (111 : Int32).toInt = 111 := rfl; have a1 : (100 : Int32).toInt = 100 := rfl; have a2 : (100 : Int32).toInt = 100 := rfl; have a3 : (115 : Int32).toInt = 115 := rfl; simp only [a0, a1, a2, a3, Nat.add_assoc, Nat.reduceAdd, Nat.add_zero, and_true] at y ⊢
    omega
  · intro z
    have y := eqR_len _ _ z
    simp only [List.length_cons, List.length_nil] at y
    rw [show e - q = 4 by omega] at z
    simp only [eqR] at z
    have a0 : (111 : Int32).toInt = 111 := rfl; have a1 : (100 : Int32).toInt = 100 := rfl; have a2 : (100 : Int32).toInt = 100 := rfl; have a3 : (115 : Int32).toInt = 115 := rfl; simp only [a0, a1, a2, a3, Nat.add_assoc, Nat.reduceAdd, Nat.add_zero, and_true] at z ⊢
    omega
theorem X_w_price {b : Nat → Int32} {n : Nat} {h : HS} (hB : Xby b n h) {q e : Nat} (hq : q ≤ e) (he : e ≤ n) (hl : ∀ j, j < e - q → isLt (b (q + j)) = true) : f_X6_isWord 2 (nI q) (nI e) h = some (decide (wdM b (e - q) q 0 0 = 8863997)) := by
  rw [X_isWord hB (k := 2) (by decide) (cs := [112, 114, 105, 99, 101]) (by decide +kernel) (by decide) (fun i hi => by
    have : i = 0 ∨ i = 1 ∨ i = 2 ∨ i = 3 ∨ i = 4 := by simp only [List.length_cons, List.length_nil] at hi; omega
    rcases this with e | e | e | e | e <;> subst e <;> decide +kernel) hq he]
  refine congrArg some ?_
  have hw := wd_word (b := b) (q := q) (d := e - q) (rs := [5, 3, 9, 18, 16]) (W := 8863997) hl (by decide) (by decide) (by decide)
  rw [Bool.eq_iff_iff, decide_eq_true_iff, hw, Bool.and_eq_true, decide_eq_true_iff]
  simp only [List.length_cons, List.length_nil, eqW, Bool.and_eq_true, decide_eq_true_eq, i32_eqZ]
  constructor
  · rintro ⟨z, y⟩
    rw [show e - q = 5 by omega]
    simp only [eqR]
    have a0 : (112 : Int32).toInt = 112 := rfl; have a1 : (114 : Int32).toInt = 114 := rfl; have a2 : (105 : Int32).toInt = 105 := rfl; have a3 : (99 : Int32).toInt = 99 := rfl; have a4 : (101 : Int32).toInt = 101 := rfl; simp only [a0, a1, a2, a3, a4, Nat.add_assoc, Nat.reduceAdd, Nat.add_zero, and_true] at y ⊢
    omega
  · intro z
    have y := eqR_len _ _ z
    simp only [List.length_cons, List.length_nil] at y
    rw [show e - q = 5 by omega] at z
    simp only [eqR] at z
    have a0 : (112 : Int32).toInt = 112 := rfl; have a1 : (114 : Int32).toInt = 114 := rfl; have a2 : (105 : Int32).toInt = 105 := rfl; have a3 : (99 : Int32).toInt = 99 := rfl; have a4 : (101 : Int32).toInt = 101 := rfl; simp only [a0, a1, a2, a3, a4, Nat.add_assoc, Nat.reduceAdd, Nat.add_zero, and_true] at z ⊢
    omega
theorem X_w_bear {b : Nat → Int32} {n : Nat} {h : HS} (hB : Xby b n h) {q e : Nat} (hq : q ≤ e) (he : e ≤ n) (hl : ∀ j, j < e - q → isLt (b (q + j)) = true) : f_X6_isWord 3 (nI q) (nI e) h = some (decide (wdM b (e - q) q 0 0 = 43056)) := by
  rw [X_isWord hB (k := 3) (by decide) (cs := [98, 101, 97, 114]) (by decide +kernel) (by decide) (fun i hi => by
    have : i = 0 ∨ i = 1 ∨ i = 2 ∨ i = 3 := by simp only [List.length_cons, List.length_nil] at hi; omega
    rcases this with e | e | e | e <;> subst e <;> decide +kernel) hq he]
  refine congrArg some ?_
  have hw := wd_word (b := b) (q := q) (d := e - q) (rs := [18, 1, 5, 2]) (W := 43056) hl (by decide) (by decide) (by decide)
  rw [Bool.eq_iff_iff, decide_eq_true_iff, hw, Bool.and_eq_true, decide_eq_true_iff]
  simp only [List.length_cons, List.length_nil, eqW, Bool.and_eq_true, decide_eq_true_eq, i32_eqZ]
  constructor
  · rintro ⟨z, y⟩
    rw [show e - q = 4 by omega]
    simp only [eqR]
    have a0 : (98 : Int32).toInt = 98 := rfl; have a1 : (101 : Int32).toInt = 101 := rfl; have a2 : (97 : Int32).toInt = 97 := rfl; have a3 : (114 : Int32).toInt = 114 := rfl; simp only [a0, a1, a2, a3, Nat.add_assoc, Nat.reduceAdd, Nat.add_zero, and_true] at y ⊢
    omega
  · intro z
    have y := eqR_len _ _ z
    simp only [List.length_cons, List.length_nil] at y
    rw [show e - q = 4 by omega] at z
    simp only [eqR] at z
    have a0 : (98 : Int32).toInt = 98 := rfl; have a1 : (101 : Int32).toInt = 101 := rfl; have a2 : (97 : Int32).toInt = 97 := rfl; have a3 : (114 : Int32).toInt = 114 := rfl; simp only [a0, a1, a2, a3, Nat.add_assoc, Nat.reduceAdd, Nat.add_zero, and_true] at z ⊢
    omega
theorem X_w_seems {b : Nat → Int32} {n : Nat} {h : HS} (hB : Xby b n h) {q e : Nat} (hq : q ≤ e) (he : e ≤ n) (hl : ∀ j, j < e - q → isLt (b (q + j)) = true) : f_X6_isWord 4 (nI q) (nI e) h = some (decide (wdM b (e - q) q 0 0 = 10199809)) := by
  rw [X_isWord hB (k := 4) (by decide) (cs := [115, 101, 101, 109, 115]) (by decide +kernel) (by decide) (fun i hi => by
    have : i = 0 ∨ i = 1 ∨ i = 2 ∨ i = 3 ∨ i = 4 := by simp only [List.length_cons, List.length_nil] at hi; omega
    rcases this with e | e | e | e | e <;> subst e <;> decide +kernel) hq he]
  refine congrArg some ?_
  have hw := wd_word (b := b) (q := q) (d := e - q) (rs := [19, 13, 5, 5, 19]) (W := 10199809) hl (by decide) (by decide) (by decide)
  rw [Bool.eq_iff_iff, decide_eq_true_iff, hw, Bool.and_eq_true, decide_eq_true_iff]
  simp only [List.length_cons, List.length_nil, eqW, Bool.and_eq_true, decide_eq_true_eq, i32_eqZ]
  constructor
  · rintro ⟨z, y⟩
    rw [show e - q = 5 by omega]
    simp only [eqR]
    have a0 : (115 : Int32).toInt = 115 := rfl; have a1 : (101 : Int32).toInt = 101 := rfl; have a2 : (101 : Int32).toInt = 101 := rfl; have a3 : (109 : Int32).toInt = 109 := rfl; have a4 : (115 : Int32).toInt = 115 := rfl; simp only [a0, a1, a2, a3, a4, Nat.add_assoc, Nat.reduceAdd, Nat.add_zero, and_true] at y ⊢
    omega
  · intro z
    have y := eqR_len _ _ z
    simp only [List.length_cons, List.length_nil] at y
    rw [show e - q = 5 by omega] at z
    simp only [eqR] at z
    have a0 : (115 : Int32).toInt = 115 := rfl; have a1 : (101 : Int32).toInt = 101 := rfl; have a2 : (101 : Int32).toInt = 101 := rfl; have a3 : (109 : Int32).toInt = 109 := rfl; have a4 : (115 : Int32).toInt = 115 := rfl; simp only [a0, a1, a2, a3, a4, Nat.add_assoc, Nat.reduceAdd, Nat.add_zero, and_true] at z ⊢
    omega
theorem X_w_won {b : Nat → Int32} {n : Nat} {h : HS} (hB : Xby b n h) {q e : Nat} (hq : q ≤ e) (he : e ≤ n) (hl : ∀ j, j < e - q → isLt (b (q + j)) = true) : f_X6_isWord 5 (nI q) (nI e) h = some (decide (wdM b (e - q) q 0 0 = 17186)) := by
  rw [X_isWord hB (k := 5) (by decide) (cs := [119, 111, 110]) (by decide +kernel) (by decide) (fun i hi => by
    have : i = 0 ∨ i = 1 ∨ i = 2 := by simp only [List.length_cons, List.length_nil] at hi; omega
    rcases this with e | e | e <;> subst e <;> decide +kernel) hq he]
  refine congrArg some ?_
  have hw := wd_word (b := b) (q := q) (d := e - q) (rs := [14, 15, 23]) (W := 17186) hl (by decide) (by decide) (by decide)
  rw [Bool.eq_iff_iff, decide_eq_true_iff, hw, Bool.and_eq_true, decide_eq_true_iff]
  simp only [List.length_cons, List.length_nil, eqW, Bool.and_eq_true, decide_eq_true_eq, i32_eqZ]
  constructor
  · rintro ⟨z, y⟩
    rw [show e - q = 3 by omega]
    simp only [eqR]
    have a0 : (119 : Int32).toInt = 119 := rfl; have a1 : (111 : Int32).toInt = 111 := rfl; have a2 : (110 : Int32).toInt = 110 := rfl; simp only [a0, a1, a2, Nat.add_assoc, Nat.reduceAdd, Nat.add_zero, and_true] at y ⊢
    omega
  · intro z
    have y := eqR_len _ _ z
    simp only [List.length_cons, List.length_nil] at y
    rw [show e - q = 3 by omega] at z
    simp only [eqR] at z
    have a0 : (119 : Int32).toInt = 119 := rfl; have a1 : (111 : Int32).toInt = 111 := rfl; have a2 : (110 : Int32).toInt = 110 := rfl; simp only [a0, a1, a2, Nat.add_assoc, Nat.reduceAdd, Nat.add_zero, and_true] at z ⊢
    omega
theorem X_w_tries {b : Nat → Int32} {n : Nat} {h : HS} (hB : Xby b n h) {q e : Nat} (hq : q ≤ e) (he : e ≤ n) (hl : ∀ j, j < e - q → isLt (b (q + j)) = true) : f_X6_isWord 6 (nI q) (nI e) h = some (decide (wdM b (e - q) q 0 0 = 10989829)) := by
  rw [X_isWord hB (k := 6) (by decide) (cs := [116, 114, 105, 101, 115]) (by decide +kernel) (by decide) (fun i hi => by
    have : i = 0 ∨ i = 1 ∨ i = 2 ∨ i = 3 ∨ i = 4 := by simp only [List.length_cons, List.length_nil] at hi; omega
    rcases this with e | e | e | e | e <;> subst e <;> decide +kernel) hq he]
  refine congrArg some ?_
  have hw := wd_word (b := b) (q := q) (d := e - q) (rs := [19, 5, 9, 18, 20]) (W := 10989829) hl (by decide) (by decide) (by decide)
  rw [Bool.eq_iff_iff, decide_eq_true_iff, hw, Bool.and_eq_true, decide_eq_true_iff]
  simp only [List.length_cons, List.length_nil, eqW, Bool.and_eq_true, decide_eq_true_eq, i32_eqZ]
  constructor
  · rintro ⟨z, y⟩
    rw [show e - q = 5 by omega]
    simp only [eqR]
    have a0 : (116 : Int32).toInt = 116 := rfl; have a1 : (114 : Int32).toInt = 114 := rfl; have a2 : (105 : Int32).toInt = 105 := rfl; have a3 : (101 : Int32).toInt = 101 := rfl; have a4 : (115 : Int32).toInt = 115 := rfl; simp only [a0, a1, a2, a3, a4, Nat.add_assoc, Nat.reduceAdd, Nat.add_zero, and_true] at y ⊢
    omega
  · intro z
    have y := eqR_len _ _ z
    simp only [List.length_cons, List.length_nil] at y
    rw [show e - q = 5 by omega] at z
    simp only [eqR] at z
    have a0 : (116 : Int32).toInt = 116 := rfl; have a1 : (114 : Int32).toInt = 114 := rfl; have a2 : (105 : Int32).toInt = 105 := rfl; have a3 : (101 : Int32).toInt = 101 := rfl; have a4 : (115 : Int32).toInt = 115 := rfl; simp only [a0, a1, a2, a3, a4, Nat.add_assoc, Nat.reduceAdd, Nat.add_zero, and_true] at z ⊢
    omega
theorem X_w_or {b : Nat → Int32} {n : Nat} {h : HS} (hB : Xby b n h) {q e : Nat} (hq : q ≤ e) (he : e ≤ n) (hl : ∀ j, j < e - q → isLt (b (q + j)) = true) : f_X6_isWord 7 (nI q) (nI e) h = some (decide (wdM b (e - q) q 0 0 = 423)) := by
  rw [X_isWord hB (k := 7) (by decide) (cs := [111, 114]) (by decide +kernel) (by decide) (fun i hi => by
    have : i = 0 ∨ i = 1 := by simp only [List.length_cons, List.length_nil] at hi; omega
    rcases this with e | e <;> subst e <;> decide +kernel) hq he]
  refine congrArg some ?_
  have hw := wd_word (b := b) (q := q) (d := e - q) (rs := [18, 15]) (W := 423) hl (by decide) (by decide) (by decide)
  rw [Bool.eq_iff_iff, decide_eq_true_iff, hw, Bool.and_eq_true, decide_eq_true_iff]
  simp only [List.length_cons, List.length_nil, eqW, Bool.and_eq_true, decide_eq_true_eq, i32_eqZ]
  constructor
  · rintro ⟨z, y⟩
    rw [show e - q = 2 by omega]
    simp only [eqR]
    have a0 : (111 : Int32).toInt = 111 := rfl; have a1 : (114 : Int32).toInt = 114 := rfl; simp only [a0, a1, Nat.add_assoc, Nat.reduceAdd, Nat.add_zero, and_true] at y ⊢
    omega
  · intro z
    have y := eqR_len _ _ z
    simp only [List.length_cons, List.length_nil] at y
    rw [show e - q = 2 by omega] at z
    simp only [eqR] at z
    have a0 : (111 : Int32).toInt = 111 := rfl; have a1 : (114 : Int32).toInt = 114 := rfl; simp only [a0, a1, Nat.add_assoc, Nat.reduceAdd, Nat.add_zero, and_true] at z ⊢
    omega
theorem X_w_and {b : Nat → Int32} {n : Nat} {h : HS} (hB : Xby b n h) {q e : Nat} (hq : q ≤ e) (he : e ≤ n) (hl : ∀ j, j < e - q → isLt (b (q + j)) = true) : f_X6_isWord 8 (nI q) (nI e) h = some (decide (wdM b (e - q) q 0 0 = 1111)) := by
  rw [X_isWord hB (k := 8) (by decide) (cs := [97, 110, 100]) (by decide +kernel) (by decide) (fun i hi => by
    have : i = 0 ∨ i = 1 ∨ i = 2 := by simp only [List.length_cons, List.length_nil] at hi; omega
    rcases this with e | e | e <;> subst e <;> decide +kernel) hq he]
  refine congrArg some ?_
  have hw := wd_word (b := b) (q := q) (d := e - q) (rs := [4, 14, 1]) (W := 1111) hl (by decide) (by decide) (by decide)
  rw [Bool.eq_iff_iff, decide_eq_true_iff, hw, Bool.and_eq_true, decide_eq_true_iff]
  simp only [List.length_cons, List.length_nil, eqW, Bool.and_eq_true, decide_eq_true_eq, i32_eqZ]
  constructor
  · rintro ⟨z, y⟩
    rw [show e - q = 3 by omega]
    simp only [eqR]
    have a0 : (97 : Int32).toInt = 97 := rfl; have a1 : (110 : Int32).toInt = 110 := rfl; have a2 : (100 : Int32).toInt = 100 := rfl; simp only [a0, a1, a2, Nat.add_assoc, Nat.reduceAdd, Nat.add_zero, and_true] at y ⊢
    omega
  · intro z
    have y := eqR_len _ _ z
    simp only [List.length_cons, List.length_nil] at y
    rw [show e - q = 3 by omega] at z
    simp only [eqR] at z
    have a0 : (97 : Int32).toInt = 97 := rfl; have a1 : (110 : Int32).toInt = 110 := rfl; have a2 : (100 : Int32).toInt = 100 := rfl; simp only [a0, a1, a2, Nat.add_assoc, Nat.reduceAdd, Nat.add_zero, and_true] at z ⊢
    omega
theorem X_w_not {b : Nat → Int32} {n : Nat} {h : HS} (hB : Xby b n h) {q e : Nat} (hq : q ≤ e) (he : e ≤ n) (hl : ∀ j, j < e - q → isLt (b (q + j)) = true) : f_X6_isWord 9 (nI q) (nI e) h = some (decide (wdM b (e - q) q 0 0 = 10631)) := by
  rw [X_isWord hB (k := 9) (by decide) (cs := [110, 111, 116]) (by decide +kernel) (by decide) (fun i hi => by
    have : i = 0 ∨ i = 1 ∨ i = 2 := by simp only [List.length_cons, List.length_nil] at hi; omega
    rcases this with e | e | e <;> subst e <;> decide +kernel) hq he]
  refine congrArg some ?_
  have hw := wd_word (b := b) (q := q) (d := e - q) (rs := [20, 15, 14]) (W := 10631) hl (by decide) (by decide) (by decide)
  rw [Bool.eq_iff_iff, decide_eq_true_iff, hw, Bool.and_eq_true, decide_eq_true_iff]
  simp only [List.length_cons, List.length_nil, eqW, Bool.and_eq_true, decide_eq_true_eq, i32_eqZ]
  constructor
  · rintro ⟨z, y⟩
    rw [show e - q = 3 by omega]
    simp only [eqR]
    have a0 : (110 : Int32).toInt = 110 := rfl; have a1 : (111 : Int32).toInt = 111 := rfl; have a2 : (116 : Int32).toInt = 116 := rfl; simp only [a0, a1, a2, Nat.add_assoc, Nat.reduceAdd, Nat.add_zero, and_true] at y ⊢
    omega
  · intro z
    have y := eqR_len _ _ z
    simp only [List.length_cons, List.length_nil] at y
    rw [show e - q = 3 by omega] at z
    simp only [eqR] at z
    have a0 : (110 : Int32).toInt = 110 := rfl; have a1 : (111 : Int32).toInt = 111 := rfl; have a2 : (116 : Int32).toInt = 116 := rfl; simp only [a0, a1, a2, Nat.add_assoc, Nat.reduceAdd, Nat.add_zero, and_true] at z ⊢
    omega
theorem X_w_play {b : Nat → Int32} {n : Nat} {h : HS} (hB : Xby b n h) {q e : Nat} (hq : q ≤ e) (he : e ≤ n) (hl : ∀ j, j < e - q → isLt (b (q + j)) = true) : f_X6_isWord 10 (nI q) (nI e) h = some (decide (wdM b (e - q) q 0 0 = 323728)) := by
  rw [X_isWord hB (k := 10) (by decide) (cs := [112, 108, 97, 121]) (by decide +kernel) (by decide) (fun i hi => by
    have : i = 0 ∨ i = 1 ∨ i = 2 ∨ i = 3 := by simp only [List.length_cons, List.length_nil] at hi; omega
    rcases this with e | e | e | e <;> subst e <;> decide +kernel) hq he]
  refine congrArg some ?_
  have hw := wd_word (b := b) (q := q) (d := e - q) (rs := [25, 1, 12, 16]) (W := 323728) hl (by decide) (by decide) (by decide)
  rw [Bool.eq_iff_iff, decide_eq_true_iff, hw, Bool.and_eq_true, decide_eq_true_iff]
  simp only [List.length_cons, List.length_nil, eqW, Bool.and_eq_true, decide_eq_true_eq, i32_eqZ]
  constructor
  · rintro ⟨z, y⟩
    rw [show e - q = 4 by omega]
    simp only [eqR]
    have a0 : (112 : Int32).toInt = 112 := rfl; have a1 : (108 : Int32).toInt = 108 := rfl; have a2 : (97 : Int32).toInt = 97 := rfl; have a3 : (121 : Int32).toInt = 121 := rfl; simp only [a0, a1, a2, a3, Nat.add_assoc, Nat.reduceAdd, Nat.add_zero, and_true] at y ⊢
    omega
  · intro z
    have y := eqR_len _ _ z
    simp only [List.length_cons, List.length_nil] at y
    rw [show e - q = 4 by omega] at z
    simp only [eqR] at z
    have a0 : (112 : Int32).toInt = 112 := rfl; have a1 : (108 : Int32).toInt = 108 := rfl; have a2 : (97 : Int32).toInt = 97 := rfl; have a3 : (121 : Int32).toInt = 121 := rfl; simp only [a0, a1, a2, a3, Nat.add_assoc, Nat.reduceAdd, Nat.add_zero, and_true] at z ⊢
    omega
theorem X_w_skill {b : Nat → Int32} {n : Nat} {h : HS} (hB : Xby b n h) {q e : Nat} (hq : q ≤ e) (he : e ≤ n) (hl : ∀ j, j < e - q → isLt (b (q + j)) = true) : f_X6_isWord 11 (nI q) (nI e) h = some (decide (wdM b (e - q) q 0 0 = 10320789)) := by
  rw [X_isWord hB (k := 11) (by decide) (cs := [115, 107, 105, 108, 108]) (by decide +kernel) (by decide) (fun i hi => by
    have : i = 0 ∨ i = 1 ∨ i = 2 ∨ i = 3 ∨ i = 4 := by simp only [List.length_cons, List.length_nil] at hi; omega
    rcases this with e | e | e | e | e <;> subst e <;> decide +kernel) hq he]
  refine congrArg some ?_
  have hw := wd_word (b := b) (q := q) (d := e - q) (rs := [12, 12, 9, 11, 19]) (W := 10320789) hl (by decide) (by decide) (by decide)
  rw [Bool.eq_iff_iff, decide_eq_true_iff, hw, Bool.and_eq_true, decide_eq_true_iff]
  simp only [List.length_cons, List.length_nil, eqW, Bool.and_eq_true, decide_eq_true_eq, i32_eqZ]
  constructor
  · rintro ⟨z, y⟩
    rw [show e - q = 5 by omega]
    simp only [eqR]
    have a0 : (115 : Int32).toInt = 115 := rfl; have a1 : (107 : Int32).toInt = 107 := rfl; have a2 : (105 : Int32).toInt = 105 := rfl; have a3 : (108 : Int32).toInt = 108 := rfl; have a4 : (108 : Int32).toInt = 108 := rfl; simp only [a0, a1, a2, a3, a4, Nat.add_assoc, Nat.reduceAdd, Nat.add_zero, and_true] at y ⊢
    omega
  · intro z
    have y := eqR_len _ _ z
    simp only [List.length_cons, List.length_nil] at y
    rw [show e - q = 5 by omega] at z
    simp only [eqR] at z
    have a0 : (115 : Int32).toInt = 115 := rfl; have a1 : (107 : Int32).toInt = 107 := rfl; have a2 : (105 : Int32).toInt = 105 := rfl; have a3 : (108 : Int32).toInt = 108 := rfl; have a4 : (108 : Int32).toInt = 108 := rfl; simp only [a0, a1, a2, a3, a4, Nat.add_assoc, Nat.reduceAdd, Nat.add_zero, and_true] at z ⊢
    omega
theorem X_w_leave {b : Nat → Int32} {n : Nat} {h : HS} (hB : Xby b n h) {q e : Nat} (hq : q ≤ e) (he : e ≤ n) (hl : ∀ j, j < e - q → isLt (b (q + j)) = true) : f_X6_isWord 12 (nI q) (nI e) h = some (decide (wdM b (e - q) q 0 0 = 6477035)) := by
  rw [X_isWord hB (k := 12) (by decide) (cs := [108, 101, 97, 118, 101]) (by decide +kernel) (by decide) (fun i hi => by
    have : i = 0 ∨ i = 1 ∨ i = 2 ∨ i = 3 ∨ i = 4 := by simp only [List.length_cons, List.length_nil] at hi; omega
    rcases this with e | e | e | e | e <;> subst e <;> decide +kernel) hq he]
  refine congrArg some ?_
  have hw := wd_word (b := b) (q := q) (d := e - q) (rs := [5, 22, 1, 5, 12]) (W := 6477035) hl (by decide) (by decide) (by decide)
  rw [Bool.eq_iff_iff, decide_eq_true_iff, hw, Bool.and_eq_true, decide_eq_true_iff]
  simp only [List.length_cons, List.length_nil, eqW, Bool.and_eq_true, decide_eq_true_eq, i32_eqZ]
  constructor
  · rintro ⟨z, y⟩
    rw [show e - q = 5 by omega]
    simp only [eqR]
    have a0 : (108 : Int32).toInt = 108 := rfl; have a1 : (101 : Int32).toInt = 101 := rfl; have a2 : (97 : Int32).toInt = 97 := rfl; have a3 : (118 : Int32).toInt = 118 := rfl; have a4 : (101 : Int32).toInt = 101 := rfl; simp only [a0, a1, a2, a3, a4, Nat.add_assoc, Nat.reduceAdd, Nat.add_zero, and_true] at y ⊢
    omega
  · intro z
    have y := eqR_len _ _ z
    simp only [List.length_cons, List.length_nil] at y
    rw [show e - q = 5 by omega] at z
    simp only [eqR] at z
    have a0 : (108 : Int32).toInt = 108 := rfl; have a1 : (101 : Int32).toInt = 101 := rfl; have a2 : (97 : Int32).toInt = 97 := rfl; have a3 : (118 : Int32).toInt = 118 := rfl; have a4 : (101 : Int32).toInt = 101 := rfl; simp only [a0, a1, a2, a3, a4, Nat.add_assoc, Nat.reduceAdd, Nat.add_zero, and_true] at z ⊢
    omega
theorem X_wordToken {b : Nat → Int32} {n : Nat} {h : HS} (hB : Xby b n h) {q e : Nat} (hq : q ≤ e) (he : e ≤ n) (hl : ∀ j, j < e - q → isLt (b (q + j)) = true) : f_X6_wordToken (nI q) (nI e) h = some (wcode (wdM b (e - q) q 0 0)) := by
  unfold f_X6_wordToken wcode
  rw [X_w_odds hB hq he hl, X_w_price hB hq he hl, X_w_bear hB hq he hl, X_w_seems hB hq he hl, X_w_won hB hq he hl, X_w_tries hB hq he hl, X_w_or hB hq he hl, X_w_and hB hq he hl, X_w_not hB hq he hl, X_w_play hB hq he hl, X_w_skill hB hq he hl, X_w_leave hB hq he hl]
  generalize wdM b (e - q) q 0 0 = w
  simp only [Option.bind_some, decide_eq_true_eq, apply_ite some]
