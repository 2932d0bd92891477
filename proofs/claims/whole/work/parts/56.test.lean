/-! ===== count; the tests ===== -/
theorem L_xcount {T : TB} {h : HS} (hT0 : Xtr T h) (hW : ∀ i, i < T.1 → T.2 3 i = 0 ∨ T.2 3 i = 1) : ∀ (d k f : Nat) (c : Int32), k + d = T.1 → d < f → l_X11_triesWon_4 h f c (nI k) = some (wonC T d k c) := by
  have t1 := hT0.1
  have t2 := hT0.2.1
  intro d
  induction d with
  | zero =>
    intro k f c hk hf
    obtain ⟨f, rfl⟩ : ∃ f', f = f' + 1 := ⟨f - 1, by omega⟩
    rw [l_X11_triesWon_4, t1, if_pos (nI_le (by omega) (by omega))]
    rfl
  | succ d ih =>
    intro k f c hk hf
    obtain ⟨f, rfl⟩ : ∃ f', f = f' + 1 := ⟨f - 1, by omega⟩
    have ht : f_X11_tryField (nI k) (3 : Int32) h = some (T.2 3 k) := tryField_eq hT0 (f := 3) (by omega) (by decide)
    rw [l_X11_triesWon_4, t1, if_neg (nI_ge (by omega) (by omega)), ht, Option.bind_some, nI_1]
    rcases hW k (by omega) with e | e
    · rw [e, if_neg (by decide), ih (k + 1) f _ (by omega) (by omega), wonC, e]
    · rw [e, if_pos rfl, ih (k + 1) f _ (by omega) (by omega), wonC, e]
def a_count (S H T : TB) (D n B : Nat) (r w : Int32) : Int32 := if w = 0 then nI S.1 else if w = 1 then nI H.1 else if w = 2 then nI T.1 else if w = 3 then nI D else if w = 4 then nI n else if w = 5 then nI B else if w = 6 then r else if w = 7 then wonC T T.1 0 0 else -2
theorem M_count {S H T : TB} {D n B : Nat} {r : Int32} {h : HS} (hS : Mst S h) (hH : Mha H h) (hT0 : Mtr T h) (hD : hI h 60 44 = nI D) (hn : hI h 60 3 = nI n) (hB : hI h 60 6 = nI B) (hr : hI h 60 4 = r) (w : Int32) : f_X12_count w h = some (a_count S H T D n B r w) := by
  have hs := hS.1
  have hh := hH.1
  have ht := hT0.1
  have h60 := hT0.2.1
  have hl : l_X12_count_85 h 1000 (0 : Int32) (0 : Int32) = some (wonC T T.1 0 0) := L_mcount hT0 T.1 0 1000 0 (by omega) (by omega)
  unfold f_X12_count a_count
  simp only [hs, hh, ht, hD, hn, hB, hr, hl, Option.bind_some]
  split; rfl
  split; rfl
  split; rfl
  split; rfl
  split; rfl
  split; rfl
  split; rfl
  split <;> rfl
theorem X_count {S H T : TB} {D n B : Nat} {r : Int32} {tg : Nat → Nat} {h : HS} {el : Nat → Nat} (hS : Xst S tg h) (hH : Xha H tg h) (hT0 : Xtr T h) (hW : ∀ i, i < T.1 → T.2 3 i = 0 ∨ T.2 3 i = 1) (hD : hI h 32 8 = nI D) (hl : XL tg h 35 3 n el) (hB : hI h 39 1 = nI B) (hr : hI h 32 3 = r) (w : Int32) : f_X11_count w h = some (a_count S H T D n B r w) := by
  obtain ⟨el1, hs, -⟩ := hS
  obtain ⟨-, el2, hh, -⟩ := hH
  have ht := hT0.1
  have h60 := hT0.2.1
  have hw : f_X11_triesWon h = some (wonC T T.1 0 0) := by
    unfold f_X11_triesWon
    have := L_xcount hT0 hW T.1 0 1000 0 (by omega) (by omega)
    rw [show (0 : Int32) = nI 0 from rfl]
    rw [show l_X11_triesWon_4 h 1000 (nI 0) (nI 0) = some (wonC T T.1 0 0) from this]
    rfl
  unfold f_X11_count a_count
  simp only [if_pos hs.1, hs.size, if_pos hh.1, hh.size, ht, hD, if_pos hl.1, hl.size, hB, hr, hw, Option.bind_some]
  split; rfl
  split; rfl
  split; rfl
  split; rfl
  split; rfl
  split; rfl
  split; rfl
  split <;> rfl
theorem nI_d10 {a : Nat} (h : a < 2 ^ 31) : nI a / (10 : Int32) = nI (a / 10) := by
  rw [i32_eqZ, i32_divZ (by decide), nI_Z h, nI_Z (by omega), show (10 : Int32).toInt = 10 from rfl, Int.tdiv_eq_ediv_of_nonneg (by omega)]
  omega
theorem nI_r10 {a : Nat} (h : a < 2 ^ 31) : nI a - nI a / (10 : Int32) * (10 : Int32) = nI (a % 10) := by
  rw [i32_eqZ, i32_remZ (q := 10) rfl (by decide), nI_Z h, nI_Z (by omega), Int.tmod_eq_emod_of_nonneg (by omega)]
  omega
theorem qd_eq {A d : Nat} (hA : A < 2 ^ 31) (hd : d < 2 ^ 31) : ((nI A).toInt64 / (nI d).toInt64).toInt32 = nI (A / d) := by
  have h1 : A / d ≤ A := Nat.div_le_self A d
  rw [i32_eqZ, Int64.toInt_toInt32, Int64.toInt_div, Int32.toInt_toInt64, Int32.toInt_toInt64, nI_Z hA, nI_Z hd, nI_Z (by omega), Int.tdiv_eq_ediv_of_nonneg (by omega), ← Int.natCast_ediv]
  generalize A / d = q at h1 ⊢
  have b1 : (q : Int).bmod (2 ^ 64) = q := Int.bmod_eq_of_le (by omega) (by omega)
  have b2 : (q : Int).bmod (2 ^ 32) = q := Int.bmod_eq_of_le (by omega) (by omega)
  rw [b1, b2]
theorem nz_case (s : Int32) (m : Nat) (hm : m < 2 ^ 31) : (∃ k, k ≤ m ∧ s = nI k ∧ inZ s.toInt 0 m = true) ∨ inZ s.toInt 0 m = false := by
  cases hz : inZ s.toInt 0 m with
  | false => exact Or.inr rfl
  | true =>
    obtain ⟨h1, h2⟩ := inZ_t.mp hz
    refine Or.inl ⟨s.toInt.toNat, by omega, ?_, rfl⟩
    rw [i32_eqZ, nI_Z (by omega)]
    omega
/-- the answer of the kind k -/
def p10 (k : Nat) : Nat := if k = 0 then 100000 else if k = 1 then 10000 else if k = 2 then 1000 else if k = 3 then 100 else if k = 4 then 10 else 1
def dgt (A k : Nat) : Nat := A / p10 k % 10
def okD (A : Nat) : Bool := decide (A % 10 ≤ 3) && decide (A / 10 % 10 ≤ 3) && decide (A / 100 % 10 ≤ 3) && decide (A / 1000 % 10 ≤ 3) && decide (A / 10000 % 10 ≤ 3) && decide (A / 100000 % 10 ≤ 3)
def okA (a : Int32) : Bool := inZ a.toInt 0 333333 && okD a.toNatClampNeg
theorem okD_k {A : Nat} (h : okD A = true) (k : Nat) : dgt A k ≤ 3 := by
  simp only [okD, Bool.and_eq_true, decide_eq_true_eq] at h
  obtain ⟨⟨⟨⟨⟨h0, h1⟩, h2⟩, h3⟩, h4⟩, h5⟩ := h
  unfold dgt p10
  split; exact h5
  split; exact h4
  split; exact h3
  split; exact h2
  split; exact h1
  rw [Nat.div_one]; exact h0
abbrev DT : Type := Nat × (Nat → Nat) × (Nat → Nat)
def Mte (D : DT) (h : HS) : Prop := hI h 60 44 = nI D.1 ∧ D.1 ≤ 6 ∧ ∀ i, i < D.1 → hI h 79 i = nI (D.2.1 i) ∧ ∀ k, k < 6 → hI h 80 (6 * i + k) = nI (dgt (D.2.2 i) k)
def Xte (D : DT) (h : HS) : Prop := hI h 32 8 = nI D.1 ∧ D.1 ≤ 6 ∧ ∀ i, i < D.1 → hI h 37 i = nI (D.2.1 i) ∧ hI h 38 i = nI (D.2.2 i)
def Wte (D : DT) : Prop := ∀ i, i < D.1 → (1 ≤ D.2.1 i ∧ D.2.1 i ≤ 20) ∧ D.2.2 i ≤ 333333 ∧ okD (D.2.2 i) = true
theorem Mte.fr {D : DT} {g : Nat} {h h' : HS} (hZ : Mte D h) (F : Fr g h h') (hg : g ≠ 4) : Mte D h' := by
  have f := F.2.2.2.2.2.1
  have q : ∀ a k, grp a k = 4 → hI h' a k = hI h a k := fun a k e => f a k (by rw [e]; exact fun z => hg z.symm) (by rw [e]; decide)
  refine ⟨by rw [q _ _ rfl]; exact hZ.1, hZ.2.1, fun i hi => ⟨?_, fun k hk => ?_⟩⟩
  · rw [q _ _ rfl]; exact (hZ.2.2 i hi).1
  · rw [q _ _ rfl]; exact (hZ.2.2 i hi).2 k hk
def dpush (D : DT) (H A : Nat) : DT := (D.1 + 1, fun i => if i = D.1 then H else D.2.1 i, fun i => if i = D.1 then A else D.2.2 i)
def g_test (D : DT) (hr a : Int32) : Int32 × DT := if inZ hr.toInt 1 20 = true then (if okA a = true then (if D.1 = 6 then (-4, D) else (nI D.1, dpush D hr.toNatClampNeg a.toNatClampNeg)) else (-2, D)) else (-2, D)
theorem n120 (n : Int32) : (∃ k, 1 ≤ k ∧ k ≤ 20 ∧ n = nI k ∧ inZ n.toInt 1 20 = true) ∨ inZ n.toInt 1 20 = false := by
  cases hz : inZ n.toInt 1 20 with
  | false => exact Or.inr rfl
  | true =>
    obtain ⟨h1, h2⟩ := inZ_t.mp hz
    refine Or.inl ⟨n.toInt.toNat, by omega, by omega, ?_, rfl⟩
    rw [i32_eqZ, nI_Z (by omega)]
    omega
theorem le3 {a : Nat} (h : a < 2 ^ 31) : nI a ≤ (3 : Int32) ↔ a ≤ 3 := by
  rw [i32_le0, nI_Z h, show (3 : Int32).toInt = 3 from rfl]; omega
theorem L_mdig {A : Nat} (hA : A ≤ 999999) (y1 y2 : Int32) (h : HS) : l_X12_test_32 y1 y2 h 1000 (nI A) (0 : Int32) = some (if okD A = true then Sum.inr () else Sum.inl (-2, h)) := by
  have d1 : A / 10 / 10 = A / 100 := by omega
  have d2 : A / 100 / 10 = A / 1000 := by omega
  have d3 : A / 1000 / 10 = A / 10000 := by omega
  have d4 : A / 10000 / 10 = A / 100000 := by omega
  have n1 : (0 : Int32) + 1 = 1 := rfl
  have n2 : (1 : Int32) + 1 = 2 := rfl
  have n3 : (2 : Int32) + 1 = 3 := rfl
  have n4 : (3 : Int32) + 1 = 4 := rfl
  have n5 : (4 : Int32) + 1 = 5 := rfl
  have n6 : (5 : Int32) + 1 = 6 := rfl
  rw [show (1000 : Nat) = 993 + 1 + 1 + 1 + 1 + 1 + 1 + 1 from rfl]
  unfold okD
  rw [l_X12_test_32, if_neg (by decide), nI_r10 (by omega), nI_d10 (by omega), n1]
  by_cases c0 : A % 10 ≤ 3
  · rw [if_pos ((le3 (by omega)).mpr c0), l_X12_test_32, if_neg (by decide), nI_r10 (by omega), nI_d10 (by omega), n2, d1]
    by_cases c1 : A / 10 % 10 ≤ 3
    · rw [if_pos ((le3 (by omega)).mpr c1), l_X12_test_32, if_neg (by decide), nI_r10 (by omega), nI_d10 (by omega), n3, d2]
      by_cases c2 : A / 100 % 10 ≤ 3
      · rw [if_pos ((le3 (by omega)).mpr c2), l_X12_test_32, if_neg (by decide), nI_r10 (by omega), nI_d10 (by omega), n4, d3]
        by_cases c3 : A / 1000 % 10 ≤ 3
        · rw [if_pos ((le3 (by omega)).mpr c3), l_X12_test_32, if_neg (by decide), nI_r10 (by omega), nI_d10 (by omega), n5, d4]
          by_cases c4 : A / 10000 % 10 ≤ 3
          · rw [if_pos ((le3 (by omega)).mpr c4), l_X12_test_32, if_neg (by decide), nI_r10 (by omega), nI_d10 (by omega), n6]
            by_cases c5 : A / 100000 % 10 ≤ 3
            · rw [if_pos ((le3 (by omega)).mpr c5), l_X12_test_32, if_pos (by decide)]
              simp [c0, c1, c2, c3, c4, c5]
            · rw [if_neg (fun z => c5 ((le3 (by omega)).mp z))]; simp [c5]
          · rw [if_neg (fun z => c4 ((le3 (by omega)).mp z))]; simp [c4]
        · rw [if_neg (fun z => c3 ((le3 (by omega)).mp z))]; simp [c3]
      · rw [if_neg (fun z => c2 ((le3 (by omega)).mp z))]; simp [c2]
    · rw [if_neg (fun z => c1 ((le3 (by omega)).mp z))]; simp [c1]
  · rw [if_neg (fun z => c0 ((le3 (by omega)).mp z))]; simp [c0]
theorem answerOf_nI {A k : Nat} (hA : A ≤ 999999) (hk : k < 6) : f_X11_answerOf (nI A) (nI k) = some (nI (dgt A k)) := by
  have hx := ixb_n (i := k) (n := 6) hk (by decide)
  have hc : (nI k).toNatClampNeg = k := nI_clamp (by omega)
  have hz : inZ (nI k).toInt (0 : Int32).toInt ((6 : Int32) - 1).toInt = true := by
    rw [inZ_t, nI_Z (by omega), z_0, show ((6 : Int32) - 1).toInt = 5 from by decide]; omega
  have hp : ansL.getD k 0 = nI (p10 k) ∧ p10 k < 2 ^ 31 ∧ ¬ (nI (p10 k)).toInt64 = (0 : Int64) := by
    rcases (show k = 0 ∨ k = 1 ∨ k = 2 ∨ k = 3 ∨ k = 4 ∨ k = 5 by omega) with e | e | e | e | e | e <;> subst e <;> exact ⟨rfl, by decide, by decide⟩
  obtain ⟨p1, p2, p3⟩ := hp
  have hdl : A / p10 k ≤ A := Nat.div_le_self A _
  unfold f_X11_answerOf f_X11_quotient
  rw [f_isIn_eq, hz, Option.bind_some, if_pos rfl, if_pos hx, hc, p1, if_neg p3, if_pos p3, Option.bind_some, qd_eq (by omega) p2, nI_r10 (by omega)]
  rfl
theorem areAns_eq (a : Int32) : f_X11_areAnswers a = some (okA a) := by
  unfold f_X11_areAnswers
  have e9 : (999999 : Int32).toInt = ((999999 : Nat) : Int) := rfl
  rw [f_isIn_eq, z_0, e9, Option.bind_some]
  rcases nz_case a 999999 (by decide) with ⟨A, hA, rfl, hz⟩ | hz
  · have hc : (nI A).toNatClampNeg = A := nI_clamp (by omega)
    rw [hz, if_pos rfl]
    have n1 : (0 : Int32) + 1 = 1 := rfl
    have n2 : (1 : Int32) + 1 = 2 := rfl
    have n3 : (2 : Int32) + 1 = 3 := rfl
    have n4 : (3 : Int32) + 1 = 4 := rfl
    have n5 : (4 : Int32) + 1 = 5 := rfl
    have n6 : (5 : Int32) + 1 = 6 := rfl
    have q0 : f_X11_answerOf (nI A) (0 : Int32) = some (nI (A / 100000 % 10)) := answerOf_nI hA (k := 0) (by decide)
    have q1 : f_X11_answerOf (nI A) (1 : Int32) = some (nI (A / 10000 % 10)) := answerOf_nI hA (k := 1) (by decide)
    have q2 : f_X11_answerOf (nI A) (2 : Int32) = some (nI (A / 1000 % 10)) := answerOf_nI hA (k := 2) (by decide)
    have q3 : f_X11_answerOf (nI A) (3 : Int32) = some (nI (A / 100 % 10)) := answerOf_nI hA (k := 3) (by decide)
    have q4 : f_X11_answerOf (nI A) (4 : Int32) = some (nI (A / 10 % 10)) := answerOf_nI hA (k := 4) (by decide)
    have q5 : f_X11_answerOf (nI A) (5 : Int32) = some (nI (A / 1 % 10)) := answerOf_nI hA (k := 5) (by decide)
    rw [Nat.div_one] at q5
    have hl : l_X11_areAnswers_15 (nI A) 1000 (0 : Int32) = some (if okD A = true then Sum.inr () else Sum.inl false) := by
      rw [show (1000 : Nat) = 993 + 1 + 1 + 1 + 1 + 1 + 1 + 1 from rfl]
      unfold okD
      rw [l_X11_areAnswers_15, if_neg (by decide), q0, Option.bind_some, n1]
      by_cases c5 : A / 100000 % 10 ≤ 3
      · rw [if_pos ((le3 (by omega)).mpr c5), l_X11_areAnswers_15, if_neg (by decide), q1, Option.bind_some, n2]
        by_cases c4 : A / 10000 % 10 ≤ 3
        · rw [if_pos ((le3 (by omega)).mpr c4), l_X11_areAnswers_15, if_neg (by decide), q2, Option.bind_some, n3]
          by_cases c3 : A / 1000 % 10 ≤ 3
          · rw [if_pos ((le3 (by omega)).mpr c3), l_X11_areAnswers_15, if_neg (by decide), q3, Option.bind_some, n4]
            by_cases c2 : A / 100 % 10 ≤ 3
            · rw [if_pos ((le3 (by omega)).mpr c2), l_X11_areAnswers_15, if_neg (by decide), q4, Option.bind_some, n5]
              by_cases c1 : A / 10 % 10 ≤ 3
              · rw [if_pos ((le3 (by omega)).mpr c1), l_X11_areAnswers_15, if_neg (by decide), q5, Option.bind_some, n6]
                by_cases c0 : A % 10 ≤ 3
                · rw [if_pos ((le3 (by omega)).mpr c0), l_X11_areAnswers_15, if_pos (by decide)]
                  simp [c0, c1, c2, c3, c4, c5]
                · rw [if_neg (fun z => c0 ((le3 (by omega)).mp z))]; simp [c0]
              · rw [if_neg (fun z => c1 ((le3 (by omega)).mp z))]; simp [c1]
            · rw [if_neg (fun z => c2 ((le3 (by omega)).mp z))]; simp [c2]
          · rw [if_neg (fun z => c3 ((le3 (by omega)).mp z))]; simp [c3]
        · rw [if_neg (fun z => c4 ((le3 (by omega)).mp z))]; simp [c4]
      · rw [if_neg (fun z => c5 ((le3 (by omega)).mp z))]; simp [c5]
    have hin : inZ (nI A).toInt 0 333333 = decide (A ≤ 333333) := by
      rw [Bool.eq_iff_iff, inZ_t, nI_Z (by omega), decide_eq_true_eq]; omega
    rw [hl, Option.bind_some]
    unfold okA
    rw [hc, hin]
    cases ok : okD A
    · simp
    · have : A ≤ 333333 := by
        simp only [okD, Bool.and_eq_true, decide_eq_true_eq] at ok
        omega
      simp [this]
  · have hz3 : inZ a.toInt 0 333333 = false := by
      rw [inZ_f] at hz ⊢; omega
    rw [hz]
    unfold okA
    rw [hz3]
    rfl
theorem M_test {D : DT} {h : HS} (hD : Mte D h) (hr a : Int32) : ∃ h', f_X12_test hr a h = some ((g_test D hr a).1, h') ∧ Mte (g_test D hr a).2 h' ∧ Fr 4 h h' := by
  have e1 : (1 : Int64).toInt = 1 := rfl
  have e20 : (20 : Int64).toInt = 20 := rfl
  have e0 : (0 : Int64).toInt = 0 := rfl
  have e3 : (333333 : Int64).toInt = ((333333 : Nat) : Int) := rfl
  have hD0 := hD
  obtain ⟨t1, t2, t3⟩ := hD
  rcases n120 hr with ⟨H, hH1, hH2, rfl, hz⟩ | hz
  · have hcH : (nI H).toNatClampNeg = H := nI_clamp (by omega)
    rcases nz_case a 333333 (by decide) with ⟨A, hA, rfl, hz2⟩ | hz2
    · have hc : (nI A).toNatClampNeg = A := nI_clamp (by omega)
      have hl := L_mdig (A := A) (by omega) (nI H) (nI A) h
      have hoA : okA (nI A) = okD A := by
        unfold okA
        rw [hc, show inZ (nI A).toInt 0 333333 = true from hz2, Bool.true_and]
      cases ok : okD A
      · refine ⟨h, ?_, by simp [g_test, hz, hoA, ok]; exact hD0, Fr.rf⟩
        unfold f_X12_test
        rw [f_in_eq, Int32.toInt_toInt64, e1, e20, hz, Option.bind_some, if_pos rfl, f_in_eq, Int32.toInt_toInt64, e0, e3, hz2, Option.bind_some, if_pos rfl, hl, ok]
        simp [g_test, hz, hoA, ok]
      · by_cases c6 : D.1 = 6
        · refine ⟨h, ?_, by simp [g_test, hz, hoA, ok, c6]; exact hD0, Fr.rf⟩
          unfold f_X12_test
          rw [f_in_eq, Int32.toInt_toInt64, e1, e20, hz, Option.bind_some, if_pos rfl, f_in_eq, Int32.toInt_toInt64, e0, e3, hz2, Option.bind_some, if_pos rfl, hl, ok, t1, c6]
          simp [g_test, hz, hoA, ok, c6, show nI 6 = (6 : Int32) from rfl]
        · have h6 : ¬ nI D.1 = (6 : Int32) := by rw [show (6 : Int32) = nI 6 from rfl, nI_eq (by omega) (by decide)]; exact c6
          have hx := ixb_n (i := D.1) (n := 6) (by omega) (by decide)
          have hcD : (nI D.1).toNatClampNeg = D.1 := nI_clamp (by omega)
          have d1 : A / 10 / 10 = A / 100 := by omega
          have d2 : A / 100 / 10 = A / 1000 := by omega
          have d3 : A / 1000 / 10 = A / 10000 := by omega
          have d4 : A / 10000 / 10 = A / 100000 := by omega
          have s1 : (5 : Int32) + -1 = 4 := rfl
          have s2 : (4 : Int32) + -1 = 3 := rfl
          have s3 : (3 : Int32) + -1 = 2 := rfl
          have s4 : (2 : Int32) + -1 = 1 := rfl
          have s5 : (1 : Int32) + -1 = 0 := rfl
          have s6 : (0 : Int32) + -1 = -1 := rfl
          have m6 : (6 : Int32) * nI D.1 = nI (6 * D.1) := pk_mul 6 D.1
          have ii : ∀ q, q < 6 → ixb (nI (6 * D.1 + q)) 36 = true ∧ (nI (6 * D.1 + q)).toNatClampNeg = 6 * D.1 + q := fun q hq => ⟨ixb_n (by omega) (by decide), nI_clamp (by omega)⟩
          have i5 : nI (6 * D.1) + (5 : Int32) = nI (6 * D.1 + 5) := nI_add _ 5
          have i4 : nI (6 * D.1) + (4 : Int32) = nI (6 * D.1 + 4) := nI_add _ 4
          have i3 : nI (6 * D.1) + (3 : Int32) = nI (6 * D.1 + 3) := nI_add _ 3
          have i2 : nI (6 * D.1) + (2 : Int32) = nI (6 * D.1 + 2) := nI_add _ 2
          have i1 : nI (6 * D.1) + (1 : Int32) = nI (6 * D.1 + 1) := nI_add _ 1
          have i0 : nI (6 * D.1) + (0 : Int32) = nI (6 * D.1 + 0) := nI_add _ 0
          have lw : ∀ g : HS, hI g 60 44 = nI D.1 → l_X12_test_88 1000 (nI A) (5 : Int32) g = some (sI (sI (sI (sI (sI (sI g 80 (6 * D.1 + 5) (nI (A % 10))) 80 (6 * D.1 + 4) (nI (A / 10 % 10))) 80 (6 * D.1 + 3) (nI (A / 100 % 10))) 80 (6 * D.1 + 2) (nI (A / 1000 % 10))) 80 (6 * D.1 + 1) (nI (A / 10000 % 10))) 80 (6 * D.1 + 0) (nI (A / 100000 % 10))) := by
            intro g hg
            have nx : ∀ (g : HS) (j : Nat) (v : Int32), hI (sI g 80 j v) 60 44 = hI g 60 44 := fun g j v => by simp (config := { decide := true }) only [hI_sI, if_false]
            show l_X12_test_88 (993 + 1 + 1 + 1 + 1 + 1 + 1 + 1) _ _ _ = _
            rw [l_X12_test_88, if_neg (by decide), hg, m6, i5, if_pos (ii 5 (by decide)).1, (ii 5 (by decide)).2, nI_r10 (by omega), nI_d10 (by omega), s1]
            rw [l_X12_test_88, if_neg (by decide), nx, hg, m6, i4, if_pos (ii 4 (by decide)).1, (ii 4 (by decide)).2, nI_r10 (by omega), nI_d10 (by omega), s2, d1]
            rw [l_X12_test_88, if_neg (by decide), nx, nx, hg, m6, i3, if_pos (ii 3 (by decide)).1, (ii 3 (by decide)).2, nI_r10 (by omega), nI_d10 (by omega), s3, d2]
            rw [l_X12_test_88, if_neg (by decide), nx, nx, nx, hg, m6, i2, if_pos (ii 2 (by decide)).1, (ii 2 (by decide)).2, nI_r10 (by omega), nI_d10 (by omega), s4, d3]
            rw [l_X12_test_88, if_neg (by decide), nx, nx, nx, nx, hg, m6, i1, if_pos (ii 1 (by decide)).1, (ii 1 (by decide)).2, nI_r10 (by omega), nI_d10 (by omega), s5, d4]
            rw [l_X12_test_88, if_neg (by decide), nx, nx, nx, nx, nx, hg, m6, i0, if_pos (ii 0 (by decide)).1, (ii 0 (by decide)).2, nI_r10 (by omega), nI_d10 (by omega), s6]
            rw [l_X12_test_88, if_pos (by decide)]
          have lw' := lw (sI h 79 D.1 (nI H)) (by simp (config := { decide := true }) only [hI_sI, if_false]; exact t1)
          refine ⟨sI (sI (sI (sI (sI (sI (sI (sI h 79 D.1 (nI H)) 80 (6 * D.1 + 5) (nI (A % 10))) 80 (6 * D.1 + 4) (nI (A / 10 % 10))) 80 (6 * D.1 + 3) (nI (A / 100 % 10))) 80 (6 * D.1 + 2) (nI (A / 1000 % 10))) 80 (6 * D.1 + 1) (nI (A / 10000 % 10))) 80 (6 * D.1 + 0) (nI (A / 100000 % 10))) 60 44 (nI (D.1 + 1)), ?_, ?_, by (repeat (first | exact Fr.rf | assumption | refine Fr.sI ?_ (by first | exact Or.inl rfl | exact Or.inr rfl) | refine Fr.sL ?_ (by first | exact Or.inl rfl | exact Or.inr rfl)))⟩
          · unfold f_X12_test
            rw [f_in_eq, Int32.toInt_toInt64, e1, e20, hz, Option.bind_some, if_pos rfl, f_in_eq, Int32.toInt_toInt64, e0, e3, hz2, Option.bind_some, if_pos rfl, hl, ok, t1]
            simp (config := { decide := true }) only [if_true, Option.bind_some, Sum.elim_inr, if_neg h6, hx, hcD, lw', hI_sI, hI_sL, hI_sR, hL_sI, hL_sL, hL_sR, hR_sI, hR_sL, hR_sR, hT_sI, hT_sL, hT_sR, hLn_sI, hLn_sL, hLn_sR, hN_sI, hN_sL, hN_sR, if_false, t1, nI_1, nI_pred, g_test, hz, hoA, ok, if_neg c6]
          · have hg : (g_test D (nI H) (nI A)).2 = dpush D H A := by simp [g_test, hz, hoA, ok, c6, hcH, hc]
            rw [hg]
            refine ⟨by simp (config := { decide := true }) only [hI_sI, if_true, if_false, dpush], by simp only [dpush]; omega, fun i hi => ?_⟩
            simp only [dpush] at hi
            by_cases e : i = D.1
            · subst e
              refine ⟨by simp (config := { decide := true }) only [hI_sI, if_true, if_false, dpush], fun k hk => ?_⟩
              simp only [dpush, if_true]
              rcases (show k = 0 ∨ k = 1 ∨ k = 2 ∨ k = 3 ∨ k = 4 ∨ k = 5 by omega) with e | e | e | e | e | e <;> subst e <;> simp [hI_sI, dgt, p10]
            · obtain ⟨u1, u2⟩ := t3 i (by omega)
              refine ⟨by simp (config := { decide := true }) only [hI_sI, if_true, if_false, dpush, if_neg e]; exact u1, fun k hk => ?_⟩
              simp (config := { decide := true }) only [dpush, if_neg e, hI_sI, if_true, if_false]
              rw [if_neg (by omega), if_neg (by omega), if_neg (by omega), if_neg (by omega), if_neg (by omega), if_neg (by omega)]
              exact u2 k hk
    · have hoA : okA a = false := by
        unfold okA
        rw [show inZ a.toInt 0 333333 = false from hz2, Bool.false_and]
      refine ⟨h, ?_, by simp [g_test, hz, hoA]; exact hD0, Fr.rf⟩
      unfold f_X12_test
      rw [f_in_eq, Int32.toInt_toInt64, e1, e20, hz, Option.bind_some, if_pos rfl, f_in_eq, Int32.toInt_toInt64, e0, e3, hz2]
      simp [g_test, hz, hoA]
  · refine ⟨h, ?_, by simp [g_test, hz]; exact hD0, Fr.rf⟩
    unfold f_X12_test
    rw [f_in_eq, Int32.toInt_toInt64, e1, e20, hz]
    simp [g_test, hz]
theorem X_test {D : DT} {tg : Nat → Nat} {h : HS} (hw : Wx tg h) (hD : Xte D h) (hr a : Int32) : ∃ h', f_X11_test hr a h = some ((g_test D hr a).1, h') ∧ Xte (g_test D hr a).2 h' ∧ Wx tg h' ∧ Fx (fun b => b = 32 ∨ b = 37 ∨ b = 38) h h' ∧ ∀ k, k ≠ 8 → hI h' 32 k = hI h 32 k := by
  have e1 : (1 : Int32).toInt = 1 := rfl
  have e20 : (20 : Int32).toInt = 20 := rfl
  have hD0 := hD
  obtain ⟨t1, t2, t3⟩ := hD
  rcases n120 hr with ⟨H, hH1, hH2, rfl, hz⟩ | hz
  · have hcH : (nI H).toNatClampNeg = H := nI_clamp (by omega)
    cases ok : okA a
    · refine ⟨h, ?_, by simp [g_test, hz, ok]; exact hD0, hw, Fx.rf, fun _ _ => rfl⟩
      unfold f_X11_test
      rw [f_isIn_eq, e1, e20, hz, Option.bind_some, if_pos rfl, areAns_eq, ok]
      simp [g_test, hz, ok]
    · obtain ⟨A, rfl, hA⟩ : ∃ A, a = nI A ∧ A ≤ 333333 := by
        have ok1 := ok
        unfold okA at ok1
        rw [Bool.and_eq_true] at ok1
        rcases nz_case a 333333 (by decide) with ⟨A, hA, e, -⟩ | hz2
        · exact ⟨A, e, hA⟩
        · rw [show inZ a.toInt 0 333333 = false from hz2] at ok1
          exact absurd ok1.1 (by decide)
      have hc : (nI A).toNatClampNeg = A := nI_clamp (by omega)
      have hlt : nI D.1 < (6 : Int32) ↔ D.1 < 6 := by
        rw [i32_lt0, nI_Z (by omega), show (6 : Int32).toInt = 6 from rfl]; omega
      by_cases c6 : D.1 = 6
      · refine ⟨h, ?_, by simp [g_test, hz, ok, c6]; exact hD0, hw, Fx.rf, fun _ _ => rfl⟩
        unfold f_X11_test
        rw [f_isIn_eq, e1, e20, hz, Option.bind_some, if_pos rfl, areAns_eq, ok, Option.bind_some, if_pos rfl, t1, if_neg (fun z => by have := hlt.mp z; omega)]
        simp [g_test, hz, ok, c6]
      · have hx := ixb_n (i := D.1) (n := 6) (by omega) (by decide)
        have hcD : (nI D.1).toNatClampNeg = D.1 := nI_clamp (by omega)
        have h6 : nI D.1 < (6 : Int32) := hlt.mpr (by omega)
        have hg : g_test D (nI H) (nI A) = (nI D.1, dpush D H A) := by simp [g_test, hz, ok, c6, hcH, hc]
        rw [hg]
        refine ⟨sI (sI (sI h 37 D.1 (nI H)) 38 D.1 (nI A)) 32 8 (nI (D.1 + 1)), ?_, ?_, hw.sI.sI.sI, Fx.sI (Fx.sI (Fx.sI Fx.rf (Or.inl (Or.inr (Or.inl rfl)))) (Or.inl (Or.inr (Or.inr rfl)))) (Or.inl (Or.inl rfl)), fun k hk => by simp (config := { decide := true }) only [hI_sI, if_true, if_false, if_neg hk]⟩
        · unfold f_X11_test
          rw [f_isIn_eq, e1, e20, hz, Option.bind_some, if_pos rfl, areAns_eq, ok, Option.bind_some, if_pos rfl, t1, if_pos h6]
          simp (config := { decide := true }) only [if_true, hx, hcD, hI_sI, hI_sL, hI_sR, hL_sI, hL_sL, hL_sR, hR_sI, hR_sL, hR_sR, hT_sI, hT_sL, hT_sR, hLn_sI, hLn_sL, hLn_sR, hN_sI, hN_sL, hN_sR, if_false, t1, nI_1, nI_pred, bh_eq]
        · refine ⟨by simp (config := { decide := true }) only [hI_sI, if_true, if_false, dpush], by simp only [dpush]; omega, fun i hi => ?_⟩
          simp only [dpush] at hi
          by_cases e : i = D.1
          · subst e
            constructor <;> simp (config := { decide := true }) only [hI_sI, if_true, if_false, dpush]
          · obtain ⟨u1, u2⟩ := t3 i (by omega)
            simp (config := { decide := true }) only [hI_sI, if_true, if_false, dpush, if_neg e]
            exact ⟨u1, u2⟩
  · refine ⟨h, ?_, by simp [g_test, hz]; exact hD0, hw, Fx.rf, fun _ _ => rfl⟩
    unfold f_X11_test
    rw [f_isIn_eq, e1, e20, hz]
    simp [g_test, hz]
