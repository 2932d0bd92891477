/-! ===== texts: the class reads by the grammar, whole ===== -/
section
variable {b : Nat → Int32} {n e : Nat}
theorem L_xcmp {f o : Nat} (he : tkc b n e = 10300) (hrec : ∀ i cs h, XP b n e i cs h → Xres b n e cs h (r_X6 f 3 (nI o) h) (apC (tkc b n) f 3 o i)) (hl : PL e (apC (tkc b n) f 3 o)) {i : Nat} {c0 : List Int32} {h : HS} (hp : XP b n e i c0 h) : Xres b n e c0 h (Option.bind (r_X6 f 3 (nI o) h) (fun q2 => (Option.bind (f_X6_token q2) (fun q6 => (Option.bind (f_X6_takes (10060 : Int32) q2) (fun q8 => (if q8.1 = true then (Option.bind (r_X6 f 3 (nI o) q8.2) (fun q13 => (Option.bind (f_X6_write q6 q13) (fun q17 => (some q17))))) else (Option.bind (f_X6_takes (10061 : Int32) q8.2) (fun q21 => (if q21.1 = true then (Option.bind (r_X6 f 3 (nI o) q21.2) (fun q26 => (Option.bind (f_X6_write q6 q26) (fun q30 => (some q30))))) else (some q21.2)))))))))) ) (pbn (apC (tkc b n) f 3 o i) (fun i' c => if opCmp (tkc b n i') = true then pbn (apC (tkc b n) f 3 o (i' + 1)) (fun i2 c2 => .inr (i2, c ++ c2 ++ [tkc b n i'])) else .inr (i', c))) := by
  have hr := hrec i c0 h hp
  cases hq : apC (tkc b n) f 3 o i with
  | inl j =>
    rw [hq] at hr
    obtain ⟨h2', r1, r2, r3⟩ := hr
    obtain ⟨u, hu⟩ := X_token_any h2'
    rw [r1, Option.bind_some, hu, Option.bind_some, pbn_l, XF_takes r2, Option.bind_some, if_neg Bool.false_ne_true, XF_takes r2, Option.bind_some, if_neg Bool.false_ne_true]
    exact ⟨h2', rfl, r2, r3⟩
  | inr q =>
    obtain ⟨i1, c1⟩ := q
    rw [hq] at hr
    obtain ⟨h1, r1, r2, r3⟩ := hr
    obtain ⟨l1, l2, l3⟩ := hl _ _ _ hq hp.2.2.2.2.2.2.1
    have l8 := hp.2.2.2.2.2.2.2.1
    have r2 : XP b n e i1 (c0 ++ c1) h1 := r2
    have go : ∀ h1' t, tkc b n i1 = t → (t = 10060 ∨ t = 10061) → XP b n e (i1 + 1) (c0 ++ c1) h1' → Fq A7 h1 h1' → Xres b n e c0 h (Option.bind (r_X6 f 3 (nI o) h1') (fun q13 => (Option.bind (f_X6_write (tkc b n i1) q13) (fun q17 => (some q17))))) (pbn (apC (tkc b n) f 3 o (i1 + 1)) (fun i2 c2 => .inr (i2, c1 ++ c2 ++ [tkc b n i1]))) := by
      intro h1' t c ht s2 s3
      have hlt := lt_e he l3 (fun z => by rw [c] at z; rcases ht with y | y <;> subst y <;> exact absurd z (by decide))
      have hr := hrec (i1 + 1) (c0 ++ c1) h1' s2
      cases hq : apC (tkc b n) f 3 o (i1 + 1) with
      | inl j =>
        rw [hq] at hr
        obtain ⟨h2', u1, u2, u3⟩ := hr
        obtain ⟨h3', w1, w2, w3⟩ := u2.wr (tkc b n i1)
        rw [u1, Option.bind_some, w1, Option.bind_some, pbn_l]
        exact ⟨h3', rfl, w2, r3.tr (s3.tr (u3.tr w3))⟩
      | inr q =>
        obtain ⟨i2, c2⟩ := q
        rw [hq] at hr
        obtain ⟨h2', u1, u2, u3⟩ := hr
        obtain ⟨k1, k2, k3⟩ := hl _ _ _ hq (by omega)
        obtain ⟨h3', w1, w2, w3⟩ := XP_write u2 (tkc b n i1) (by simp only [List.length_append] at *; omega)
        have ea : c0 ++ (c1 ++ c2 ++ [tkc b n i1]) = c0 ++ c1 ++ c2 ++ [tkc b n i1] := by simp only [List.append_assoc]
        rw [u1, Option.bind_some, w1, Option.bind_some, pbn_r]
        refine ⟨h3', rfl, ?_, r3.tr (s3.tr (u3.tr w3))⟩
        show XP b n e i2 (c0 ++ (c1 ++ c2 ++ [tkc b n i1])) h3'
        rw [ea]; exact w2
    rw [r1, Option.bind_some, XP_token r2, Option.bind_some, pbn_r]
    by_cases c : tkc b n i1 = 10060
    · obtain ⟨h1', s1, s2, s3⟩ := XP_takes_y r2 c (by decide) he
      rw [s1, Option.bind_some, if_pos rfl, if_pos (show opCmp (tkc b n i1) = true by rw [c]; rfl)]
      exact go h1' _ c (Or.inl rfl) s2 s3
    · rw [XP_takes_n r2 c, Option.bind_some, if_neg Bool.false_ne_true]
      by_cases c2 : tkc b n i1 = 10061
      · obtain ⟨h1', s1, s2, s3⟩ := XP_takes_y r2 c2 (by decide) he
        rw [s1, Option.bind_some, if_pos rfl, if_pos (show opCmp (tkc b n i1) = true by rw [c2]; rfl)]
        exact go h1' _ c2 (Or.inr rfl) s2 s3
      · rw [XP_takes_n r2 c2, Option.bind_some, if_neg Bool.false_ne_true, if_neg (by simp [opCmp, c, c2])]
        exact ⟨h1, rfl, r2, r3⟩
theorem X_isValue (c : Int32) : f_X6_isValue c = some (isVl c) := by
  unfold f_X6_isValue isVl
  by_cases h1 : c < 10000
  · rw [if_pos h1, if_pos h1]
  · rw [if_neg h1, if_neg h1]
    by_cases h2 : c < 10200
    · rw [if_pos h2, if_pos h2]
    · rw [if_neg h2, if_neg h2]
      by_cases h3 : (10206 : Int32) ≤ c
      · rw [if_pos h3, if_pos h3]
      · rw [if_neg h3, if_neg h3]
/-- what one reads, where no value stands -/
theorem L_xone {f o : Nat} (hn : n ≤ 160) (he : tkc b n e = 10300) (ho : o ≤ 5) (hrec : o < 5 → ∀ m i cs h, m ≤ 5 → XP b n e i cs h → Xres b n e cs h (r_X6 f m (nI (o + 1)) h) (apC (tkc b n) f m (o + 1) i)) (hl : ∀ m, m ≤ 5 → PL e (apC (tkc b n) f m (o + 1))) {i : Nat} {c0 : List Int32} {h : HS} (hp : XP b n e i c0 h) : Xres b n e c0 h (if (5 : Int32) ≤ nI o then (if (5 : Int32) ≤ nI o then (Option.bind (f_X6_refuse h) (fun q8 => (some q8))) else (Option.bind (f_X6_takes (10040 : Int32) h) (fun q12 => (if q12.1 = true then (Option.bind (r_X6 f 0 (nI o + (1 : Int32)) q12.2) (fun q21 => (Option.bind (f_X6_ask (10041 : Int32) q21) (fun q25 => (some q25))))) else (Option.bind (f_X6_refuse q12.2) (fun q17 => (some q17))))))) else (Option.bind (f_X6_takes (10045 : Int32) h) (fun q29 => (if q29.1 = true then (Option.bind (r_X6 f 5 (nI o + (1 : Int32)) q29.2) (fun q56 => (Option.bind (f_X6_write (10001 : Int32) q56) (fun q60 => (some q60))))) else (if (5 : Int32) ≤ nI o then (Option.bind (f_X6_refuse q29.2) (fun q35 => (some q35))) else (Option.bind (f_X6_takes (10040 : Int32) q29.2) (fun q39 => (if q39.1 = true then (Option.bind (r_X6 f 0 (nI o + (1 : Int32)) q39.2) (fun q48 => (Option.bind (f_X6_ask (10041 : Int32) q48) (fun q52 => (some q52))))) else (Option.bind (f_X6_refuse q39.2) (fun q44 => (some q44))))))))))) (if o < 5 ∧ tkc b n i = 10045 then pbn (apC (tkc b n) f 5 (o + 1) (i + 1)) (fun i' c => .inr (i', c ++ [10001])) else if o < 5 ∧ tkc b n i = 10040 then pbn (apC (tkc b n) f 0 (o + 1) (i + 1)) (fun i' c => if tkc b n i' = 10041 then .inr (i' + 1, c) else .inl i') else .inl i) := by
  have l8 := hp.2.2.2.2.2.2.2.1
  have l7 := hp.2.2.2.2.2.2.1
  by_cases o5 : o = 5
  · have c5 : (5 : Int32) ≤ nI o := by rw [o5]; decide
    obtain ⟨h', s1, s2, s3⟩ := XP_refuse hp hn
    rw [if_pos c5, if_pos c5, s1, Option.bind_some, if_neg (fun z => by omega), if_neg (fun z => by omega)]
    exact ⟨h', rfl, s2, s3⟩
  · have c5 : ¬ (5 : Int32) ≤ nI o := by rw [show (5 : Int32) = nI 5 from rfl]; exact nI_ge (by omega) (by decide)
    have o5 : o < 5 := by omega
    rw [if_neg c5, nI_1]
    by_cases c1 : tkc b n i = 10045
    · have hlt := lt_e he l7 (fun z => by rw [c1] at z; exact absurd z (by decide))
      obtain ⟨h1, s1, s2, s3⟩ := XP_takes_y hp c1 (by decide) he
      have hr := hrec o5 5 (i + 1) c0 h1 (by omega) s2
      rw [s1, Option.bind_some, if_pos rfl, if_pos ⟨o5, c1⟩]
      cases hq : apC (tkc b n) f 5 (o + 1) (i + 1) with
      | inl j =>
        rw [hq] at hr
        obtain ⟨h2, r1, r2, r3⟩ := hr
        obtain ⟨h3, w1, w2, w3⟩ := r2.wr 10001
        rw [r1, Option.bind_some, w1, Option.bind_some, pbn_l]
        exact ⟨h3, rfl, w2, s3.tr (r3.tr w3)⟩
      | inr q =>
        obtain ⟨i1, cc⟩ := q
        rw [hq] at hr
        obtain ⟨h2, r1, r2, r3⟩ := hr
        obtain ⟨k1, k2, k3⟩ := hl 5 (by omega) _ _ _ hq (by omega)
        obtain ⟨h3, w1, w2, w3⟩ := XP_write r2 10001 (by simp only [List.length_append] at *; omega)
        rw [r1, Option.bind_some, w1, Option.bind_some, pbn_r]
        refine ⟨h3, rfl, ?_, s3.tr (r3.tr w3)⟩
        show XP b n e i1 (c0 ++ (cc ++ [10001])) h3
        rw [← List.append_assoc]; exact w2
    · rw [XP_takes_n hp c1, Option.bind_some, if_neg Bool.false_ne_true, if_neg c5, if_neg (show ¬ (o < 5 ∧ tkc b n i = 10045) from fun z => c1 z.2)]
      by_cases c2 : tkc b n i = 10040
      · have hlt := lt_e he l7 (fun z => by rw [c2] at z; exact absurd z (by decide))
        obtain ⟨h1, s1, s2, s3⟩ := XP_takes_y hp c2 (by decide) he
        have hr := hrec o5 0 (i + 1) c0 h1 (by omega) s2
        rw [s1, Option.bind_some, if_pos rfl, if_pos ⟨o5, c2⟩]
        cases hq : apC (tkc b n) f 0 (o + 1) (i + 1) with
        | inl j =>
          rw [hq] at hr
          obtain ⟨h2, r1, r2, r3⟩ := hr
          rw [r1, Option.bind_some, XF_ask r2, Option.bind_some, pbn_l]
          exact ⟨h2, rfl, r2, s3.tr r3⟩
        | inr q =>
          obtain ⟨i1, cc⟩ := q
          rw [hq] at hr
          obtain ⟨h2, r1, r2, r3⟩ := hr
          have r2 : XP b n e i1 (c0 ++ cc) h2 := r2
          rw [r1, Option.bind_some, pbn_r]
          unfold f_X6_ask
          by_cases c3 : tkc b n i1 = 10041
          · obtain ⟨h3, t1, t2, t3⟩ := XP_takes_y r2 c3 (by decide) he
            rw [t1, Option.bind_some, if_pos rfl, Option.bind_some, if_pos c3]
            exact ⟨h3, rfl, t2, s3.tr (r3.tr t3)⟩
          · obtain ⟨h3, t1, t2, t3⟩ := XP_refuse r2 hn
            rw [XP_takes_n r2 c3, Option.bind_some, if_neg Bool.false_ne_true, t1, Option.bind_some, Option.bind_some, if_neg c3]
            exact ⟨h3, rfl, t2, s3.tr (r3.tr t3)⟩
      · obtain ⟨h', s1, s2, s3⟩ := XP_refuse hp hn
        rw [XP_takes_n hp c2, Option.bind_some, if_neg Bool.false_ne_true, s1, Option.bind_some, if_neg (show ¬ (o < 5 ∧ tkc b n i = 10040) from fun z => c2 z.2)]
        exact ⟨h', rfl, s2, s3⟩
theorem X_ap (hn : n ≤ 160) (he : tkc b n e = 10300) : ∀ (f m o i : Nat) (c0 : List Int32) (h : HS), m ≤ 5 → o ≤ 5 → 6 * (5 - o) + (6 - m) ≤ f → XP b n e i c0 h → Xres b n e c0 h (r_X6 f m (nI o) h) (apC (tkc b n) f m o i) := by
  intro f
  induction f with
  | zero => intro m o i c0 h h1 h2 h3; omega
  | succ f ih =>
    intro m o i c0 h hm ho hf hp
    have hm6 : m = 0 ∨ m = 1 ∨ m = 2 ∨ m = 3 ∨ m = 4 ∨ m = 5 := by omega
    have l8 := hp.2.2.2.2.2.2.2.1
    have l7 := hp.2.2.2.2.2.2.1
    rcases hm6 with e0 | e0 | e0 | e0 | e0 | e0 <;> subst e0
    · rw [apC_0]
      have er : r_X6 (f + 1) 0 (nI o) h = g_X6_readAny (r_X6 f) (nI o) h := by rw [r_X6, if_pos rfl]
      have hr := ih 1 o i c0 h (by omega) ho (by omega) hp
      rw [er]
      unfold g_X6_readAny
      cases hq : apC (tkc b n) f 1 o i with
      | inl j =>
        rw [hq] at hr
        obtain ⟨h2', r1, r2, r3⟩ := hr
        rw [r1, Option.bind_some, pbn_l, XF_readAny r2 (by decide)]
        exact ⟨h2', rfl, r2, r3⟩
      | inr q =>
        obtain ⟨i1, c1⟩ := q
        rw [hq] at hr
        obtain ⟨h1, r1, r2, r3⟩ := hr
        have hL := L_xreadAny he (fun i cs h a => ih 1 o i cs h (by omega) ho (by omega) a) (apC_len he f 1 o (by omega)) c0 160 0 i1 c1 h1 1000 (by omega) (by omega) r2
        rw [r1, Option.bind_some, pbn_r]
        refine Xres.tr r3 ?_
        have hL' : Xres b n e c0 h1 (l_X6_readAny_7 (r_X6 f) (nI o) 1000 (0 : Int32) h1) (lpC (apC (tkc b n) f 1 o) opOr (tkc b n) 160 i1 c1) := hL
        rw [show (Option.bind (l_X6_readAny_7 (r_X6 f) (nI o) 1000 (0 : Int32) h1) fun q33 => some q33) = l_X6_readAny_7 (r_X6 f) (nI o) 1000 (0 : Int32) h1 from by cases l_X6_readAny_7 (r_X6 f) (nI o) 1000 (0 : Int32) h1 <;> rfl]
        exact hL'
    · rw [apC_1]
      have er : r_X6 (f + 1) 1 (nI o) h = g_X6_readEach (r_X6 f) (nI o) h := by rw [r_X6, if_neg (by decide), if_pos rfl]
      have hr := ih 2 o i c0 h (by omega) ho (by omega) hp
      rw [er]
      unfold g_X6_readEach
      cases hq : apC (tkc b n) f 2 o i with
      | inl j =>
        rw [hq] at hr
        obtain ⟨h2', r1, r2, r3⟩ := hr
        rw [r1, Option.bind_some, pbn_l, XF_readEach r2 (by decide)]
        exact ⟨h2', rfl, r2, r3⟩
      | inr q =>
        obtain ⟨i1, c1⟩ := q
        rw [hq] at hr
        obtain ⟨h1, r1, r2, r3⟩ := hr
        have hL := L_xreadEach he (fun i cs h a => ih 2 o i cs h (by omega) ho (by omega) a) (apC_len he f 2 o (by omega)) c0 160 0 i1 c1 h1 1000 (by omega) (by omega) r2
        rw [r1, Option.bind_some, pbn_r]
        refine Xres.tr r3 ?_
        have hL' : Xres b n e c0 h1 (l_X6_readEach_7 (r_X6 f) (nI o) 1000 (0 : Int32) h1) (lpC (apC (tkc b n) f 2 o) opAnd (tkc b n) 160 i1 c1) := hL
        rw [show (Option.bind (l_X6_readEach_7 (r_X6 f) (nI o) 1000 (0 : Int32) h1) fun q33 => some q33) = l_X6_readEach_7 (r_X6 f) (nI o) 1000 (0 : Int32) h1 from by cases l_X6_readEach_7 (r_X6 f) (nI o) 1000 (0 : Int32) h1 <;> rfl]
        exact hL'
    · have er : r_X6 (f + 1) 2 (nI o) h = g_X6_readNot (r_X6 f) (nI o) h := by rw [r_X6, if_neg (by decide), if_neg (by decide), if_pos rfl]
      have hc := L_xcmp he (fun i cs h a => ih 3 o i cs h (by omega) ho (by omega) a) (apC_len he f 3 o (by omega)) hp
      rw [er, apC_2]
      unfold g_X6_readNot
      by_cases o5 : o = 5
      · rw [if_pos (show (5 : Int32) ≤ nI o by rw [o5]; decide), if_neg (show ¬ (o < 5 ∧ tkc b n i = 10212) from fun z => by omega)]
        exact hc
      · have o5 : o < 5 := by omega
        rw [if_neg (by rw [show (5 : Int32) = nI 5 from rfl]; exact nI_ge (by omega) (by decide))]
        by_cases c : tkc b n i = 10212
        · have hlt := lt_e he l7 (fun z => by rw [c] at z; exact absurd z (by decide))
          obtain ⟨h1, s1, s2, s3⟩ := XP_takes_y hp c (by decide) he
          have hr := ih 2 (o + 1) (i + 1) c0 h1 (by omega) (by omega) (by omega) s2
          rw [s1, Option.bind_some, if_pos rfl, if_pos ⟨o5, c⟩, nI_1]
          cases hq : apC (tkc b n) f 2 (o + 1) (i + 1) with
          | inl j =>
            rw [hq] at hr
            obtain ⟨h2, r1, r2, r3⟩ := hr
            obtain ⟨h3, w1, w2, w3⟩ := r2.wr 10212
            rw [r1, Option.bind_some, w1, Option.bind_some, pbn_l]
            exact ⟨h3, rfl, w2, s3.tr (r3.tr w3)⟩
          | inr q =>
            obtain ⟨i1, cc⟩ := q
            rw [hq] at hr
            obtain ⟨h2, r1, r2, r3⟩ := hr
            obtain ⟨k1, k2, k3⟩ := apC_len he f 2 (o + 1) (by omega) _ _ _ hq (by omega)
            obtain ⟨h3, w1, w2, w3⟩ := XP_write r2 10212 (by simp only [List.length_append] at *; omega)
            rw [r1, Option.bind_some, w1, Option.bind_some, pbn_r]
            refine ⟨h3, rfl, ?_, s3.tr (r3.tr w3)⟩
            show XP b n e i1 (c0 ++ (cc ++ [10212])) h3
            rw [← List.append_assoc]; exact w2
        · rw [XP_takes_n hp c, Option.bind_some, if_neg Bool.false_ne_true, if_neg (show ¬ (o < 5 ∧ tkc b n i = 10212) from fun z => c z.2)]
          exact hc
    · rw [apC_3]
      have er : r_X6 (f + 1) 3 (nI o) h = g_X6_readSum (r_X6 f) (nI o) h := by rw [r_X6, if_neg (by decide), if_neg (by decide), if_neg (by decide), if_pos rfl]
      have hr := ih 4 o i c0 h (by omega) ho (by omega) hp
      rw [er]
      unfold g_X6_readSum
      cases hq : apC (tkc b n) f 4 o i with
      | inl j =>
        rw [hq] at hr
        obtain ⟨h2', r1, r2, r3⟩ := hr
        obtain ⟨u, hu⟩ := X_token_any h2'
        rw [r1, Option.bind_some, hu, Option.bind_some, pbn_l, XF_readSum r2 (by decide)]
        exact ⟨h2', rfl, r2, r3⟩
      | inr q =>
        obtain ⟨i1, c1⟩ := q
        rw [hq] at hr
        obtain ⟨h1, r1, r2, r3⟩ := hr
        have hL := L_xreadSum he (fun i cs h a => ih 4 o i cs h (by omega) ho (by omega) a) (apC_len he f 4 o (by omega)) c0 160 0 i1 c1 h1 1000 (by omega) (by omega) r2
        have r2 : XP b n e i1 (c0 ++ c1) h1 := r2
        rw [r1, Option.bind_some, XP_token r2, Option.bind_some, pbn_r]
        refine Xres.tr r3 ?_
        have hL' : Xres b n e c0 h1 (l_X6_readSum_12 (r_X6 f) (nI o) 1000 (tkc b n i1) (0 : Int32) h1) (lpC (apC (tkc b n) f 4 o) opSum (tkc b n) 160 i1 c1) := hL
        rw [show (Option.bind (l_X6_readSum_12 (r_X6 f) (nI o) 1000 (tkc b n i1) (0 : Int32) h1) fun q33 => some q33) = l_X6_readSum_12 (r_X6 f) (nI o) 1000 (tkc b n i1) (0 : Int32) h1 from by cases l_X6_readSum_12 (r_X6 f) (nI o) 1000 (tkc b n i1) (0 : Int32) h1 <;> rfl]
        exact hL'
    · rw [apC_4]
      have er : r_X6 (f + 1) 4 (nI o) h = g_X6_readTerm (r_X6 f) (nI o) h := by rw [r_X6, if_neg (by decide), if_neg (by decide), if_neg (by decide), if_neg (by decide), if_pos rfl]
      have hr := ih 5 o i c0 h (by omega) ho (by omega) hp
      rw [er]
      unfold g_X6_readTerm
      cases hq : apC (tkc b n) f 5 o i with
      | inl j =>
        rw [hq] at hr
        obtain ⟨h2', r1, r2, r3⟩ := hr
        rw [r1, Option.bind_some, pbn_l, XF_readTerm r2 (by decide)]
        exact ⟨h2', rfl, r2, r3⟩
      | inr q =>
        obtain ⟨i1, c1⟩ := q
        rw [hq] at hr
        obtain ⟨h1, r1, r2, r3⟩ := hr
        have hL := L_xreadTerm he (fun i cs h a => ih 5 o i cs h (by omega) ho (by omega) a) (apC_len he f 5 o (by omega)) c0 160 0 i1 c1 h1 1000 (by omega) (by omega) r2
        rw [r1, Option.bind_some, pbn_r]
        refine Xres.tr r3 ?_
        have hL' : Xres b n e c0 h1 (l_X6_readTerm_7 (r_X6 f) (nI o) 1000 (0 : Int32) h1) (lpC (apC (tkc b n) f 5 o) opMul (tkc b n) 160 i1 c1) := hL
        rw [show (Option.bind (l_X6_readTerm_7 (r_X6 f) (nI o) 1000 (0 : Int32) h1) fun q33 => some q33) = l_X6_readTerm_7 (r_X6 f) (nI o) 1000 (0 : Int32) h1 from by cases l_X6_readTerm_7 (r_X6 f) (nI o) 1000 (0 : Int32) h1 <;> rfl]
        exact hL'
    · have er : r_X6 (f + 1) 5 (nI o) h = g_X6_readOne (r_X6 f) (nI o) h := by rw [r_X6, if_neg (by decide), if_neg (by decide), if_neg (by decide), if_neg (by decide), if_neg (by decide), if_pos rfl]
      rw [er, apC_5]
      unfold g_X6_readOne
      rw [XP_token hp, Option.bind_some, X_isValue, Option.bind_some]
      by_cases cv : isVl (tkc b n i) = true
      · obtain ⟨n1, n2, n3, n4, n5⟩ := vl_ne cv
        obtain ⟨h1, s1, s2, s3⟩ := XP_takes_y hp rfl n4 he
        obtain ⟨h3, w1, w2, w3⟩ := XP_write s2 (tkc b n i) (by omega)
        rw [if_pos cv, if_pos cv, s1, Option.bind_some, if_pos rfl, w1, Option.bind_some]
        exact ⟨h3, rfl, w2, s3.tr w3⟩
      · rw [if_neg cv, if_neg cv]
        exact L_xone hn he ho (fun o5 m i cs h hm a => ih m (o + 1) i cs h hm (by omega) (by omega) a) (fun m hm => apC_len he f m (o + 1) hm) hp
/-- what is failed stays so -/
theorem XF_ap : ∀ (f m : Nat) (o : Nat) (h : HS) (p : Nat), m ≤ 5 → o ≤ 5 → 6 - m ≤ f → XF p h → r_X6 f m (nI o) h = some h := by
  intro f
  induction f with
  | zero => intro m o h p h1 h2 h3; omega
  | succ f ih =>
    intro m o h p hm ho hf hp
    have hm6 : m = 0 ∨ m = 1 ∨ m = 2 ∨ m = 3 ∨ m = 4 ∨ m = 5 := by omega
    obtain ⟨u, hu⟩ := X_token_any h
    rcases hm6 with e0 | e0 | e0 | e0 | e0 | e0 <;> subst e0
    · have er : r_X6 (f + 1) 0 (nI o) h = g_X6_readAny (r_X6 f) (nI o) h := by rw [r_X6, if_pos rfl]
      rw [er]; unfold g_X6_readAny
      rw [ih 1 o h p (by omega) ho (by omega) hp, Option.bind_some, XF_readAny hp (by decide)]; rfl
    · have er : r_X6 (f + 1) 1 (nI o) h = g_X6_readEach (r_X6 f) (nI o) h := by rw [r_X6, if_neg (by decide), if_pos rfl]
      rw [er]; unfold g_X6_readEach
      rw [ih 2 o h p (by omega) ho (by omega) hp, Option.bind_some, XF_readEach hp (by decide)]; rfl
    · have er : r_X6 (f + 1) 2 (nI o) h = g_X6_readNot (r_X6 f) (nI o) h := by rw [r_X6, if_neg (by decide), if_neg (by decide), if_pos rfl]
      have i3 := ih 3 o h p (by omega) ho (by omega) hp
      rw [er]; unfold g_X6_readNot
      by_cases c : (5 : Int32) ≤ nI o
      · rw [if_pos c, i3, Option.bind_some, hu, Option.bind_some, XF_takes hp, Option.bind_some, if_neg Bool.false_ne_true, XF_takes hp, Option.bind_some, if_neg Bool.false_ne_true]
      · rw [if_neg c, XF_takes hp, Option.bind_some, if_neg Bool.false_ne_true, i3, Option.bind_some, hu, Option.bind_some, XF_takes hp, Option.bind_some, if_neg Bool.false_ne_true, XF_takes hp, Option.bind_some, if_neg Bool.false_ne_true]
    · have er : r_X6 (f + 1) 3 (nI o) h = g_X6_readSum (r_X6 f) (nI o) h := by rw [r_X6, if_neg (by decide), if_neg (by decide), if_neg (by decide), if_pos rfl]
      rw [er]; unfold g_X6_readSum
      rw [ih 4 o h p (by omega) ho (by omega) hp, Option.bind_some, hu, Option.bind_some, XF_readSum hp (by decide)]; rfl
    · have er : r_X6 (f + 1) 4 (nI o) h = g_X6_readTerm (r_X6 f) (nI o) h := by rw [r_X6, if_neg (by decide), if_neg (by decide), if_neg (by decide), if_neg (by decide), if_pos rfl]
      rw [er]; unfold g_X6_readTerm
      rw [ih 5 o h p (by omega) ho (by omega) hp, Option.bind_some, XF_readTerm hp (by decide)]; rfl
    · have er : r_X6 (f + 1) 5 (nI o) h = g_X6_readOne (r_X6 f) (nI o) h := by rw [r_X6, if_neg (by decide), if_neg (by decide), if_neg (by decide), if_neg (by decide), if_neg (by decide), if_pos rfl]
      rw [er]; unfold g_X6_readOne
      rw [hu, Option.bind_some, X_isValue, Option.bind_some]
      have tail : ∀ (A B : Option HS), (if (5 : Int32) ≤ nI o then (if (5 : Int32) ≤ nI o then (Option.bind (f_X6_refuse h) (fun q8 => (some q8))) else A) else (Option.bind (f_X6_takes (10045 : Int32) h) (fun q29 => (if q29.1 = true then B else (if (5 : Int32) ≤ nI o then (Option.bind (f_X6_refuse q29.2) (fun q35 => (some q35))) else (Option.bind (f_X6_takes (10040 : Int32) q29.2) (fun q39 => (if q39.1 = true then B else (Option.bind (f_X6_refuse q39.2) (fun q44 => (some q44)))))))))) ) = some h := by
        intro A B
        by_cases c : (5 : Int32) ≤ nI o
        · rw [if_pos c, if_pos c, XF_refuse hp]; rfl
        · rw [if_neg c, XF_takes hp, Option.bind_some, if_neg Bool.false_ne_true, if_neg c, XF_takes hp, Option.bind_some, if_neg Bool.false_ne_true, XF_refuse hp]; rfl
      by_cases cv : isVl u = true
      · rw [if_pos cv, XF_takes hp, Option.bind_some, if_neg Bool.false_ne_true]
        by_cases c : (5 : Int32) ≤ nI o
        · rw [if_pos c, if_pos c, XF_refuse hp]; rfl
        · rw [if_neg c, XF_takes hp, Option.bind_some, if_neg Bool.false_ne_true, if_neg c, XF_takes hp, Option.bind_some, if_neg Bool.false_ne_true, XF_refuse hp]; rfl
      · rw [if_neg cv]
        by_cases c : (5 : Int32) ≤ nI o
        · rw [if_pos c, if_pos c, XF_refuse hp]; rfl
        · rw [if_neg c, XF_takes hp, Option.bind_some, if_neg Bool.false_ne_true, if_neg c, XF_takes hp, Option.bind_some, if_neg Bool.false_ne_true, XF_refuse hp]; rfl
end
