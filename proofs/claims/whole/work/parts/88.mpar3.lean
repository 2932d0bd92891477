/-! ===== texts: the reference reads by the grammar, whole ===== -/
section
variable {b : Nat → Int32} {n x e s : Nat} {ev : Nat → Int32}
theorem vl_ne {t : Int32} (h : isVl t = true) : t ≠ 10045 ∧ t ≠ 10040 ∧ t ≠ 10301 ∧ t ≠ 10300 ∧ t ≠ 10212 := by
  refine ⟨fun z => ?_, fun z => ?_, fun z => ?_, fun z => ?_, fun z => ?_⟩ <;> (rw [z] at h; exact absurd h (by decide))
theorem apC_low {tk : Nat → Int32} {f o i : Nat} (hf : 3 ≤ f) (h : tk i = 10212) : apC tk f 3 o i = .inl i := by
  obtain ⟨f, rfl⟩ : ∃ f', f = f' + 1 + 1 + 1 := ⟨f - 3, by omega⟩
  rw [apC_3, apC_4, apC_5, if_neg (by rw [h]; decide), if_neg (by rw [h]; exact fun z => absurd z.2 (by decide)), if_neg (by rw [h]; exact fun z => absurd z.2 (by decide)), pbn_l, pbn_l]
theorem M_ap (hWb : Wby b n) (he : tkc b n e = 10300) (h160 : e ≤ 160) : ∀ (f m o i : Nat) (h : HS), m ≤ 5 → o ≤ 5 → 6 * (5 - o) + (6 - m) ≤ f → i ≤ e → MP b n x i o h → EVm ev s h → Mres b n x o ev h (r_X12 f m h) (apC (tkc b n) f m o i) := by
  intro f
  induction f with
  | zero => intro m o i h h1 h2 h3; omega
  | succ f ih =>
    intro m o i h hm ho hf hi hp hev
    have hm6 : m = 0 ∨ m = 1 ∨ m = 2 ∨ m = 3 ∨ m = 4 ∨ m = 5 := by omega
    rcases hm6 with e0 | e0 | e0 | e0 | e0 | e0 <;> subst e0
    · rw [apC_0]
      have er : r_X12 (f + 1) 0 h = g_X12_either (r_X12 f) h := by rw [r_X12, if_pos rfl]
      have hr := ih 1 o i h (by omega) ho (by omega) hi hp hev
      rw [er]
      unfold g_X12_either
      cases hq : apC (tkc b n) f 1 o i with
      | inl j =>
        rw [hq] at hr
        obtain ⟨w, h2', r1, r2, r3⟩ := hr
        rw [r1, Option.bind_some, pbn_l, MF_either r2 (by decide)]
        exact ⟨w, h2', rfl, r2, r3⟩
      | inr q =>
        obtain ⟨i1, c1⟩ := q
        rw [hq] at hr
        obtain ⟨v, h1, r1, r2, r3, r4⟩ := hr
        obtain ⟨l1, l2, l3⟩ := apC_len he f 1 o (by omega) _ _ _ hq hi
        have hL := L_meither hWb he (fun i h a1 a2 a3 => ih 1 o i h (by omega) ho (by omega) a1 a2 a3) (apC_len he f 1 o (by omega)) 160 i1 c1 v h1 1000 (by omega) (by omega) l3 r2 (hev.fk r3) r4
        rw [r1, Option.bind_some, pbn_r]
        refine Mres.tr r3 ?_
        rw [show (Option.bind (l_X12_either_5 (r_X12 f) 1000 (v, h1).1 (v, h1).2) fun q31 => some (q31.1, q31.2)) = l_X12_either_5 (r_X12 f) 1000 v h1 from by cases l_X12_either_5 (r_X12 f) 1000 v h1 <;> rfl]
        exact hL
    · rw [apC_1]
      have er : r_X12 (f + 1) 1 h = g_X12_both (r_X12 f) h := by rw [r_X12, if_neg (by decide), if_pos rfl]
      have hr := ih 2 o i h (by omega) ho (by omega) hi hp hev
      rw [er]
      unfold g_X12_both
      cases hq : apC (tkc b n) f 2 o i with
      | inl j =>
        rw [hq] at hr
        obtain ⟨w, h2', r1, r2, r3⟩ := hr
        rw [r1, Option.bind_some, pbn_l, MF_both r2 (by decide)]
        exact ⟨w, h2', rfl, r2, r3⟩
      | inr q =>
        obtain ⟨i1, c1⟩ := q
        rw [hq] at hr
        obtain ⟨v, h1, r1, r2, r3, r4⟩ := hr
        obtain ⟨l1, l2, l3⟩ := apC_len he f 2 o (by omega) _ _ _ hq hi
        have hL := L_mboth hWb he (fun i h a1 a2 a3 => ih 2 o i h (by omega) ho (by omega) a1 a2 a3) (apC_len he f 2 o (by omega)) 160 i1 c1 v h1 1000 (by omega) (by omega) l3 r2 (hev.fk r3) r4
        rw [r1, Option.bind_some, pbn_r]
        refine Mres.tr r3 ?_
        rw [show (Option.bind (l_X12_both_5 (r_X12 f) 1000 (v, h1).1 (v, h1).2) fun q31 => some (q31.1, q31.2)) = l_X12_both_5 (r_X12 f) 1000 v h1 from by cases l_X12_both_5 (r_X12 f) 1000 v h1 <;> rfl]
        exact hL
    · have er : r_X12 (f + 1) 2 h = g_X12_not (r_X12 f) h := by rw [r_X12, if_neg (by decide), if_neg (by decide), if_pos rfl]
      rw [er]
      unfold g_X12_not
      rw [MP_word hp wc_not (by decide), Option.bind_some]
      by_cases c : tkc b n i = 10212
      · have hlt := lt_e he hi (fun z => by rw [c] at z; exact absurd z (by decide))
        rw [decide_eq_true c, if_pos rfl, apC_2]
        rcases MP_opens hWb hp ho (by rw [c]; decide) with ⟨o5, h1, s1, s2, s3⟩ | ⟨o5, h1, s1, s2, s3⟩
        · rw [s1, Option.bind_some, if_neg (show ¬ ((false, h1) : Bool × HS).1 = true from Bool.false_ne_true), if_neg (show ¬ (o < 5 ∧ tkc b n i = 10212) from fun z => by omega), apC_low (by omega) c, pbn_l]
          exact ⟨0, h1, rfl, s2, s3⟩
        · have hr := ih 2 (o + 1) (i + 1) h1 (by omega) (by omega) (by omega) (by omega) s2 (hev.fk s3)
          rw [s1, Option.bind_some, if_pos rfl, if_pos ⟨o5, c⟩]
          cases hq : apC (tkc b n) f 2 (o + 1) (i + 1) with
          | inl j =>
            rw [hq] at hr
            obtain ⟨w, h2', r1, r2, r3⟩ := hr
            obtain ⟨l1, l2⟩ := MF_less (v := hI h2' 60 32 - 1) r2
            rw [r1, Option.bind_some, pbn_l]
            by_cases cw : w = 0
            · rw [if_pos cw]; exact ⟨1, _, rfl, l1, s3.tr (r3.tr l2)⟩
            · rw [if_neg cw]; exact ⟨0, _, rfl, l1, s3.tr (r3.tr l2)⟩
          | inr q =>
            obtain ⟨i1, c1⟩ := q
            rw [hq] at hr
            obtain ⟨v, h2, r1, r2, r3, r4⟩ := hr
            obtain ⟨l1, l2⟩ := MP_less r2 ho
            rw [r1, Option.bind_some, pbn_r]
            have rr := (run_sk1 r4).2
            by_cases cw : v = 0
            · rw [if_pos cw]
              exact ⟨1, _, rfl, l1, s3.tr (r3.tr l2), fun st => by rw [rr st, if_pos cw]⟩
            · rw [if_neg cw]
              exact ⟨0, _, rfl, l1, s3.tr (r3.tr l2), fun st => by rw [rr st, if_neg cw]⟩
      · rw [decide_eq_false c, if_neg (by decide), apC_2, if_neg (fun z => c z.2)]
        exact L_mcmp hWb he (fun i h a1 a2 a3 => ih 3 o i h (by omega) ho (by omega) a1 a2 a3) (apC_len he f 3 o (by omega)) hi hp hev
    · rw [apC_3]
      have er : r_X12 (f + 1) 3 h = g_X12_added (r_X12 f) h := by rw [r_X12, if_neg (by decide), if_neg (by decide), if_neg (by decide), if_pos rfl]
      have hr := ih 4 o i h (by omega) ho (by omega) hi hp hev
      rw [er]
      unfold g_X12_added
      cases hq : apC (tkc b n) f 4 o i with
      | inl j =>
        rw [hq] at hr
        obtain ⟨w, h2', r1, r2, r3⟩ := hr
        rw [r1, Option.bind_some, pbn_l, MF_added r2 (by decide)]
        exact ⟨w, h2', rfl, r2, r3⟩
      | inr q =>
        obtain ⟨i1, c1⟩ := q
        rw [hq] at hr
        obtain ⟨v, h1, r1, r2, r3, r4⟩ := hr
        obtain ⟨l1, l2, l3⟩ := apC_len he f 4 o (by omega) _ _ _ hq hi
        have hL := L_madded hWb he (fun i h a1 a2 a3 => ih 4 o i h (by omega) ho (by omega) a1 a2 a3) (apC_len he f 4 o (by omega)) 160 i1 c1 v h1 1000 (by omega) (by omega) l3 r2 (hev.fk r3) r4
        rw [r1, Option.bind_some, pbn_r]
        refine Mres.tr r3 ?_
        rw [show (Option.bind (l_X12_added_5 (r_X12 f) 1000 (v, h1).1 (v, h1).2) fun q31 => some (q31.1, q31.2)) = l_X12_added_5 (r_X12 f) 1000 v h1 from by cases l_X12_added_5 (r_X12 f) 1000 v h1 <;> rfl]
        exact hL
    · rw [apC_4]
      have er : r_X12 (f + 1) 4 h = g_X12_term (r_X12 f) h := by rw [r_X12, if_neg (by decide), if_neg (by decide), if_neg (by decide), if_neg (by decide), if_pos rfl]
      have hr := ih 5 o i h (by omega) ho (by omega) hi hp hev
      rw [er]
      unfold g_X12_term
      cases hq : apC (tkc b n) f 5 o i with
      | inl j =>
        rw [hq] at hr
        obtain ⟨w, h2', r1, r2, r3⟩ := hr
        rw [r1, Option.bind_some, pbn_l, MF_term r2 (by decide)]
        exact ⟨w, h2', rfl, r2, r3⟩
      | inr q =>
        obtain ⟨i1, c1⟩ := q
        rw [hq] at hr
        obtain ⟨v, h1, r1, r2, r3, r4⟩ := hr
        obtain ⟨l1, l2, l3⟩ := apC_len he f 5 o (by omega) _ _ _ hq hi
        have hL := L_mterm hWb he (fun i h a1 a2 a3 => ih 5 o i h (by omega) ho (by omega) a1 a2 a3) (apC_len he f 5 o (by omega)) 160 i1 c1 v h1 1000 (by omega) (by omega) l3 r2 (hev.fk r3) r4
        rw [r1, Option.bind_some, pbn_r]
        refine Mres.tr r3 ?_
        rw [show (Option.bind (l_X12_term_5 (r_X12 f) 1000 (v, h1).1 (v, h1).2) fun q31 => some (q31.1, q31.2)) = l_X12_term_5 (r_X12 f) 1000 v h1 from by cases l_X12_term_5 (r_X12 f) 1000 v h1 <;> rfl]
        exact hL
    · have er : r_X12 (f + 1) 5 h = g_X12_one (r_X12 f) h := by rw [r_X12, if_neg (by decide), if_neg (by decide), if_neg (by decide), if_neg (by decide), if_neg (by decide), if_pos rfl]
      rw [er]
      unfold g_X12_one
      rw [MP_sign hp (s := 45) (C := 10045) (by decide) (by decide), MP_sign hp (s := 40) (C := 10040) (by decide) (by decide), Option.bind_some, Option.bind_some, apC_5]
      obtain ⟨k1, k2, k3⟩ := MP_kind hp
      have p33 := hp.2.1
      by_cases cv : isVl (tkc b n i) = true
      · obtain ⟨n1, n2, n3, n4, n5⟩ := vl_ne cv
        have hlt := lt_e he hi n4
        obtain ⟨h1, s1, s2, s3⟩ := MP_next hWb hp n3
        have F1 : Fk K7 h h1 := s3.mono (fun _ q => K4_7 q)
        have stv : ∀ (v : Int32), v = pv ev (tkc b n i) → ∀ st, runC ev [tkc b n i] st = v :: st := fun v hv st => by
          rw [runC_1]; unfold stp; rw [if_pos cv, hv]
        rw [decide_eq_false n1, decide_eq_false n2, if_neg (by decide), if_neg (by decide), if_pos cv, if_pos p33]
        by_cases cn : tkc b n i < 10000
        · rw [if_pos (k1.mpr cn), s1, Option.bind_some, (k2 cn).1]
          exact ⟨_, h1, rfl, s2, F1, stv _ (by unfold pv; rw [if_pos cn])⟩
        · have hk1 := k3 cv cn
          have hk2 : ¬ hI h 60 28 = 2 := fun z => cn (k1.mp z)
          rcases MP_name hp hev cn with ⟨-, q1⟩ | ⟨q1, -⟩
          · rw [if_neg hk2, if_pos p33, if_pos hk1, q1, Option.bind_some, if_pos p33, s1, Option.bind_some]
            exact ⟨_, h1, rfl, s2, F1, stv _ rfl⟩
          · rw [cv] at q1; cases q1
      · by_cases c1 : tkc b n i = 10045
        · have hlt := lt_e he hi (fun z => by rw [c1] at z; exact absurd z (by decide))
          rw [decide_eq_true c1, if_pos rfl, if_neg cv]
          rcases MP_opens hWb hp ho (by rw [c1]; decide) with ⟨o5, h1, s1, s2, s3⟩ | ⟨o5, h1, s1, s2, s3⟩
          · rw [s1, Option.bind_some, if_neg (show ¬ ((false, h1) : Bool × HS).1 = true from Bool.false_ne_true), if_neg (show ¬ (o < 5 ∧ tkc b n i = 10045) from fun z => by omega), if_neg (show ¬ (o < 5 ∧ tkc b n i = 10040) from fun z => by omega)]
            exact ⟨0, h1, rfl, s2, s3⟩
          · have hr := ih 5 (o + 1) (i + 1) h1 (by omega) (by omega) (by omega) (by omega) s2 (hev.fk s3)
            rw [s1, Option.bind_some, if_pos rfl, if_pos ⟨o5, c1⟩]
            cases hq : apC (tkc b n) f 5 (o + 1) (i + 1) with
            | inl j =>
              rw [hq] at hr
              obtain ⟨w, h2', r1, r2, r3⟩ := hr
              obtain ⟨l1, l2⟩ := MF_less (v := hI h2' 60 32 - 1) r2
              rw [r1, Option.bind_some, pbn_l]
              exact ⟨_, _, rfl, l1, s3.tr (r3.tr l2)⟩
            | inr q =>
              obtain ⟨i1, c1⟩ := q
              rw [hq] at hr
              obtain ⟨v, h2, r1, r2, r3, r4⟩ := hr
              obtain ⟨l1, l2⟩ := MP_less r2 ho
              rw [r1, Option.bind_some, pbn_r]
              exact ⟨-v, _, rfl, l1, s3.tr (r3.tr l2), (run_sk1 r4).1⟩
        · rw [decide_eq_false c1, if_neg (show ¬ false = true from Bool.false_ne_true), if_neg cv, if_neg (show ¬ (o < 5 ∧ tkc b n i = 10045) from fun z => c1 z.2)]
          by_cases c2 : tkc b n i = 10040
          · have hlt := lt_e he hi (fun z => by rw [c2] at z; exact absurd z (by decide))
            rw [decide_eq_true c2, if_pos rfl]
            rcases MP_opens hWb hp ho (by rw [c2]; decide) with ⟨o5, h1, s1, s2, s3⟩ | ⟨o5, h1, s1, s2, s3⟩
            · rw [s1, Option.bind_some, if_neg (show ¬ ((false, h1) : Bool × HS).1 = true from Bool.false_ne_true), if_neg (show ¬ (o < 5 ∧ tkc b n i = 10040) from fun z => by omega)]
              exact ⟨0, h1, rfl, s2, s3⟩
            · have hr := ih 0 (o + 1) (i + 1) h1 (by omega) (by omega) (by omega) (by omega) s2 (hev.fk s3)
              rw [s1, Option.bind_some, if_pos rfl, if_pos ⟨o5, c2⟩]
              cases hq : apC (tkc b n) f 0 (o + 1) (i + 1) with
              | inl j =>
                rw [hq] at hr
                obtain ⟨w, h2', r1, r2, r3⟩ := hr
                obtain ⟨l1, l2⟩ := MF_less (v := hI h2' 60 32 - 1) r2
                have r2 : MF b n j h2' := r2
                rw [r1, Option.bind_some, pbn_l, MF_sign r2, Option.bind_some, if_neg (by decide), MF_fail r2, Option.bind_some, Option.bind_some, if_neg (by rw [l1.1]; decide)]
                exact ⟨_, _, rfl, l1, s3.tr (r3.tr l2)⟩
              | inr q =>
                obtain ⟨i1, cc⟩ := q
                obtain ⟨l1, l2, l3⟩ := apC_len he f 0 (o + 1) (by omega) _ _ _ hq (by omega)
                rw [hq] at hr
                obtain ⟨v, h2, r1, r2, r3, r4⟩ := hr
                have r2 : MP b n x i1 (o + 1) h2 := r2
                rw [r1, Option.bind_some, pbn_r, MP_sign r2 (s := 41) (C := 10041) (by decide) (by decide), Option.bind_some]
                by_cases c3 : tkc b n i1 = 10041
                · obtain ⟨g1, g2⟩ := MP_less r2 ho
                  obtain ⟨h3, t1, t2, t3⟩ := MP_next hWb g1 (by rw [c3]; decide)
                  rw [decide_eq_true c3, if_pos rfl, Option.bind_some, if_pos c3]
                  rw [if_pos (show hI (sI h2 60 32 (hI h2 60 32 - 1)) 60 33 = 0 from g1.2.1), t1, Option.bind_some]
                  exact ⟨v, h3, rfl, t2, s3.tr (r3.tr (g2.tr (t3.mono (fun _ q => K4_7 q)))), r4⟩
                · obtain ⟨h3, t1, t2, t3⟩ := MP_fail r2
                  obtain ⟨g1, g2⟩ := MF_less (v := hI h3 60 32 - 1) t2
                  rw [decide_eq_false c3, if_neg (by decide), t1, Option.bind_some, Option.bind_some, if_neg c3, if_neg (by rw [g1.1]; decide)]
                  exact ⟨_, _, rfl, g1, s3.tr (r3.tr (t3.tr g2))⟩
          · rw [decide_eq_false c2, if_neg (show ¬ false = true from Bool.false_ne_true), if_neg (show ¬ (o < 5 ∧ tkc b n i = 10040) from fun z => c2 z.2), if_pos p33]
            have cn : ¬ tkc b n i < 10000 := fun z => cv (by unfold isVl; rw [if_pos z])
            have hk2 : ¬ hI h 60 28 = 2 := fun z => cn (k1.mp z)
            rw [if_neg hk2, if_pos p33]
            by_cases k5 : hI h 60 28 = 1
            · rw [if_pos k5]
              rcases MP_name hp hev cn with ⟨q1, -⟩ | ⟨q1, h1, q2, q3, q4⟩
              · exact absurd q1 cv
              · rw [q2, Option.bind_some, if_neg (by show ¬ hI h1 60 33 = 0; rw [q3.1]; decide)]
                exact ⟨0, h1, rfl, q3, q4⟩
            · obtain ⟨h1, q2, q3, q4⟩ := MP_fail hp
              rw [if_neg k5, q2, Option.bind_some]
              exact ⟨0, h1, rfl, q3, q4⟩
end
