/-! ===== texts: the reference reads a text ===== -/
theorem psI_ge (b : Nat → Int32) (n : Nat) : ∀ i, i ≤ psI b n i ∨ psI b n i = n := by
  intro i
  induction i with
  | zero => exact Or.inl (Nat.zero_le _)
  | succ i ih =>
    rw [psI_s]
    obtain ⟨a1, a2, a3, a4, a5⟩ := rE_spec (P := isBl) (b := b) (n := n) _ (psI b n i) rfl
    have hq := a2 (psI_le b n i)
    obtain ⟨l1, l2, l3, l4⟩ := lq_le (b := b) hq
    have e : (lx b n (psI b n i)).2.2 = (lq b n (rE isBl b n (psI b n i))).2.2 := rfl
    rw [e]
    by_cases c : rE isBl b n (psI b n i) < n
    · have := l4 c
      omega
    · omega
/-- behind the last byte no token begins -/
theorem tkc_end (b : Nat → Int32) (n : Nat) : tkc b n n = 10300 := by
  have h1 := psI_ge b n n
  have h2 := psI_le b n n
  obtain ⟨a1, a2, a3, a4, a5⟩ := rE_spec (P := isBl) (b := b) (n := n) _ (psI b n n) rfl
  have e := (tkc_s (b := b) (n := n) (i := n)).1
  rw [e]
  unfold lq
  rw [if_neg (by omega)]
theorem Fk.fr {K : Nat → Prop} {h h' : HS} (F : Fk K h h') (hK : ∀ k, K k → 26 ≤ k ∧ k ≤ 38) {g : Nat} : Fr g h h' := by
  refine ⟨F.1, F.2.1, F.2.2.1, F.2.2.2.1, F.2.2.2.2.1, fun a k h1 h2 => (F.2.2.2.2.2 a k (fun z => ?_)).1, fun a k h1 h2 => (F.2.2.2.2.2 a k (fun z => ?_)).2⟩
  all_goals
    obtain ⟨z1, z2⟩ := z
    obtain ⟨k1, k2⟩ := hK k z2
    subst z1
    apply h2
    unfold grp
    rw [if_pos rfl, if_neg (by omega), if_neg (by omega), if_neg (by omega), if_neg (by omega), if_neg (by omega), if_neg (by omega), if_neg (by omega), if_neg (by omega), if_neg (by omega), if_neg (by omega), if_neg (by omega)]
section
variable {b : Nat → Int32} {n x s : Nat} {ev : Nat → Int32}
theorem M_part (hWb : Wby b n) {i : Nat} {h : HS} {K : Int32} {W : Int64} (hWC : ∀ w, wcode w = K ↔ w = W) (hK : 10200 ≤ K.toInt ∧ K.toInt ≤ 10222) (hi : i ≤ n) (hp : MP b n x i 0 h) (hev : EVm ev s h) : Mres b n x 0 ev h (f_X12_part W h) (apP (tkc b n) K i) := by
  have hK1 : K ≠ 10301 := fun z => by rw [z] at hK; exact absurd hK (by decide)
  have hK0 : K ≠ 10300 := fun z => by rw [z] at hK; exact absurd hK (by decide)
  have h160 := hp.1.2.2.2.1
  have he := tkc_end b n
  unfold f_X12_part apP
  rw [MP_word hp hWC hK, Option.bind_some]
  by_cases c : tkc b n i = K
  · have hlt := lt_e he hi (fun z => hK0 (c.symm.trans z))
    obtain ⟨h1, s1, s2, s3⟩ := MP_next hWb hp (by rw [c]; exact hK1)
    have F1 : Fk K7 h h1 := s3.mono (fun _ q => K4_7 q)
    have hr := M_ap hWb he h160 60 0 0 (i + 1) h1 (by omega) (by omega) (by omega) (by omega) s2 (hev.fk F1)
    rw [decide_eq_true c, if_pos rfl, Option.bind_some, if_pos hp.2.1, s1, Option.bind_some, Option.bind_some, if_pos s2.2.1, if_pos c]
    cases hq : apC (tkc b n) 60 0 0 (i + 1) with
    | inl j =>
      rw [hq] at hr
      obtain ⟨w, h2', r1, r2, r3⟩ := hr
      have r2 : MF b n j h2' := r2
      rw [r1, Option.bind_some, Option.bind_some, pbn_l, MF_sign r2, Option.bind_some, if_neg Bool.false_ne_true, MF_fail r2, Option.bind_some, Option.bind_some, if_neg (by rw [r2.1]; decide)]
      exact ⟨w, h2', rfl, r2, F1.tr r3⟩
    | inr q =>
      obtain ⟨i1, cc⟩ := q
      rw [hq] at hr
      obtain ⟨v, h2, r1, r2, r3, r4⟩ := hr
      have r2 : MP b n x i1 0 h2 := r2
      rw [r1, Option.bind_some, Option.bind_some, pbn_r, MP_sign r2 (s := 59) (C := 10059) (by decide) (by decide), Option.bind_some]
      by_cases c3 : tkc b n i1 = 10059
      · obtain ⟨h3, t1, t2, t3⟩ := MP_next hWb r2 (by rw [c3]; decide)
        rw [decide_eq_true c3, if_pos rfl, Option.bind_some, if_pos c3, if_pos r2.2.1, t1, Option.bind_some]
        exact ⟨v, h3, rfl, t2, F1.tr (r3.tr (t3.mono (fun _ q => K4_7 q))), r4⟩
      · obtain ⟨h3, t1, t2, t3⟩ := MP_fail r2
        rw [decide_eq_false c3, if_neg Bool.false_ne_true, t1, Option.bind_some, Option.bind_some, if_neg c3, if_neg (by rw [t2.1]; decide)]
        exact ⟨v, h3, rfl, t2, F1.tr (r3.tr t3)⟩
  · obtain ⟨h3, t1, t2, t3⟩ := MP_fail hp
    rw [decide_eq_false c, if_neg Bool.false_ne_true, t1, Option.bind_some, Option.bind_some, if_neg (by rw [t2.1]; decide), Option.bind_some, if_neg (by rw [t2.1]; decide), Option.bind_some, MF_sign t2, Option.bind_some, if_neg Bool.false_ne_true, MF_fail t2, Option.bind_some, Option.bind_some, if_neg (by rw [t2.1]; decide), if_neg c]
    exact ⟨0, h3, rfl, t2, t3⟩
theorem M_read {h : HS} (hWb : Wby b n) (hx : x < 6) (hn : n ≤ 160) (h62 : hI h 62 x = nI n) (hby : ∀ k, k < n → hI h 61 (160 * x + k) = b k) (hs : s < 8) (e1 : hI h 67 s = ev 1) (e2 : hI h 68 s = ev 2) (e3 : hI h 69 s = ev 3) (w : Int32) : match apT (tkc b n) with
    | .inl j => ∃ v h', f_X12_read (nI x) (nI s) (ev 0) (ev 4) (ev 5) w h = some (v, h') ∧ hI h' 60 33 = 1 ∧ hI h' 60 34 = nI (tkp b n j) ∧ Fk (fun k => 26 ≤ k ∧ k ≤ 38) h h'
    | .inr q => ∃ v h', f_X12_read (nI x) (nI s) (ev 0) (ev 4) (ev 5) w h = some (v, h') ∧ hI h' 60 33 = 0 ∧ Fk (fun k => 26 ≤ k ∧ k ≤ 38) h h' ∧ ∀ st, runC ev (if w = 0 then q.1 else if w = 1 then q.2.1 else q.2.2) st = v :: st := by
  have hxb := ixb_n (i := x) (n := 6) hx (by decide)
  have hc : (nI x).toNatClampNeg = x := nI_clamp (by omega)
  have e160 : (160 : Int32) * nI x = nI (160 * x) := by rw [show (160 : Int32) = nI 160 from rfl, pk_mul]
  obtain ⟨h0, hh0⟩ : ∃ h0, h0 = sI (sI (sI (sI (sI (sI (sI (sI (sI h 60 35 (nI s)) 60 36 (ev 0)) 60 37 (ev 4)) 60 38 (ev 5)) 60 26 (nI (160 * x))) 60 27 (nI n)) 60 31 0) 60 32 0) 60 33 0 := ⟨_, rfl⟩
  have F0 : Fk (fun k => 26 ≤ k ∧ k ≤ 38) h h0 := by
    rw [hh0]
    exact Fk.sI (Fk.sI (Fk.sI (Fk.sI (Fk.sI (Fk.sI (Fk.sI (Fk.sI (Fk.sI Fk.rf (by decide)) (by decide)) (by decide)) (by decide)) (by decide)) (by decide)) (by decide)) (by decide)) (by decide)
  have hB0 : Mby b n x h0 := by
    refine ⟨?_, ?_, hx, hn, fun k hk => by rw [F0.o (by decide)]; exact hby k hk⟩
    · rw [hh0]; simp (config := { decide := true }) only [hI_sI, hI_sL, hI_sR, hL_sI, hL_sL, hL_sR, hR_sI, hR_sL, hR_sR, hT_sI, hT_sL, hT_sR, hLn_sI, hLn_sL, hLn_sR, hN_sI, hN_sL, hN_sR, if_true, if_false]
    · rw [hh0]; simp (config := { decide := true }) only [hI_sI, hI_sL, hI_sR, hL_sI, hL_sL, hL_sR, hR_sI, hR_sL, hR_sR, hT_sI, hT_sL, hT_sR, hLn_sI, hLn_sL, hLn_sR, hN_sI, hN_sL, hN_sR, if_true, if_false]
  have hE0 : EVm ev s h0 := by
    refine ⟨hs, ?_, ?_, by rw [F0.o (by decide)]; exact e1, by rw [F0.o (by decide)]; exact e2, by rw [F0.o (by decide)]; exact e3, ?_, ?_⟩
    all_goals (rw [hh0]; simp (config := { decide := true }) only [hI_sI, hI_sL, hI_sR, hL_sI, hL_sL, hL_sR, hR_sI, hR_sL, hR_sR, hT_sI, hT_sL, hT_sR, hLn_sI, hLn_sL, hLn_sR, hN_sI, hN_sL, hN_sR, if_true, if_false])
  obtain ⟨h1, s1, s2, s3, s4, s5⟩ := M_next0 hB0 hWb (p := 0) (Nat.zero_le _) (by rw [hh0]; simp (config := { decide := true }) only [hI_sI, hI_sL, hI_sR, hL_sI, hL_sL, hL_sR, hR_sI, hR_sL, hR_sR, hT_sI, hT_sL, hT_sR, hLn_sI, hLn_sL, hLn_sR, hN_sI, hN_sL, hN_sR, if_true, if_false])
  have hp1 : MP b n x 0 0 h1 := by
    refine ⟨hB0.fk s5 (by unfold K4; omega) (by unfold K4; omega), ?_, s2, s3, fun z => ?_, ?_⟩
    · rw [s5.i (by unfold K4; omega), hh0]; simp (config := { decide := true }) only [hI_sI, hI_sL, hI_sR, hL_sI, hL_sL, hL_sR, hR_sI, hR_sL, hR_sR, hT_sI, hT_sL, hT_sR, hLn_sI, hLn_sL, hLn_sR, hN_sI, hN_sL, hN_sR, if_true, if_false]
    · rw [psI_s]; exact s4 z
    · rw [s5.i (by unfold K4; omega), hh0]; simp (config := { decide := true }) only [hI_sI, hI_sL, hI_sR, hL_sI, hL_sL, hL_sR, hR_sI, hR_sL, hR_sR, hT_sI, hT_sL, hT_sR, hLn_sI, hLn_sL, hLn_sR, hN_sI, hN_sL, hN_sR, if_true, if_false]
  have F1 : Fk K7 h0 h1 := s5.mono (fun _ q => K4_7 q)
  have up : ∀ {g}, Fk K7 h0 g → Fk (fun k => 26 ≤ k ∧ k ≤ 38) h g := fun q => F0.tr (q.mono (fun k z => by unfold K7 at z; omega))
  have he := tkc_end b n
  have hop : f_X12_read (nI x) (nI s) (ev 0) (ev 4) (ev 5) w h = (Option.bind (f_X12_part (323728 : Int64) h1) (fun q9 => (Option.bind (if (hI q9.2 60 33) = 0 then (Option.bind (f_X12_part (10320789 : Int64) q9.2) (fun q16 => (some (q16.1, q16.2)))) else (some ((0 : Int32), q9.2))) (fun q14 => (Option.bind (if (hI q14.2 60 33) = 0 then (Option.bind (f_X12_part (6477035 : Int64) q14.2) (fun q26 => (some (q26.1, q26.2)))) else (some ((0 : Int32), q14.2))) (fun q24 => (Option.bind (if (hI q24.2 60 33) = 0 then (if (hI q24.2 60 28) = 0 then (some q24.2) else (Option.bind (f_X12_fail q24.2) (fun q37 => (some q37)))) else (some q24.2)) (fun q34 => (if w = 0 then (some (q9.1, q34)) else (if w = (1 : Int32) then (some (q14.1, q34)) else (some (q24.1, q34)))))))))))) := by
    unfold f_X12_read
    rw [if_pos hxb, bh_eq, hc, e160]
    rw [show hI (sI (sI (sI (sI (sI h 60 35 (nI s)) 60 36 (ev 0)) 60 37 (ev 4)) 60 38 (ev 5)) 60 26 (nI (160 * x))) 62 x = nI n from by simp (config := { decide := true }) only [hI_sI, hI_sL, hI_sR, hL_sI, hL_sL, hL_sR, hR_sI, hR_sL, hR_sR, hT_sI, hT_sL, hT_sR, hLn_sI, hLn_sL, hLn_sR, hN_sI, hN_sL, hN_sR, if_false]; exact h62]
    rw [← hh0, s1, Option.bind_some]
  rw [hop]
  have hr1 := M_part hWb (ev := ev) (s := s) wc_play (by decide) (Nat.zero_le n) hp1 (hE0.fk F1)
  unfold apT
  cases hq1 : apP (tkc b n) 10220 0 with
  | inl j =>
    rw [hq1] at hr1
    obtain ⟨v1, h2, a1, a2, a3⟩ := hr1
    have bad : ¬ hI h2 60 33 = 0 := by rw [a2.1]; decide
    rw [a1, Option.bind_some, if_neg bad, Option.bind_some, if_neg bad, Option.bind_some, if_neg bad, Option.bind_some]
    by_cases w0 : w = 0
    · rw [if_pos w0]; exact ⟨_, h2, rfl, a2.1, a2.2, up (F1.tr a3)⟩
    · rw [if_neg w0]
      by_cases w1 : w = 1
      · rw [if_pos w1]; exact ⟨_, h2, rfl, a2.1, a2.2, up (F1.tr a3)⟩
      · rw [if_neg w1]; exact ⟨_, h2, rfl, a2.1, a2.2, up (F1.tr a3)⟩
  | inr q1 =>
    obtain ⟨i1, c1⟩ := q1
    obtain ⟨l1, l2, l3⟩ := apP_len he (by decide) hq1 (Nat.zero_le n)
    rw [hq1] at hr1
    obtain ⟨v1, h2, a1, a2, a3, a4⟩ := hr1
    have a2 : MP b n x i1 0 h2 := a2
    have E2 := (hE0.fk F1).fk a3
    have hr2 := M_part hWb (ev := ev) (s := s) wc_skill (by decide) l3 a2 E2
    rw [a1, Option.bind_some, if_pos a2.2.1]
    show match (match apP (tkc b n) 10221 i1 with
      | .inl j => (.inl j : Nat ⊕ (List Int32 × List Int32 × List Int32))
      | .inr r => match apP (tkc b n) 10222 r.1 with
        | .inl j => .inl j
        | .inr s => if tkc b n s.1 = 10300 then .inr (c1, r.2, s.2) else .inl s.1) with
      | .inl j => _
      | .inr q => _
    cases hq2 : apP (tkc b n) 10221 i1 with
    | inl j =>
      rw [hq2] at hr2
      obtain ⟨v2, h3, b1, b2, b3⟩ := hr2
      have bad : ¬ hI h3 60 33 = 0 := by rw [b2.1]; decide
      rw [b1, Option.bind_some, Option.bind_some, if_neg bad, Option.bind_some, if_neg bad, Option.bind_some]
      by_cases w0 : w = 0
      · rw [if_pos w0]; exact ⟨_, h3, rfl, b2.1, b2.2, up (F1.tr (a3.tr b3))⟩
      · rw [if_neg w0]
        by_cases w1 : w = 1
        · rw [if_pos w1]; exact ⟨_, h3, rfl, b2.1, b2.2, up (F1.tr (a3.tr b3))⟩
        · rw [if_neg w1]; exact ⟨_, h3, rfl, b2.1, b2.2, up (F1.tr (a3.tr b3))⟩
    | inr q2 =>
      obtain ⟨i2, c2⟩ := q2
      obtain ⟨m1, m2, m3⟩ := apP_len he (by decide) hq2 l3
      rw [hq2] at hr2
      obtain ⟨v2, h3, b1, b2, b3, b4⟩ := hr2
      have b2 : MP b n x i2 0 h3 := b2
      have hr3 := M_part hWb (ev := ev) (s := s) wc_leave (by decide) m3 b2 (E2.fk b3)
      rw [b1, Option.bind_some, Option.bind_some, if_pos b2.2.1]
      show match (match apP (tkc b n) 10222 i2 with
        | .inl j => (.inl j : Nat ⊕ (List Int32 × List Int32 × List Int32))
        | .inr s => if tkc b n s.1 = 10300 then .inr (c1, c2, s.2) else .inl s.1) with
        | .inl j => _
        | .inr q => _
      cases hq3 : apP (tkc b n) 10222 i2 with
      | inl j =>
        rw [hq3] at hr3
        obtain ⟨v3, h4, d1, d2, d3⟩ := hr3
        have bad : ¬ hI h4 60 33 = 0 := by rw [d2.1]; decide
        rw [d1, Option.bind_some, Option.bind_some, if_neg bad, Option.bind_some]
        by_cases w0 : w = 0
        · rw [if_pos w0]; exact ⟨_, h4, rfl, d2.1, d2.2, up (F1.tr (a3.tr (b3.tr d3)))⟩
        · rw [if_neg w0]
          by_cases w1 : w = 1
          · rw [if_pos w1]; exact ⟨_, h4, rfl, d2.1, d2.2, up (F1.tr (a3.tr (b3.tr d3)))⟩
          · rw [if_neg w1]; exact ⟨_, h4, rfl, d2.1, d2.2, up (F1.tr (a3.tr (b3.tr d3)))⟩
      | inr q3 =>
        obtain ⟨i3, c3⟩ := q3
        rw [hq3] at hr3
        obtain ⟨v3, h4, d1, d2, d3, d4⟩ := hr3
        have d2 : MP b n x i3 0 h4 := d2
        have F4 := up (F1.tr (a3.tr (b3.tr d3)))
        rw [d1, Option.bind_some, Option.bind_some, if_pos d2.2.1]
        show match (if tkc b n i3 = 10300 then (.inr (c1, c2, c3) : Nat ⊕ (List Int32 × List Int32 × List Int32)) else .inl i3) with
          | .inl j => _
          | .inr q => _
        have hk : hI h4 60 28 = 0 ↔ tkc b n i3 = 10300 := by
          rcases d2.2.2.1 with ⟨e, q⟩ | ⟨e, q⟩ | ⟨e, q⟩ | ⟨e, q, -⟩ | ⟨e, t, t1, t2, -⟩
          · rw [e, q]; decide
          · rw [e, q]; decide
          · rw [e]
            refine ⟨fun z => absurd z (by decide), fun z => ?_⟩
            rw [z] at q
            rcases wc_in (hL h4 60 30) with y | y
            · rw [y] at q; exact absurd q (by decide)
            · rw [← q] at y; exact absurd y (by decide)
          · rw [e]
            refine ⟨fun z => absurd z (by decide), fun z => ?_⟩
            rw [z] at q; exact absurd q (by decide)
          · rw [e]
            refine ⟨fun z => absurd z (by decide), fun z => ?_⟩
            have st := isSg_Z t1
            have e10 : (10000 : Int32).toInt = 10000 := rfl
            rw [t2, i32_eqZ, i32_addZ (by omega) (by omega), e10, show (10300 : Int32).toInt = 10300 from rfl] at z
            omega
        by_cases ce : tkc b n i3 = 10300
        · rw [if_pos ce, if_pos (hk.mpr ce), Option.bind_some]
          show ∃ v h', _ ∧ hI h' 60 33 = 0 ∧ _ ∧ ∀ st, runC ev (if w = 0 then c1 else if w = 1 then c2 else c3) st = v :: st
          by_cases w0 : w = 0
          · rw [if_pos w0, if_pos w0]; exact ⟨v1, h4, rfl, d2.2.1, F4, a4⟩
          · rw [if_neg w0, if_neg w0]
            by_cases w1 : w = 1
            · rw [if_pos w1, if_pos w1]; exact ⟨v2, h4, rfl, d2.2.1, F4, b4⟩
            · rw [if_neg w1, if_neg w1]; exact ⟨v3, h4, rfl, d2.2.1, F4, d4⟩
        · obtain ⟨h5, t1, t2, t3⟩ := MP_fail d2
          have F5 := F4.tr (t3.mono (L := fun k => 26 ≤ k ∧ k ≤ 38) (fun k z => by unfold K7 at z; omega))
          rw [if_neg ce, if_neg (fun z => ce (hk.mp z)), t1, Option.bind_some, Option.bind_some]
          show ∃ v h', _ ∧ hI h' 60 33 = 1 ∧ hI h' 60 34 = nI (tkp b n i3) ∧ _
          by_cases w0 : w = 0
          · rw [if_pos w0]; exact ⟨v1, h5, rfl, t2.1, t2.2, F5⟩
          · rw [if_neg w0]
            by_cases w1 : w = 1
            · rw [if_pos w1]; exact ⟨v2, h5, rfl, t2.1, t2.2, F5⟩
            · rw [if_neg w1]; exact ⟨v3, h5, rfl, t2.1, t2.2, F5⟩
end
