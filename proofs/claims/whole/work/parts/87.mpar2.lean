/-! ===== texts: the reference reads by the grammar, on ===== -/
section
variable {b : Nat → Int32} {n x o e s : Nat} {ev : Nat → Int32}
theorem MF_added {rc : Nat → HS → Option (Int32 × HS)} {f j : Nat} {v : Int32} {h : HS} (hf : MF b n j h) (h0 : 0 < f) : l_X12_added_5 rc f v h = some (v, h) := by
  obtain ⟨f, rfl⟩ : ∃ f', f = f' + 1 := ⟨f - 1, by omega⟩
  rw [l_X12_added_5, MF_sign hf, MF_sign hf]
  rfl
theorem sm_if {z : Bool} {v w : Int32} {C : Int32} {L : Int32 → Option (Int32 × HS)} (hz : (z = true ∧ C = 10043) ∨ (z = false ∧ C = 10045)) : (Option.bind (if z = true then some (1 : Int32) else some (0 : Int32)) (fun q => if q = 0 then L (v - w) else L (v + w))) = L (jn C v w) := by
  rcases hz with ⟨z1, z2⟩ | ⟨z1, z2⟩ <;> subst z1 <;> subst z2 <;> rfl
theorem L_madded {f : Nat} (hWb : Wby b n) (he : tkc b n e = 10300) (hrec : ∀ i h, i ≤ e → MP b n x i o h → EVm ev s h → Mres b n x o ev h (r_X12 f 4 h) (apC (tkc b n) f 4 o i)) (hl : PL e (apC (tkc b n) f 4 o)) : ∀ (d i : Nat) (c : List Int32) (v : Int32) (h : HS) (fu : Nat), e < i + d → d < fu → i ≤ e → MP b n x i o h → EVm ev s h → (∀ st, runC ev c st = v :: st) → Mres b n x o ev h (l_X12_added_5 (r_X12 f) fu v h) (lpC (apC (tkc b n) f 4 o) opSum (tkc b n) d i c) := by
  intro d
  induction d with
  | zero => intro i c v h fu h1 h2 h3; omega
  | succ d ih =>
    intro i cc v h fu h1 h2 h3 hp hev hv
    obtain ⟨fu, rfl⟩ : ∃ f', fu = f' + 1 := ⟨fu - 1, by omega⟩
    have w1 := MP_sign hp (s := 43) (C := 10043) (by decide) (by decide)
    have w2 := MP_sign hp (s := 45) (C := 10045) (by decide) (by decide)
    have go : ∀ (C : Int32), (C = 10043 ∨ C = 10045) → tkc b n i = C → (∀ (R : Int32 → Int32 → HS → Option (Int32 × HS)), True) → Mres b n x o ev h (Option.bind (f_X12_next h) (fun q44 => Option.bind (r_X12 f 4 q44) (fun q48 => l_X12_added_5 (r_X12 f) fu (jn C v q48.1) q48.2))) (pbn (apC (tkc b n) f 4 o (i + 1)) (fun i' c' => lpC (apC (tkc b n) f 4 o) opSum (tkc b n) d i' (cc ++ c' ++ [tkc b n i]))) := by
      intro C hC c _
      have hlt := lt_e he h3 (fun z => by rw [c] at z; rcases hC with y | y <;> subst y <;> exact absurd z (by decide))
      obtain ⟨h1', s1, s2, s3⟩ := MP_next hWb hp (by rw [c]; rcases hC with y | y <;> subst y <;> decide)
      have F1 : Fk K7 h h1' := s3.mono (fun _ q => K4_7 q)
      have hev1 := hev.fk F1
      have hr := hrec (i + 1) h1' (by omega) s2 hev1
      rw [s1, Option.bind_some]
      cases hq : apC (tkc b n) f 4 o (i + 1) with
      | inl j =>
        rw [hq] at hr
        obtain ⟨w, h2', r1, r2, r3⟩ := hr
        rw [r1, Option.bind_some, pbn_l]
        rw [MF_added r2 (by omega)]
        exact ⟨_, h2', rfl, r2, F1.tr r3⟩
      | inr q =>
        obtain ⟨i1, c1⟩ := q
        rw [hq] at hr
        obtain ⟨w, h2', r1, r2, r3, r4⟩ := hr
        obtain ⟨l1, l2, l3⟩ := hl _ _ _ hq (by omega)
        rw [r1, Option.bind_some, pbn_r]
        exact (ih i1 (cc ++ c1 ++ [tkc b n i]) (jn C v w) h2' fu (by omega) (by omega) l3 r2 (hev1.fk r3) (by rw [c]; exact run_jn (by rcases hC with y | y <;> subst y <;> decide) hv r4)).tr (F1.tr r3)
    have sm : ∀ (C : Int32) (z : Int64), ((decide (z = 43) = true ∧ C = 10043) ∨ (decide (z = 43) = false ∧ C = 10045)) → (Option.bind (if z = (43 : Int64) then (some (1 : Int32)) else (some (0 : Int32))) (fun q41 => (Option.bind (f_X12_next h) (fun q44 => (Option.bind (r_X12 f 4 q44) (fun q48 => (if q41 = 0 then (l_X12_added_5 (r_X12 f) fu (v - q48.1) q48.2) else (l_X12_added_5 (r_X12 f) fu (v + q48.1) q48.2)))))))) = Option.bind (f_X12_next h) (fun q44 => Option.bind (r_X12 f 4 q44) (fun q48 => l_X12_added_5 (r_X12 f) fu (jn C v q48.1) q48.2)) := by
      intro C z hz
      rcases hz with ⟨z1, z2⟩ | ⟨z1, z2⟩
      · subst z2
        rw [if_pos (of_decide_eq_true z1)]; rfl
      · subst z2
        rw [if_neg (of_decide_eq_false z1)]; rfl
    rw [l_X12_added_5, w1, w2, Option.bind_some, Option.bind_some, lpC]
    by_cases c : tkc b n i = 10043
    · have e30 := MP_sgw hp (s := 43) (C := 10043) (by decide) (by decide) c
      rw [decide_eq_true c, if_pos rfl, if_pos (show opSum (tkc b n i) = true by rw [c]; rfl), sm 10043 (hL h 60 30) (Or.inl ⟨by rw [e30]; rfl, rfl⟩)]
      exact go 10043 (Or.inl rfl) c (fun _ => trivial)
    · rw [decide_eq_false c, if_neg (by decide)]
      by_cases c2 : tkc b n i = 10045
      · have e30 := MP_sgw hp (s := 45) (C := 10045) (by decide) (by decide) c2
        rw [decide_eq_true c2, if_pos rfl, if_pos (show opSum (tkc b n i) = true by rw [c2]; rfl), sm 10045 (hL h 60 30) (Or.inr ⟨by rw [e30]; rfl, rfl⟩)]
        exact go 10045 (Or.inr rfl) c2 (fun _ => trivial)
      · rw [decide_eq_false c2, if_neg (by decide), if_neg (by simp [opSum, c, c2])]
        exact ⟨v, h, rfl, hp, Fk.rf, hv⟩
theorem run_sk1 {c : List Int32} {v : Int32} (hv : ∀ st, runC ev c st = v :: st) : (∀ st, runC ev (c ++ [10001]) st = (-v) :: st) ∧ ∀ st, runC ev (c ++ [10212]) st = (if v = 0 then 1 else 0) :: st := by
  refine ⟨fun st => ?_, fun st => ?_⟩
  · rw [runC_app, hv, runC_1]; unfold stp; rw [if_neg (by decide), if_pos rfl]; rfl
  · rw [runC_app, hv, runC_1]; unfold stp; rw [if_neg (by decide), if_neg (by decide), if_pos rfl]; rfl
/-- after what was opened: one less is open -/
theorem MP_less {i : Nat} {h : HS} (hp : MP b n x i (o + 1) h) (ho : o ≤ 5) : MP b n x i o (sI h 60 32 (hI h 60 32 - 1)) ∧ Fk K7 h (sI h 60 32 (hI h 60 32 - 1)) := by
  have e : hI h 60 32 - 1 = nI o := by rw [hp.2.2.2.2.2]; exact nI_pred o
  rw [e]
  exact ⟨MP_open hp o, Fk.sI Fk.rf (by unfold K7; omega)⟩
theorem MF_less {j : Nat} {h : HS} {v : Int32} (hf : MF b n j h) : MF b n j (sI h 60 32 v) ∧ Fk K7 h (sI h 60 32 v) := ⟨hf.fk (K := fun k => k = 32) (Fk.sI Fk.rf rfl) (by decide) (by decide), Fk.sI Fk.rf (by unfold K7; omega)⟩
/-- what not reads, where it doesn't open -/
theorem L_mcmp {f : Nat} (hWb : Wby b n) (he : tkc b n e = 10300) (hrec : ∀ i h, i ≤ e → MP b n x i o h → EVm ev s h → Mres b n x o ev h (r_X12 f 3 h) (apC (tkc b n) f 3 o i)) (hl : PL e (apC (tkc b n) f 3 o)) {i : Nat} {h : HS} (hi : i ≤ e) (hp : MP b n x i o h) (hev : EVm ev s h) : Mres b n x o ev h (Option.bind (r_X12 f 3 h) (fun q4 => (Option.bind (f_X12_isSign (60 : Int32) q4.2) (fun q8 => (if q8 = true then (Option.bind (if (hL q4.2 60 30) = (60 : Int64) then (some (1 : Int32)) else (some (0 : Int32))) (fun q12 => (Option.bind (f_X12_next q4.2) (fun q15 => (Option.bind (r_X12 f 3 q15) (fun q19 => (if q12 = 0 then (if q4.1 = q19.1 then (some ((1 : Int32), q19.2)) else (some ((0 : Int32), q19.2))) else (if q19.1 ≤ q4.1 then (some ((0 : Int32), q19.2)) else (some ((1 : Int32), q19.2)))))))))) else (Option.bind (f_X12_isSign (61 : Int32) q4.2) (fun q26 => (if q26 = true then (Option.bind (if (hL q4.2 60 30) = (60 : Int64) then (some (1 : Int32)) else (some (0 : Int32))) (fun q30 => (Option.bind (f_X12_next q4.2) (fun q33 => (Option.bind (r_X12 f 3 q33) (fun q37 => (if q30 = 0 then (if q4.1 = q37.1 then (some ((1 : Int32), q37.2)) else (some ((0 : Int32), q37.2))) else (if q37.1 ≤ q4.1 then (some ((0 : Int32), q37.2)) else (some ((1 : Int32), q37.2)))))))))) else (some (q4.1, q4.2)))))))))) (pbn (apC (tkc b n) f 3 o i) (fun i' c => if opCmp (tkc b n i') = true then pbn (apC (tkc b n) f 3 o (i' + 1)) (fun i2 c2 => .inr (i2, c ++ c2 ++ [tkc b n i'])) else .inr (i', c))) := by
  have hr := hrec i h hi hp hev
  cases hq : apC (tkc b n) f 3 o i with
  | inl j =>
    rw [hq] at hr
    obtain ⟨w, h2', r1, r2, r3⟩ := hr
    rw [r1, Option.bind_some, pbn_l, MF_sign r2, MF_sign r2]
    exact ⟨w, h2', rfl, r2, r3⟩
  | inr q =>
    obtain ⟨i1, c1⟩ := q
    rw [hq] at hr
    obtain ⟨v, h1, r1, r2, r3, r4⟩ := hr
    obtain ⟨l1, l2, l3⟩ := hl _ _ _ hq hi
    have r2 : MP b n x i1 o h1 := r2
    have hev1 := hev.fk r3
    have w1 := MP_sign r2 (s := 60) (C := 10060) (by decide) (by decide)
    have w2 := MP_sign r2 (s := 61) (C := 10061) (by decide) (by decide)
    have go : ∀ (C : Int32), (C = 10060 ∨ C = 10061) → tkc b n i1 = C → Mres b n x o ev h (Option.bind (f_X12_next h1) (fun q15 => Option.bind (r_X12 f 3 q15) (fun q19 => some (jn C v q19.1, q19.2)))) (pbn (apC (tkc b n) f 3 o (i1 + 1)) (fun i2 c2 => .inr (i2, c1 ++ c2 ++ [tkc b n i1]))) := by
      intro C hC c
      have hlt := lt_e he l3 (fun z => by rw [c] at z; rcases hC with y | y <;> subst y <;> exact absurd z (by decide))
      obtain ⟨h1', s1, s2, s3⟩ := MP_next hWb r2 (by rw [c]; rcases hC with y | y <;> subst y <;> decide)
      have F1 : Fk K7 h1 h1' := s3.mono (fun _ q => K4_7 q)
      have hr := hrec (i1 + 1) h1' (by omega) s2 (hev1.fk F1)
      rw [s1, Option.bind_some]
      cases hq : apC (tkc b n) f 3 o (i1 + 1) with
      | inl j =>
        rw [hq] at hr
        obtain ⟨w, h2', u1, u2, u3⟩ := hr
        rw [u1, Option.bind_some, pbn_l]
        exact ⟨_, h2', rfl, u2, r3.tr (F1.tr u3)⟩
      | inr q =>
        obtain ⟨i2, c2⟩ := q
        rw [hq] at hr
        obtain ⟨w, h2', u1, u2, u3, u4⟩ := hr
        rw [u1, Option.bind_some, pbn_r]
        exact ⟨jn C v w, h2', rfl, u2, r3.tr (F1.tr u3), by rw [c]; exact run_jn (by rcases hC with y | y <;> subst y <;> decide) r4 u4⟩
    have sm : ∀ (C : Int32) (z : Int64), ((decide (z = 60) = true ∧ C = 10060) ∨ (decide (z = 60) = false ∧ C = 10061)) → (Option.bind (if z = (60 : Int64) then (some (1 : Int32)) else (some (0 : Int32))) (fun q12 => (Option.bind (f_X12_next h1) (fun q15 => (Option.bind (r_X12 f 3 q15) (fun q19 => (if q12 = 0 then (if v = q19.1 then (some ((1 : Int32), q19.2)) else (some ((0 : Int32), q19.2))) else (if q19.1 ≤ v then (some ((0 : Int32), q19.2)) else (some ((1 : Int32), q19.2)))))))))) = Option.bind (f_X12_next h1) (fun q15 => Option.bind (r_X12 f 3 q15) (fun q19 => some (jn C v q19.1, q19.2))) := by
      intro C z hz
      rcases hz with ⟨z1, z2⟩ | ⟨z1, z2⟩
      · subst z2
        rw [if_pos (of_decide_eq_true z1), Option.bind_some]
        refine congrArg (Option.bind (f_X12_next h1)) (funext fun q15 => congrArg (Option.bind (r_X12 f 3 q15)) (funext fun q19 => ?_))
        rw [if_neg (by decide), show jn 10060 v q19.1 = if q19.1 ≤ v then 0 else 1 from rfl]
        by_cases y : q19.1 ≤ v
        · rw [if_pos y, if_pos y]
        · rw [if_neg y, if_neg y]
      · subst z2
        rw [if_neg (of_decide_eq_false z1), Option.bind_some]
        refine congrArg (Option.bind (f_X12_next h1)) (funext fun q15 => congrArg (Option.bind (r_X12 f 3 q15)) (funext fun q19 => ?_))
        rw [if_pos rfl, show jn 10061 v q19.1 = if v = q19.1 then 1 else 0 from rfl]
        by_cases y : v = q19.1
        · rw [if_pos y, if_pos y]
        · rw [if_neg y, if_neg y]
    rw [r1, Option.bind_some, pbn_r, w1, w2, Option.bind_some, Option.bind_some]
    by_cases c : tkc b n i1 = 10060
    · have e30 := MP_sgw r2 (s := 60) (C := 10060) (by decide) (by decide) c
      rw [decide_eq_true c, if_pos rfl, if_pos (show opCmp (tkc b n i1) = true by rw [c]; rfl)]
      have g := go 10060 (Or.inl rfl) c
      rw [← sm 10060 (hL h1 60 30) (Or.inl ⟨by rw [e30]; rfl, rfl⟩)] at g
      exact g
    · rw [decide_eq_false c, if_neg (by decide)]
      by_cases c2 : tkc b n i1 = 10061
      · have e30 := MP_sgw r2 (s := 61) (C := 10061) (by decide) (by decide) c2
        rw [decide_eq_true c2, if_pos rfl, if_pos (show opCmp (tkc b n i1) = true by rw [c2]; rfl)]
        have g := go 10061 (Or.inr rfl) c2
        rw [← sm 10061 (hL h1 60 30) (Or.inr ⟨by rw [e30]; rfl, rfl⟩)] at g
        exact g
      · rw [decide_eq_false c2, if_neg (by decide), if_neg (by simp [opCmp, c, c2])]
        exact ⟨v, h1, rfl, r2, r3, r4⟩
end
