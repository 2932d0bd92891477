/-! ===== texts: the reference reads by the grammar ===== -/
def Mres (b : Nat → Int32) (n x o : Nat) (ev : Nat → Int32) (h : HS) (r : Option (Int32 × HS)) (q : PR) : Prop := match q with
  | .inl j => ∃ v h', r = some (v, h') ∧ MF b n j h' ∧ Fk K7 h h'
  | .inr q => ∃ v h', r = some (v, h') ∧ MP b n x q.1 o h' ∧ Fk K7 h h' ∧ ∀ st, runC ev q.2 st = v :: st
theorem Mres.tr {b : Nat → Int32} {n x o : Nat} {ev : Nat → Int32} {h h1 : HS} {r : Option (Int32 × HS)} {q : PR} (F : Fk K7 h h1) (m : Mres b n x o ev h1 r q) : Mres b n x o ev h r q := by
  cases q with
  | inl j =>
    obtain ⟨v, h', m1, m2, m3⟩ := m
    exact ⟨v, h', m1, m2, F.tr m3⟩
  | inr q =>
    obtain ⟨v, h', m1, m2, m3, m4⟩ := m
    exact ⟨v, h', m1, m2, F.tr m3, m4⟩
theorem Mres_l {b : Nat → Int32} {n x o j : Nat} {ev : Nat → Int32} {h : HS} {r : Option (Int32 × HS)} : Mres b n x o ev h r (.inl j) ↔ ∃ v h', r = some (v, h') ∧ MF b n j h' ∧ Fk K7 h h' := Iff.rfl
theorem Mres_r {b : Nat → Int32} {n x o i : Nat} {c : List Int32} {ev : Nat → Int32} {h : HS} {r : Option (Int32 × HS)} : Mres b n x o ev h r (.inr (i, c)) ↔ ∃ v h', r = some (v, h') ∧ MP b n x i o h' ∧ Fk K7 h h' ∧ ∀ st, runC ev c st = v :: st := Iff.rfl
theorem or_if {v w : Int32} {L : Int32 → Option (Int32 × HS)} : (if v = 0 then (if w = 0 then L 0 else L 1) else L 1) = L (jn 10210 v w) := by
  have e : jn 10210 v w = (if v = 0 then (if w = 0 then 0 else 1) else 1) := rfl
  rw [e]
  by_cases c : v = 0
  · rw [if_pos c, if_pos c]
    by_cases c2 : w = 0
    · rw [if_pos c2, if_pos c2]
    · rw [if_neg c2, if_neg c2]
  · rw [if_neg c, if_neg c]
theorem and_if {v w : Int32} {L : Int32 → Option (Int32 × HS)} : (if v = 0 then L 0 else (if w = 0 then L 0 else L 1)) = L (jn 10211 v w) := by
  have e : jn 10211 v w = (if v = 0 then 0 else (if w = 0 then 0 else 1)) := rfl
  rw [e]
  by_cases c : v = 0
  · rw [if_pos c, if_pos c]
  · rw [if_neg c, if_neg c]
    by_cases c2 : w = 0
    · rw [if_pos c2, if_pos c2]
    · rw [if_neg c2, if_neg c2]
theorem stp_jn {ev : Nat → Int32} {t v w : Int32} {st : List Int32} (ht : t = 10210 ∨ t = 10211 ∨ t = 10042 ∨ t = 10043 ∨ t = 10045 ∨ t = 10060 ∨ t = 10061) : stp ev t (w :: v :: st) = jn t v w :: st := by
  unfold stp
  rcases ht with e | e | e | e | e | e | e <;> subst e <;> (rw [if_neg (by decide), if_neg (by decide), if_neg (by decide)]; rfl)
theorem run_jn {ev : Nat → Int32} {t v w : Int32} {c d : List Int32} (ht : t = 10210 ∨ t = 10211 ∨ t = 10042 ∨ t = 10043 ∨ t = 10045 ∨ t = 10060 ∨ t = 10061) (hv : ∀ st, runC ev c st = v :: st) (hw : ∀ st, runC ev d st = w :: st) : ∀ st, runC ev (c ++ d ++ [t]) st = jn t v w :: st := fun st => by
  rw [runC_app, runC_app, hv, hw, runC_1, stp_jn ht]
section
variable {b : Nat → Int32} {n x o e s : Nat} {ev : Nat → Int32}
theorem MF_either {rc : Nat → HS → Option (Int32 × HS)} {f j : Nat} {v : Int32} {h : HS} (hf : MF b n j h) (h0 : 0 < f) : l_X12_either_5 rc f v h = some (v, h) := by
  obtain ⟨f, rfl⟩ : ∃ f', f = f' + 1 := ⟨f - 1, by omega⟩
  rw [l_X12_either_5, MF_word hf]
  rfl
theorem L_meither {f : Nat} (hWb : Wby b n) (he : tkc b n e = 10300) (hrec : ∀ i h, i ≤ e → MP b n x i o h → EVm ev s h → Mres b n x o ev h (r_X12 f 1 h) (apC (tkc b n) f 1 o i)) (hl : PL e (apC (tkc b n) f 1 o)) : ∀ (d i : Nat) (c : List Int32) (v : Int32) (h : HS) (fu : Nat), e < i + d → d < fu → i ≤ e → MP b n x i o h → EVm ev s h → (∀ st, runC ev c st = v :: st) → Mres b n x o ev h (l_X12_either_5 (r_X12 f) fu v h) (lpC (apC (tkc b n) f 1 o) opOr (tkc b n) d i c) := by
  intro d
  induction d with
  | zero => intro i c v h fu h1 h2 h3; omega
  | succ d ih =>
    intro i cc v h fu h1 h2 h3 hp hev hv
    obtain ⟨fu, rfl⟩ : ∃ f', fu = f' + 1 := ⟨fu - 1, by omega⟩
    rw [l_X12_either_5, MP_word hp wc_or (by decide), Option.bind_some, lpC]
    by_cases c : tkc b n i = 10210
    · have hlt := lt_e he h3 (fun z => by rw [c] at z; exact absurd z (by decide))
      obtain ⟨h1', s1, s2, s3⟩ := MP_next hWb hp (by rw [c]; decide)
      have F1 : Fk K7 h h1' := s3.mono (fun _ q => K4_7 q)
      have hev1 := hev.fk F1
      have hr := hrec (i + 1) h1' (by omega) s2 hev1
      rw [decide_eq_true c, if_pos rfl, if_pos (by rw [c]; rfl), s1, Option.bind_some]
      cases hq : apC (tkc b n) f 1 o (i + 1) with
      | inl j =>
        rw [hq] at hr
        obtain ⟨w, h2', r1, r2, r3⟩ := hr
        rw [r1, Option.bind_some, pbn_l]
        have ei := or_if (v := v) (w := w) (L := fun y => l_X12_either_5 (r_X12 f) fu y h2')
        show Mres _ _ _ _ _ _ (if v = 0 then (if w = 0 then l_X12_either_5 (r_X12 f) fu 0 h2' else l_X12_either_5 (r_X12 f) fu 1 h2') else l_X12_either_5 (r_X12 f) fu 1 h2') _
        rw [ei]
        rw [MF_either r2 (by omega)]
        exact ⟨_, h2', rfl, r2, F1.tr r3⟩
      | inr q =>
        obtain ⟨i1, c1⟩ := q
        rw [hq] at hr
        obtain ⟨w, h2', r1, r2, r3, r4⟩ := hr
        obtain ⟨l1, l2, l3⟩ := hl _ _ _ hq (by omega)
        rw [r1, Option.bind_some, pbn_r]
        have ei := or_if (v := v) (w := w) (L := fun y => l_X12_either_5 (r_X12 f) fu y h2')
        show Mres _ _ _ _ _ _ (if v = 0 then (if w = 0 then l_X12_either_5 (r_X12 f) fu 0 h2' else l_X12_either_5 (r_X12 f) fu 1 h2') else l_X12_either_5 (r_X12 f) fu 1 h2') _
        rw [ei]
        exact (ih i1 (cc ++ c1 ++ [tkc b n i]) (jn 10210 v w) h2' fu (by omega) (by omega) l3 r2 (hev1.fk r3) (by rw [c]; exact run_jn (by decide) hv r4)).tr (F1.tr r3)
    · rw [decide_eq_false c, if_neg (by decide), if_neg (by simp [opOr, c])]
      exact ⟨v, h, rfl, hp, Fk.rf, hv⟩
theorem MF_both {rc : Nat → HS → Option (Int32 × HS)} {f j : Nat} {v : Int32} {h : HS} (hf : MF b n j h) (h0 : 0 < f) : l_X12_both_5 rc f v h = some (v, h) := by
  obtain ⟨f, rfl⟩ : ∃ f', f = f' + 1 := ⟨f - 1, by omega⟩
  rw [l_X12_both_5, MF_word hf]
  rfl
theorem L_mboth {f : Nat} (hWb : Wby b n) (he : tkc b n e = 10300) (hrec : ∀ i h, i ≤ e → MP b n x i o h → EVm ev s h → Mres b n x o ev h (r_X12 f 2 h) (apC (tkc b n) f 2 o i)) (hl : PL e (apC (tkc b n) f 2 o)) : ∀ (d i : Nat) (c : List Int32) (v : Int32) (h : HS) (fu : Nat), e < i + d → d < fu → i ≤ e → MP b n x i o h → EVm ev s h → (∀ st, runC ev c st = v :: st) → Mres b n x o ev h (l_X12_both_5 (r_X12 f) fu v h) (lpC (apC (tkc b n) f 2 o) opAnd (tkc b n) d i c) := by
  intro d
  induction d with
  | zero => intro i c v h fu h1 h2 h3; omega
  | succ d ih =>
    intro i cc v h fu h1 h2 h3 hp hev hv
    obtain ⟨fu, rfl⟩ : ∃ f', fu = f' + 1 := ⟨fu - 1, by omega⟩
    rw [l_X12_both_5, MP_word hp wc_and (by decide), Option.bind_some, lpC]
    by_cases c : tkc b n i = 10211
    · have hlt := lt_e he h3 (fun z => by rw [c] at z; exact absurd z (by decide))
      obtain ⟨h1', s1, s2, s3⟩ := MP_next hWb hp (by rw [c]; decide)
      have F1 : Fk K7 h h1' := s3.mono (fun _ q => K4_7 q)
      have hev1 := hev.fk F1
      have hr := hrec (i + 1) h1' (by omega) s2 hev1
      rw [decide_eq_true c, if_pos rfl, if_pos (by rw [c]; rfl), s1, Option.bind_some]
      cases hq : apC (tkc b n) f 2 o (i + 1) with
      | inl j =>
        rw [hq] at hr
        obtain ⟨w, h2', r1, r2, r3⟩ := hr
        rw [r1, Option.bind_some, pbn_l]
        have ei := and_if (v := v) (w := w) (L := fun y => l_X12_both_5 (r_X12 f) fu y h2')
        show Mres _ _ _ _ _ _ (if v = 0 then l_X12_both_5 (r_X12 f) fu 0 h2' else (if w = 0 then l_X12_both_5 (r_X12 f) fu 0 h2' else l_X12_both_5 (r_X12 f) fu 1 h2')) _
        rw [ei]
        rw [MF_both r2 (by omega)]
        exact ⟨_, h2', rfl, r2, F1.tr r3⟩
      | inr q =>
        obtain ⟨i1, c1⟩ := q
        rw [hq] at hr
        obtain ⟨w, h2', r1, r2, r3, r4⟩ := hr
        obtain ⟨l1, l2, l3⟩ := hl _ _ _ hq (by omega)
        rw [r1, Option.bind_some, pbn_r]
        have ei := and_if (v := v) (w := w) (L := fun y => l_X12_both_5 (r_X12 f) fu y h2')
        show Mres _ _ _ _ _ _ (if v = 0 then l_X12_both_5 (r_X12 f) fu 0 h2' else (if w = 0 then l_X12_both_5 (r_X12 f) fu 0 h2' else l_X12_both_5 (r_X12 f) fu 1 h2')) _
        rw [ei]
        exact (ih i1 (cc ++ c1 ++ [tkc b n i]) (jn 10211 v w) h2' fu (by omega) (by omega) l3 r2 (hev1.fk r3) (by rw [c]; exact run_jn (by decide) hv r4)).tr (F1.tr r3)
    · rw [decide_eq_false c, if_neg (by decide), if_neg (by simp [opAnd, c])]
      exact ⟨v, h, rfl, hp, Fk.rf, hv⟩
theorem MF_term {rc : Nat → HS → Option (Int32 × HS)} {f j : Nat} {v : Int32} {h : HS} (hf : MF b n j h) (h0 : 0 < f) : l_X12_term_5 rc f v h = some (v, h) := by
  obtain ⟨f, rfl⟩ : ∃ f', f = f' + 1 := ⟨f - 1, by omega⟩
  rw [l_X12_term_5, MF_sign hf]
  rfl
theorem L_mterm {f : Nat} (hWb : Wby b n) (he : tkc b n e = 10300) (hrec : ∀ i h, i ≤ e → MP b n x i o h → EVm ev s h → Mres b n x o ev h (r_X12 f 5 h) (apC (tkc b n) f 5 o i)) (hl : PL e (apC (tkc b n) f 5 o)) : ∀ (d i : Nat) (c : List Int32) (v : Int32) (h : HS) (fu : Nat), e < i + d → d < fu → i ≤ e → MP b n x i o h → EVm ev s h → (∀ st, runC ev c st = v :: st) → Mres b n x o ev h (l_X12_term_5 (r_X12 f) fu v h) (lpC (apC (tkc b n) f 5 o) opMul (tkc b n) d i c) := by
  intro d
  induction d with
  | zero => intro i c v h fu h1 h2 h3; omega
  | succ d ih =>
    intro i cc v h fu h1 h2 h3 hp hev hv
    obtain ⟨fu, rfl⟩ : ∃ f', fu = f' + 1 := ⟨fu - 1, by omega⟩
    rw [l_X12_term_5, MP_sign hp (s := 42) (C := 10042) (by decide) (by decide), Option.bind_some, lpC]
    by_cases c : tkc b n i = 10042
    · have hlt := lt_e he h3 (fun z => by rw [c] at z; exact absurd z (by decide))
      obtain ⟨h1', s1, s2, s3⟩ := MP_next hWb hp (by rw [c]; decide)
      have F1 : Fk K7 h h1' := s3.mono (fun _ q => K4_7 q)
      have hev1 := hev.fk F1
      have hr := hrec (i + 1) h1' (by omega) s2 hev1
      rw [decide_eq_true c, if_pos rfl, if_pos (by rw [c]; rfl), s1, Option.bind_some]
      cases hq : apC (tkc b n) f 5 o (i + 1) with
      | inl j =>
        rw [hq] at hr
        obtain ⟨w, h2', r1, r2, r3⟩ := hr
        rw [r1, Option.bind_some, pbn_l]
        show Mres _ _ _ _ _ _ (l_X12_term_5 (r_X12 f) fu (jn 10042 v w) h2') _
        rw [MF_term r2 (by omega)]
        exact ⟨_, h2', rfl, r2, F1.tr r3⟩
      | inr q =>
        obtain ⟨i1, c1⟩ := q
        rw [hq] at hr
        obtain ⟨w, h2', r1, r2, r3, r4⟩ := hr
        obtain ⟨l1, l2, l3⟩ := hl _ _ _ hq (by omega)
        rw [r1, Option.bind_some, pbn_r]
        show Mres _ _ _ _ _ _ (l_X12_term_5 (r_X12 f) fu (jn 10042 v w) h2') _
        exact (ih i1 (cc ++ c1 ++ [tkc b n i]) (jn 10042 v w) h2' fu (by omega) (by omega) l3 r2 (hev1.fk r3) (by rw [c]; exact run_jn (by decide) hv r4)).tr (F1.tr r3)
    · rw [decide_eq_false c, if_neg (by decide), if_neg (by simp [opMul, c])]
      exact ⟨v, h, rfl, hp, Fk.rf, hv⟩
end
