/-! ===== players: one is played out in the class ===== -/
theorem L_xpl {S : TB} {X : XT} {p i : Nat} {th : Int32} {tg : Nat → Nat} {a : Nat} {y : Int64} {wb : Nat → Bool} (hWX : Wtx X) (hp : p < X.1) (hi : i < 8) (hy : ∀ v, v < 40 → bt y v = wb v) : ∀ (d t w f : Nat) (c : Int32) (h : HS), t + d = 40 → w ≤ t → d < f → PY S X p i th tg a h → ∃ h', l_X11_playOut_9 a y f (nI t) (nI w) c h = some (nI (plG (S.2 3 i) wb (goS S X p i th) d t w c).1, nI (plG (S.2 3 i) wb (goS S X p i th) d t w c).2.1, (plG (S.2 3 i) wb (goS S X p i th) d t w c).2.2, h') ∧ PY S X p i th tg a h' ∧ Fx (AP tg) h h' := by
  intro d
  induction d with
  | zero =>
    intro t w f c h ht hwt hf P
    obtain ⟨f, rfl⟩ : ∃ f', f = f' + 1 := ⟨f - 1, by omega⟩
    have : t = 40 := by omega
    subst this
    exact ⟨h, by rw [l_X11_playOut_9, if_pos (by decide), plG], P, Fx.rf⟩
  | succ d ih =>
    intro t w f c h ht hwt hf P
    obtain ⟨f, rfl⟩ : ∃ f', f = f' + 1 := ⟨f - 1, by omega⟩
    have oa := P.2.2.2.2.1
    have hst : isSt (hT h a) = true := by rw [oa.2.1]; exact kcl_st _
    have p4 : hI h a 4 = S.2 3 i := oa.2.2.2.2.2.2.1
    rw [l_X11_playOut_9, if_neg (by rw [show (40 : Int32) = nI 40 from rfl]; exact nI_ge (by omega) (by decide)), if_pos hst, p4, plG]
    by_cases c1 : c < S.2 3 i
    · rw [if_pos c1, if_pos c1]; exact ⟨h, rfl, P, Fx.rf⟩
    · obtain ⟨h1, s1, s2, s3⟩ := X_goesOn hWX hp hi P (show t < 40 by omega) hwt
      rw [if_neg c1, if_neg c1, s1, Option.bind_some]
      have p41 : hI h1 a 4 = S.2 3 i := s2.2.2.2.2.1.2.2.2.2.2.2.1
      by_cases c2 : goS S X p i th w t = true
      · rw [if_pos c2, if_pos c2]
        have hyt := hy t (by omega)
        obtain ⟨h', u1, u2, u3⟩ := ih (t + 1) (w + if wb t = true then 1 else 0) f (c - S.2 3 i) h1 (by omega) (by split <;> omega) (by omega) s2
        refine ⟨h', ?_, u2, s3.tr u3⟩
        rw [nI_1, p41]
        cases hb : wb t
        · rw [hb, if_neg Bool.false_ne_true, Nat.add_zero] at u1
          rw [hb] at hyt
          rw [if_neg (fun z => by have := (bt_sh (by omega)).mp z; rw [hyt] at this; cases this), Option.bind_some, show nI w + (0 : Int32) = nI w from nI_add w 0]
          exact u1
        · rw [hb, if_pos rfl] at u1
          rw [hb] at hyt
          rw [if_pos ((bt_sh (by omega)).mpr hyt), Option.bind_some, show nI w + (1 : Int32) = nI (w + 1) from nI_add w 1]
          exact u1
      · rw [if_neg c2, if_neg c2]; exact ⟨h1, rfl, s2, s3⟩
/-- the four that are told of one who was played out -/
def ouS (S : TB) (i : Nat) (r : Nat × Nat × Int32) (k : Nat) : Int32 := if k = 0 then nI r.1 else if k = 1 then nI r.2.1 else if k = 2 then r.2.2 else nI r.1 * S.2 3 i - nI r.2.1 * S.2 4 i
theorem X_playOut {S : TB} {X : XT} {p i : Nat} {th : Int32} {tg : Nat → Nat} {a : Nat} {y : Int64} {wb : Nat → Bool} {h : HS} (hWX : Wtx X) (hp : p < X.1) (hi : i < 8) (hy : ∀ v, v < 40 → bt y v = wb v) (P : PY S X p i th tg a h) (c : Int32) : ∃ h', f_X11_playOut a c y h = some h' ∧ (∀ k, k < 4 → hI h' 51 k = ouS S i (plG (S.2 3 i) wb (goS S X p i th) 40 0 0 c) k) ∧ PY S X p i th tg a h' ∧ Fx (AP tg) h h' := by
  obtain ⟨h1, s1, s2, s3⟩ := L_xpl (wb := wb) hWX hp hi hy 40 0 0 1000 c h (by omega) (by omega) (by omega) P
  have s1' : l_X11_playOut_9 a y 1000 (0 : Int32) (0 : Int32) c h = _ := s1
  obtain ⟨r, hr⟩ : ∃ r, r = plG (S.2 3 i) wb (goS S X p i th) 40 0 0 c := ⟨_, rfl⟩
  rw [← hr] at s1' ⊢
  have oa := s2.2.2.2.2.1
  have ha := s2.2.2.1.1 a (by have := oa.1; omega)
  have n51 : ¬ a = 51 := by omega
  have hst : isSt (hT h1 a) = true := by rw [oa.2.1]; exact kcl_st _
  have p4 : hI h1 a 4 = S.2 3 i := oa.2.2.2.2.2.2.1
  have p5 : hI h1 a 5 = S.2 4 i := oa.2.2.2.2.2.2.2.1
  obtain ⟨g, hg⟩ : ∃ g, g = sI (sI (sI (sI h1 51 0 (nI r.1)) 51 1 (nI r.2.1)) 51 2 r.2.2) 51 3 (nI r.1 * S.2 3 i - nI r.2.1 * S.2 4 i) := ⟨_, rfl⟩
  have F1 : Fx (AP tg) h1 g := by rw [hg]; exact Fx.sI (Fx.sI (Fx.sI (Fx.sI Fx.rf (Or.inl (Or.inr (Or.inl rfl)))) (Or.inl (Or.inr (Or.inl rfl)))) (Or.inl (Or.inr (Or.inl rfl)))) (Or.inl (Or.inr (Or.inl rfl)))
  refine ⟨g, ?_, fun k hk => ?_, ?_, s3.tr F1⟩
  · unfold f_X11_playOut
    have rd : ∀ (x : HS) k u j, hI (sI x 51 k u) a j = hI x a j := fun x k u j => by rw [hI_sI, if_neg n51]
    rw [s1', Option.bind_some, hT_sI, hT_sI, hT_sI, if_pos hst, bh_eq, rd, rd, rd, rd, rd, rd, p4, p5, hg]
    rfl
  · unfold ouS
    have : k = 0 ∨ k = 1 ∨ k = 2 ∨ k = 3 := by omega
    rcases this with e | e | e | e <;> subst e <;> simp [hg, hI_sI]
  · refine s2.fx hi F1 (by rw [hg]; exact s2.2.2.1) (fun w t k hk => ?_) (fun t ht w hw => ?_)
    · rw [hg, hI_sI, if_neg (by decide), hI_sI, if_neg (by decide), hI_sI, if_neg (by decide), hI_sI, if_neg (by decide)]
      exact s2.2.2.2.2.2.1 w t k hk
    · rw [hg]; exact s2.2.2.2.2.2.2 t ht w hw
