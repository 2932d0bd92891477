/-! ===== the grid of the class ===== -/
def Gz (h : HS) : Prop := (∀ q, q < 20 → hI h 49 q = 0) ∧ ∀ p, p < 20 → hI h 49 (p * 20) = 0
def Gd (F : Int → Int → Bool) (i j : Nat) (h : HS) : Prop := ∀ p q, p < 20 → q < 20 → (p < i ∨ (p = i ∧ q < j)) → hI h 49 (p * 20 + q) = nI (gsum F p q)
theorem gsum_0r (F : Int → Int → Bool) (j : Nat) : gsum F 0 j = 0 := rfl
theorem gsum_0c (F : Int → Int → Bool) (i : Nat) : gsum F i 0 = 0 := by
  have := gsum_le F i 0
  omega
theorem gsum_s (F : Int → Int → Bool) (i j : Nat) : gsum F (i + 1) j = gsum F i j + cntF (F (-9 + i)) j (-9) := by
  unfold gsum
  rw [cnt2F_add]
  rfl
theorem cntF_s (f : Int → Bool) (j : Nat) (b : Int) : cntF f (j + 1) b = cntF f j b + if f (b + j) = true then 1 else 0 := by
  rw [cntF_add]
  rfl
theorem idx_9 {i : Nat} (h : i ≤ 100) : (nI (i + 1) - (1 : Int32) - (9 : Int32)).toInt = -9 + (i : Int) := by
  have e9 : (9 : Int32).toInt = 9 := rfl
  rw [nI_pred, i32_subZ (by rw [nI_Z (by omega), e9]; omega) (by rw [nI_Z (by omega), e9]; omega), nI_Z (by omega), e9]
  omega
theorem L_xfill2 {S : TB} {tg : Nat → Nat} {i0 a : Nat} (hW : Wst S) (hi0 : i0 < S.1) (h8 : S.1 ≤ 8) {e : Int32} (he : 0 ≤ e.toInt ∧ e.toInt ≤ 1) {i : Nat} (h2 : i < 19) : ∀ (d j f : Nat) (h : HS), j + d = 19 → d < f → Ost S tg h i0 a → Wx tg h → Gz h → Gd (wonZ (S.2 0 i0).toInt (S.2 2 i0).toInt e.toInt) (i + 1) (j + 1) h → ∃ h', l_X2_fill_30 a e (nI (i + 1)) f (nI (cntF (wonZ (S.2 0 i0).toInt (S.2 2 i0).toInt e.toInt (-9 + i)) j (-9))) (nI (j + 1)) h = some h' ∧ Ost S tg h' i0 a ∧ Wx tg h' ∧ Gz h' ∧ Gd (wonZ (S.2 0 i0).toInt (S.2 2 i0).toInt e.toInt) (i + 2) 0 h' ∧ Fx (fun b => b = 49) h h' := by
  generalize hF : wonZ (S.2 0 i0).toInt (S.2 2 i0).toInt e.toInt = F
  intro d
  induction d with
  | zero =>
    intro j f h hj hf ho hw hz hd
    obtain ⟨f, rfl⟩ : ∃ f', f = f' + 1 := ⟨f - 1, by omega⟩
    have : j = 19 := by omega
    subst this
    refine ⟨h, ?_, ho, hw, hz, fun p q hp hq c => hd p q hp hq (by omega), Fx.rf⟩
    rw [l_X2_fill_30, if_pos (by decide)]
  | succ d ih =>
    intro j f h hj hf ho hw hz hd
    obtain ⟨f, rfl⟩ : ∃ f', f = f' + 1 := ⟨f - 1, by omega⟩
    have h20 : ¬ (20 : Int32) ≤ nI (j + 1) := by rw [show (20 : Int32) = nI 20 from rfl]; exact nI_ge (by omega) (by decide)
    have ei := idx_9 (i := i) (by omega)
    have ej := idx_9 (i := j) (by omega)
    have hp := ho.won hW hi0 (e := e) (a := nI (i + 1) - (1 : Int32) - (9 : Int32)) (b := nI (j + 1) - (1 : Int32) - (9 : Int32)) he (by omega) (by omega)
    rw [ei, ej, hF] at hp
    have m1 : (nI (i + 1) - (1 : Int32)) * (20 : Int32) + nI (j + 1) = nI (i * 20 + (j + 1)) := by rw [nI_pred, show (20 : Int32) = nI 20 from rfl, pk_mul, nI_add]
    have m2 : nI (i + 1) * (20 : Int32) + nI (j + 1) = nI ((i + 1) * 20 + (j + 1)) := by rw [show (20 : Int32) = nI 20 from rfl, pk_mul, nI_add]
    have x1 := ixb_n (i := i * 20 + (j + 1)) (n := 400) (by omega) (by decide)
    have x2 := ixb_n (i := (i + 1) * 20 + (j + 1)) (n := 400) (by omega) (by decide)
    have c1 : (nI (i * 20 + (j + 1))).toNatClampNeg = i * 20 + (j + 1) := nI_clamp (by omega)
    have c2 : (nI ((i + 1) * 20 + (j + 1))).toNatClampNeg = (i + 1) * 20 + (j + 1) := nI_clamp (by omega)
    have hup := hd i (j + 1) (by omega) (by omega) (Or.inl (by omega))
    have hcs := cntF_s (F (-9 + i)) j (-9)
    have hgs := gsum_s F i (j + 1)
    have step : l_X2_fill_30 a e (nI (i + 1)) (f + 1) (nI (cntF (F (-9 + i)) j (-9))) (nI (j + 1)) h = l_X2_fill_30 a e (nI (i + 1)) f (nI (cntF (F (-9 + i)) (j + 1) (-9))) (nI (j + 1 + 1)) (sI h 49 ((i + 1) * 20 + (j + 1)) (nI (gsum F (i + 1) (j + 1)))) := by
      rw [l_X2_fill_30, if_neg h20, hp, Option.bind_some, m1, m2, hgs, hcs]
      cases F (-9 + i) (-9 + j)
      · rw [if_neg (by decide), if_neg (by decide), Option.bind_some, if_pos x1, if_pos x2, c1, c2, hup, nI_1, nI_add]
        rfl
      · rw [if_pos rfl, if_pos rfl, Option.bind_some, if_pos x1, if_pos x2, c1, c2, hup, nI_1, nI_1, nI_add]
    rw [step]
    have F1 : Fx (fun b => b = 49) h (sI h 49 ((i + 1) * 20 + (j + 1)) (nI (gsum F (i + 1) (j + 1)))) := Fx.sI Fx.rf (Or.inl rfl)
    have ha := hw.1 a (by have := ho.1; omega)
    obtain ⟨h', s1, s2, s3, s4, s5, s6⟩ := ih (j + 1) f _ (by omega) (by omega) (ho.fx hw F1 (fun _ _ => rfl) (by omega)) hw.sI ⟨fun q hq => by rw [hI_sI, if_pos rfl, if_neg (by omega)]; exact hz.1 q hq, fun p hp => by rw [hI_sI, if_pos rfl, if_neg (by omega)]; exact hz.2 p hp⟩ (fun p q hp hq c => by
      rw [hI_sI, if_pos rfl]
      by_cases e : p = i + 1 ∧ q = j + 1
      · obtain ⟨e1, e2⟩ := e
        subst e1; subst e2
        rw [if_pos rfl]
      · rw [if_neg (by omega)]
        exact hd p q hp hq (by omega))
    exact ⟨h', s1, s2, s3, s4, s5, F1.tr s6⟩
theorem L_xfill1 {S : TB} {tg : Nat → Nat} {i0 a : Nat} (hW : Wst S) (hi0 : i0 < S.1) (h8 : S.1 ≤ 8) {e : Int32} (he : 0 ≤ e.toInt ∧ e.toInt ≤ 1) : ∀ (d i f : Nat) (h : HS), i + d = 19 → d < f → Ost S tg h i0 a → Wx tg h → Gz h → Gd (wonZ (S.2 0 i0).toInt (S.2 2 i0).toInt e.toInt) (i + 1) 0 h → ∃ h', l_X2_fill_18 a e f (nI (i + 1)) h = some h' ∧ Ost S tg h' i0 a ∧ Wx tg h' ∧ Gz h' ∧ Gd (wonZ (S.2 0 i0).toInt (S.2 2 i0).toInt e.toInt) 20 0 h' ∧ Fx (fun b => b = 49) h h' := by
  intro d
  induction d with
  | zero =>
    intro i f h hi hf ho hw hz hd
    obtain ⟨f, rfl⟩ : ∃ f', f = f' + 1 := ⟨f - 1, by omega⟩
    have : i = 19 := by omega
    subst this
    refine ⟨h, ?_, ho, hw, hz, hd, Fx.rf⟩
    rw [l_X2_fill_18, if_pos (by decide)]
  | succ d ih =>
    intro i f h hi hf ho hw hz hd
    obtain ⟨f, rfl⟩ : ∃ f', f = f' + 1 := ⟨f - 1, by omega⟩
    have h20 : ¬ (20 : Int32) ≤ nI (i + 1) := by rw [show (20 : Int32) = nI 20 from rfl]; exact nI_ge (by omega) (by decide)
    obtain ⟨h1, s1, s2, s3, s4, s5, s6⟩ := L_xfill2 (a := a) hW hi0 h8 he (i := i) (by omega) 19 0 1000 h (by omega) (by omega) ho hw hz (fun p q hp hq c => by
      by_cases e : p = i + 1 ∧ q = 0
      · obtain ⟨e1, e2⟩ := e
        subst e1; subst e2
        rw [gsum_0c]
        exact hz.2 (i + 1) hp
      · exact hd p q hp hq (by omega))
    have s1' : l_X2_fill_30 a e (nI (i + 1)) 1000 (0 : Int32) (1 : Int32) h = some h1 := s1
    obtain ⟨h', r1, r2, r3, r4, r5, r6⟩ := ih (i + 1) f h1 (by omega) (by omega) s2 s3 s4 s5
    refine ⟨h', ?_, r2, r3, r4, r5, s6.tr r6⟩
    rw [l_X2_fill_18, if_neg h20, s1', Option.bind_some, nI_1, r1]
/-- a grid that is filled: with what, about which peg -/
def Xgr (F : Int → Int → Bool) (p : Int32) (h : HS) : Prop := Gz h ∧ Gd F 20 0 h ∧ hI h 48 1 = p / 100 ∧ hI h 48 2 = p - p / 100 * 100
theorem X_fill {S : TB} {tg : Nat → Nat} {h : HS} {i0 a : Nat} (hW : Wst S) (hi0 : i0 < S.1) (h8 : S.1 ≤ 8) (ho : Ost S tg h i0 a) (hw : Wx tg h) (hz : Gz h) {e : Int32} (he : 0 ≤ e.toInt ∧ e.toInt ≤ 1) : ∃ h', f_X2_fill a e h = some h' ∧ Xgr (wonZ (S.2 0 i0).toInt (S.2 2 i0).toInt e.toInt) (S.2 1 i0) h' ∧ Ost S tg h' i0 a ∧ Wx tg h' ∧ Fx (fun b => b = 48 ∨ b = 49) h h' := by
  have ha := hw.1 a (by have := ho.1; omega)
  have hne : ¬ a = 48 := by omega
  have F1 : Fx (fun b => b = 48) h (sI (sI h 48 1 (S.2 1 i0 / 100)) 48 2 (S.2 1 i0 - S.2 1 i0 / 100 * 100)) := Fx.sI (Fx.sI Fx.rf (Or.inl rfl)) (Or.inl rfl)
  have hz1 : Gz (sI (sI h 48 1 (S.2 1 i0 / 100)) 48 2 (S.2 1 i0 - S.2 1 i0 / 100 * 100)) := ⟨fun q hq => by simp (config := { decide := true }) only [hI_sI, if_false]; exact hz.1 q hq, fun q hq => by simp (config := { decide := true }) only [hI_sI, if_false]; exact hz.2 q hq⟩
  obtain ⟨h', r1, r2, r3, r4, r5, r6⟩ := L_xfill1 (a := a) hW hi0 h8 he 19 0 1000 (sI (sI h 48 1 (S.2 1 i0 / 100)) 48 2 (S.2 1 i0 - S.2 1 i0 / 100 * 100)) (by omega) (by omega) (ho.fx hw F1 (fun _ _ => rfl) hne) hw.sI.sI hz1 (fun p q hp hq c => by
    have : p = 0 := by omega
    subst this
    rw [gsum_0r, Nat.zero_mul, Nat.zero_add]
    exact hz1.1 q hq)
  have r1' : l_X2_fill_18 a e 1000 (1 : Int32) (sI (sI h 48 1 (S.2 1 i0 / 100)) 48 2 (S.2 1 i0 - S.2 1 i0 / 100 * 100)) = some h' := r1
  have q1 := (r6.2 48 (by have := hw.2.2; simp only [hN_sI]; omega) (by decide)).1
  refine ⟨h', ?_, ⟨r4, r5, by rw [q1]; simp (config := { decide := true }) only [hI_sI, if_true, if_false], by rw [q1]; simp (config := { decide := true }) only [hI_sI, if_true]⟩, r2, r3, (F1.mono (fun _ _ => Or.inl)).tr (r6.mono (fun _ _ => Or.inr))⟩
  unfold f_X2_fill
  rw [if_pos (by rw [ho.2.1]; exact kcl_st _)]
  simp only [hI_sI, if_neg hne, ho.2.2.2.1, ho.2.2.2.2.1, r1', Option.bind_some]
