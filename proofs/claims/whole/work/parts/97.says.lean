/-! ===== hours, told 8, says, year ===== -/
def evS (S : TB) (i : Nat) (o w t : Int32) : Nat → Int32 := fun k => if k = 0 then o else if k = 1 then S.2 3 i else if k = 2 then S.2 4 i else if k = 3 then S.2 5 i else if k = 4 then w else t
def clH (v : Int32) : Int32 := if 1 ≤ v then (if v ≤ 99 then v else 99) else 1
theorem clH_x (v : Int32) : (if (1 : Int32) < (if v < (99 : Int32) then v else (99 : Int32)) then (if v < (99 : Int32) then v else (99 : Int32)) else (1 : Int32)) = clH v := by
  have e1 : (1 : Int32).toInt = 1 := rfl
  have e99 : (99 : Int32).toInt = 99 := rfl
  unfold clH
  by_cases c : v < 99
  · rw [if_pos c]
    have c' := c
    rw [i32_lt0, e99] at c'
    by_cases d : (1 : Int32) < v
    · have d' := d
      rw [i32_lt0, e1] at d'
      rw [if_pos d, if_pos (by rw [i32_le0, e1]; omega), if_pos (by rw [i32_le0, e99]; omega)]
    · rw [if_neg d]
      by_cases g : (1 : Int32) ≤ v
      · rw [if_pos g, if_pos (by rw [i32_le0, e99]; omega)]
        rw [i32_lt0, e1] at d
        rw [i32_le0, e1] at g
        rw [i32_eqZ, e1]; omega
      · rw [if_neg g]
  · rw [if_neg c, if_pos (by decide)]
    rw [i32_lt0, e99] at c
    rw [if_pos (by rw [i32_le0, e1]; omega)]
    by_cases g : v ≤ 99
    · rw [if_pos g]
      rw [i32_le0, e99] at g
      rw [i32_eqZ, e99]; omega
    · rw [if_neg g]
def a_hrs (S : TB) (X : XT) (p i : Nat) : Int32 := clH (vR X p (evS S i 0 0 0) 2)
def KR (k : Nat) : Prop := 26 ≤ k ∧ k ≤ 38
theorem M_ruleS {S : TB} {X : XT} {p i : Nat} {h : HS} (hS : Mst S h) (hX : Mtx X h) (hW : Wtx X) (hp : p < X.1) (h4 : hI h 60 4 = nI p) (hi : i < S.1) (o w t k : Int32) : ∃ h', f_X12_read (hI h 60 4) (nI i) o w t k h = some (vR X p (evS S i o w t) k, h') ∧ Fk KR h h' := by
  have h8 := hS.2.1
  obtain ⟨r0, r1, r2, r3, r4, r5, r6⟩ := hS.2.2 i hi
  obtain ⟨h', s1, s2⟩ := M_rule (ev := evS S i o w t) (s := i) hX hW hp (by omega) r3 r4 r5 k
  exact ⟨h', by rw [h4]; exact s1, s2⟩
theorem Fk.kr {h h' : HS} (F : Fk KR h h') {g : Nat} : Fr g h h' := F.fr (fun _ q => q)
theorem M_hours {S : TB} {X : XT} {p i : Nat} {h : HS} (hS : Mst S h) (hX : Mtx X h) (hW : Wtx X) (hp : p < X.1) (h4 : hI h 60 4 = nI p) (hi : i < S.1) : ∃ h', f_X12_hoursOf (nI i) h = some (a_hrs S X p i, h') ∧ Fk KR h h' := by
  obtain ⟨h', s1, s2⟩ := M_ruleS hS hX hW hp h4 hi 0 0 0 2
  refine ⟨h', ?_, s2⟩
  unfold f_X12_hoursOf a_hrs clH
  rw [s1, Option.bind_some]
  by_cases c : (1 : Int32) ≤ vR X p (evS S i 0 0 0) 2
  · rw [if_pos c, if_pos c]
    by_cases d : vR X p (evS S i 0 0 0) 2 ≤ 99
    · rw [if_pos d, if_pos d]
    · rw [if_neg d, if_neg d]
  · rw [if_neg c, if_neg c]
def AR (tg : Nat → Nat) (b : Nat) : Prop := b = 50 ∨ (50 ≤ tg b ∧ tg b < 56)
theorem X_tell {S : TB} {tg : Nat → Nat} {h : HS} {i a : Nat} (o : Ost S tg h i a) (hw : Wx tg h) (v : Int32) : ∃ h', f_X11_tellValues a v h = some h' ∧ (∀ w t k, k < 4 → hI h' 50 k = evS S i v w t k) ∧ Wx tg h' ∧ hN h' = hN h ∧ Fx (fun b => b = 50) h h' := by
  have ha := hw.1 a (by have := o.1; omega)
  have hst : isSt (hT h a) = true := by rw [o.2.1]; exact kcl_st _
  have n50 : ¬ a = 50 := by omega
  have p4 : hI h a 4 = S.2 3 i := o.2.2.2.2.2.2.1
  have p5 : hI h a 5 = S.2 4 i := o.2.2.2.2.2.2.2.1
  have p6 : hI h a 6 = S.2 5 i := o.2.2.2.2.2.2.2.2.1
  have rd : ∀ (g : HS) k u j, hI (sI g 50 k u) a j = hI g a j := fun g k u j => by rw [hI_sI, if_neg n50]
  refine ⟨sI (sI (sI (sI h 50 0 v) 50 1 (S.2 3 i)) 50 2 (S.2 4 i)) 50 3 (S.2 5 i), ?_, fun w t k hk => ?_, hw, rfl, Fx.sI (Fx.sI (Fx.sI (Fx.sI Fx.rf (Or.inl rfl)) (Or.inl rfl)) (Or.inl rfl)) (Or.inl rfl)⟩
  · unfold f_X11_tellValues
    rw [hT_sI, if_pos hst, bh_eq, rd, rd, rd, rd, rd, rd, p4, p5, p6]
    rfl
  · unfold evS
    have : k = 0 ∨ k = 1 ∨ k = 2 ∨ k = 3 := by omega
    rcases this with e | e | e | e <;> subst e <;> simp [hI_sI]
theorem X_ruleS {S : TB} {X : XT} {tg : Nat → Nat} {p i : Nat} {h : HS} {v : Int32} (hY : LY TX h) (hX : Xtx X tg h) (hW : Wtx X) (hw : Wx tg h) (hp : p < X.1) (h3 : hI h 32 3 = nI p) (hev : ∀ w t k, k < 4 → hI h 50 k = evS S i v w t k) (w t k : Int32) : ∃ h', f_X11_ruleSays k w t h = some (vR X p (evS S i v w t) k, h') ∧ (∀ w t k, k < 4 → hI h' 50 k = evS S i v w t k) ∧ Wx tg h' ∧ hN h' = hN h ∧ Fx (AR tg) h h' := by
  obtain ⟨h', s1, s2, s3, s4, s5⟩ := X_rule (ev := evS S i v w t) hY hX hW hw hp h3 (fun j hj => hev w t j hj) k
  refine ⟨h', s1, fun w' t' j hj => ?_, s3, s4, s5⟩
  rw [s2 j hj]
  unfold evS
  have : j = 0 ∨ j = 1 ∨ j = 2 ∨ j = 3 := by omega
  rcases this with e | e | e | e <;> subst e <;> rfl
theorem Xtx.ar {X : XT} {tg : Nat → Nat} {A : Nat → Prop} {h h' : HS} (hX : Xtx X tg h) (hw : Wx tg h) (F : Fx A h h') (hA : ∀ b, A b → AR tg b ∨ (b ≤ 55 ∧ b ≠ 35)) : Xtx X tg h' := hX.fx hw F (fun _ _ => rfl) (fun b hb z => by
  have q := hA b z
  unfold AR at q
  by_cases t0 : tg b = 0
  · omega
  · have := hw.1 b t0; omega)
theorem X_hours {S : TB} {X : XT} {tg : Nat → Nat} {p i a : Nat} {h : HS} (hY : LY TX h) (hX : Xtx X tg h) (hW : Wtx X) (hw : Wx tg h) (hp : p < X.1) (h3 : hI h 32 3 = nI p) (o : Ost S tg h i a) : ∃ h', f_X11_lookHours a h = some (a_hrs S X p i, h') ∧ Wx tg h' ∧ hN h' = hN h ∧ Fx (AR tg) h h' := by
  obtain ⟨h1, s1, s2, s3, s4, s5⟩ := X_tell o hw 0
  have F1 : Fx (AR tg) h h1 := s5.mono (fun _ _ z => Or.inl z)
  have h31 : hI h1 32 3 = nI p := by rw [(s5.2 32 (by have := hw.2.2; omega) (by decide)).1]; exact h3
  obtain ⟨h', u1, u2, u3, u4, u5⟩ := X_ruleS (LY.pr hY okX s5.1) (hX.ar hw F1 (fun _ z => Or.inl z)) hW s3 hp h31 s2 0 0 2
  refine ⟨h', ?_, u3, u4.trans s4, F1.tr u5⟩
  unfold f_X11_lookHours
  rw [s1, Option.bind_some, u1, Option.bind_some, clH_x]
  rfl
def a_told8 (S : TB) (X : XT) (p : Nat) (s : Int32) : Int32 := if inZ s.toInt 0 (S.1 - 1) = true then a_hrs S X p s.toNatClampNeg else -5
theorem M_told8 {S : TB} {X : XT} {p : Nat} {h : HS} (hS : Mst S h) (hX : Mtx X h) (hW : Wtx X) (hp : p < X.1) (h4 : hI h 60 4 = nI p) (s : Int32) : ∃ h', f_X12_told s 8 h = some (a_told8 S X p s, h') ∧ Fr 0 h h' := by
  unfold f_X12_told a_told8
  rcases ix_case s S.1 with ⟨i, hi, rfl, hz⟩ | hz
  · have h8 := hS.2.1
    have hc : (nI i).toNatClampNeg = i := nI_clamp (by omega)
    obtain ⟨h', s1, s2⟩ := M_hours hS hX hW hp h4 hi
    refine ⟨h', ?_, s2.kr⟩
    rw [M_isStall hS, hz, Option.bind_some, if_pos rfl, if_pos rfl, hc]
    simp (config := { decide := true }) only [if_false, if_true, s1, Option.bind_some]
  · refine ⟨h, ?_, Fr.rf⟩
    rw [M_isStall hS, hz, Option.bind_some, if_neg Bool.false_ne_true, if_neg Bool.false_ne_true]
theorem X_told8 {S : TB} {X : XT} {tg : Nat → Nat} {p : Nat} {h : HS} (hY : LY TX h) (hS : Xst S tg h) (hX : Xtx X tg h) (hW : Wtx X) (hw : Wx tg h) (hp : p < X.1) (h3 : hI h 32 3 = nI p) (s : Int32) : ∃ h', f_X11_told s 8 h = some (a_told8 S X p s, h') ∧ Wx tg h' ∧ Fx (AR tg) h h' := by
  have h8 : S.1 ≤ 8 := by obtain ⟨el, hl, -⟩ := hS; exact hl.2.2.1
  unfold f_X11_told a_told8
  rcases X_stallAt hS s with ⟨i, a, hi, rfl, hzs, hf, oa, -⟩ | ⟨hzs, hf⟩
  · have hc : (nI i).toNatClampNeg = i := nI_clamp (by omega)
    obtain ⟨h', s1, s2, s3, s4⟩ := X_hours hY hX hW hw hp h3 oa
    refine ⟨h', ?_, s2, s4⟩
    rw [hf, hzs, Option.bind_some, om_some, if_pos rfl, hc]
    simp (config := { decide := true }) only [if_false, if_true, s1, Option.bind_some]
  · refine ⟨h, ?_, hw, Fx.rf⟩
    rw [hf, hzs, Option.bind_some, om_none, if_neg Bool.false_ne_true]
def a_th (S H : TB) (i j : Nat) (m : Int32) : Int32 := (1000 : Int32) * a_wn S H (S.2 6 i) i j m / allI H j
theorem M_th {S H : TB} {h : HS} (hS : Mst S h) (hW : Wst S) (hH : Mha H h) (hWH : Wha H) {i j : Nat} (hi : i < S.1) (hj : j < H.1) {m : Int32} (hm : plB m = true) : f_X12_thousandths (nI i) (nI j) m h = some (a_th S H i j m) := by
  have az := allI_Z hWH hj
  unfold f_X12_thousandths
  rw [M_winsAt hS hW hH hWH hi hj hm, Option.bind_some, M_allOf hH hj, Option.bind_some, if_pos (by rw [i32_eqZ, z_0]; omega)]
  rfl
theorem X_th {S H : TB} {tg : Nat → Nat} {h : HS} {i j a b : Nat} (hW : Wst S) (hWH : Wha H) (hi : i < S.1) (hj : j < H.1) (h8 : S.1 ≤ 8) (h6 : H.1 ≤ 6) (oa : Ost S tg h i a) (ob : Oha H tg h j b) (hw : Wx tg h) (hz : Gz h) {m : Int32} (hm : plB m = true) : ∃ h', f_X11_thousandths a b m h = some (a_th S H i j m, h') ∧ Ost S tg h' i a ∧ Oha H tg h' j b ∧ Gz h' ∧ Wx tg h' ∧ Fx (fun b => b = 48 ∨ b = 49) h h' := by
  obtain ⟨-, -, -, -, -, -, w6⟩ := hW i hi
  obtain ⟨h', s1, s2, s3, s4, s5, s6, s7⟩ := X_fw hW hWH hi hj h8 h6 oa ob hw hz (e := S.2 6 i) w6
  have wz := wn_Z (S := S) hWH (e := S.2 6 i) (i := i) hj m
  have az := allI_Z hWH hj
  have hst : isSt (hT h a) = true := by rw [oa.2.1]; exact kcl_st _
  have h7 : hI h a 7 = S.2 6 i := oa.2.2.2.2.2.2.2.2.2
  have h4 : hI h' b 4 = allI H j := s4.2.2.2.2.2.2
  refine ⟨h', ?_, s3, s4, s5, s6, s7⟩
  unfold f_X11_thousandths
  rw [if_pos hst, h7, s1, Option.bind_some, s2 m hm, Option.bind_some, if_pos s4.2.1, h4, enough (od := 0) wz az, Option.bind_some]
  have e : (a_th S H i j m).toInt64.toInt32 = a_th S H i j m := by
    rw [i32_eqZ, Int64.toInt_toInt32, Int32.toInt_toInt64]
    have := i32_lo (a_th S H i j m)
    exact Int.bmod_eq_of_le (by omega) (by omega)
  exact congrArg (fun x => some (x, h')) e
def a_says (S H : TB) (X : XT) (p : Nat) (s j m k d : Int32) : Int64 := if inZ s.toInt 0 (S.1 - 1) = true then (if inZ j.toInt 0 (H.1 - 1) = true then (if plB m = true then (if inZ k.toInt 0 1 = true then (if inZ d.toInt 0 9999 = true then (vR X p (evS S s.toNatClampNeg (a_th S H s.toNatClampNeg j.toNatClampNeg m) (if k = 0 then d / 100 else 0) (if k = 0 then d - d / 100 * 100 else 0)) k).toInt64 else noL) else noL) else noL) else noL) else noL
theorem M_says {S H : TB} {X : XT} {p : Nat} {h : HS} (hS : Mst S h) (hW : Wst S) (hH : Mha H h) (hWH : Wha H) (hX : Mtx X h) (hWX : Wtx X) (hp : p < X.1) (h4 : hI h 60 4 = nI p) (s j m k d : Int32) : ∃ h', f_X12_says s j m k d h = some (a_says S H X p s j m k d, h') ∧ Fr 0 h h' := by
  have e0 : (0 : Int64).toInt = 0 := rfl
  have e1 : (1 : Int64).toInt = 1 := rfl
  have e9 : (9999 : Int64).toInt = 9999 := rfl
  unfold f_X12_says a_says
  rw [M_isStall hS, Option.bind_some, M_isHand hH, Option.bind_some, f_pl12_eq, Option.bind_some, f_in_eq, f_in_eq, Int32.toInt_toInt64, Int32.toInt_toInt64, e0, e1, e9, Option.bind_some, Option.bind_some]
  rcases ix_case s S.1 with ⟨i, hi, rfl, hz⟩ | hz
  · rw [hz, if_pos rfl, if_pos rfl]
    rcases ix_case j H.1 with ⟨j, hj, rfl, hz2⟩ | hz2
    · rw [hz2, if_pos rfl, if_pos rfl]
      cases hm : plB m
      · exact ⟨h, rfl, Fr.rf⟩
      cases hk : inZ k.toInt 0 1
      · exact ⟨h, rfl, Fr.rf⟩
      cases hd : inZ d.toInt 0 9999
      · exact ⟨h, rfl, Fr.rf⟩
      have h8 := hS.2.1
      have h6 := hH.2.1
      have hci : (nI i).toNatClampNeg = i := nI_clamp (by omega)
      have hcj : (nI j).toNatClampNeg = j := nI_clamp (by omega)
      rw [hci, hcj, M_th hS hW hH hWH hi hj hm]
      by_cases k0 : k = 0
      · obtain ⟨h', s1, s2⟩ := M_ruleS hS hX hWX hp h4 hi (a_th S H i j m) (d / 100) (d - d / 100 * 100) k
        refine ⟨h', ?_, s2.kr⟩
        simp only [if_true, Option.bind_some, if_pos k0, s1]
      · obtain ⟨h', s1, s2⟩ := M_ruleS hS hX hWX hp h4 hi (a_th S H i j m) 0 0 k
        refine ⟨h', ?_, s2.kr⟩
        simp only [if_true, Option.bind_some, if_neg k0, s1]
    · rw [hz2]; exact ⟨h, rfl, Fr.rf⟩
  · rw [hz]; exact ⟨h, rfl, Fr.rf⟩
def AS (tg : Nat → Nat) (b : Nat) : Prop := b = 48 ∨ b = 49 ∨ AR tg b
theorem gz_of {A : Nat → Prop} {tg : Nat → Nat} {h h' : HS} (hz : Gz h) (hw : Wx tg h) (F : Fx A h h') (n : ¬ A 49) : Gz h' := by
  have q := (F.2 49 (by have := hw.2.2; omega) n).1
  exact ⟨fun i hi => by rw [q]; exact hz.1 i hi, fun i hi => by rw [q]; exact hz.2 i hi⟩
theorem nAR {tg : Nat → Nat} {h : HS} (hw : Wx tg h) {b : Nat} (hb : b < 56) (h5 : b ≠ 50) : ¬ AR tg b := fun z => by
  unfold AR at z
  by_cases t0 : tg b = 0
  · omega
  · have := hw.1 b t0; omega
theorem X_says {S H : TB} {X : XT} {tg : Nat → Nat} {p : Nat} {h : HS} (hY : LY TX h) (hS : Xst S tg h) (hW : Wst S) (hH : Xha H tg h) (hWH : Wha H) (hX : Xtx X tg h) (hWX : Wtx X) (hw : Wx tg h) (hz : Gz h) (hp : p < X.1) (h3 : hI h 32 3 = nI p) (s j m k d : Int32) : ∃ h', f_X11_says s j m k d h = some (a_says S H X p s j m k d, h') ∧ Gz h' ∧ Wx tg h' ∧ Fx (AS tg) h h' := by
  have e9 : (9999 : Int32).toInt = 9999 := rfl
  have h8 : S.1 ≤ 8 := by obtain ⟨el, hl, -⟩ := hS; exact hl.2.2.1
  have h6 := hH.1
  have h89 := hw.2.2
  unfold f_X11_says a_says
  rcases X_stallAt hS s with ⟨i, a, hi, rfl, hzs, hf, oa, -⟩ | ⟨hzs, hf⟩
  · rcases X_handAt hH j with ⟨j, b, hj, rfl, hzh, hf2, ob⟩ | ⟨hzh, hf2⟩
    · rw [hf, hf2, Option.bind_some, om_some, Option.bind_some, om_some, f_pl11_eq, isBit_inZ, f_isIn_eq, z_0, e9, hzs, hzh, if_pos rfl, if_pos rfl, Option.bind_some, Option.bind_some, Option.bind_some]
      cases hm : plB m
      · exact ⟨h, rfl, hz, hw, Fx.rf⟩
      cases hk : inZ k.toInt 0 1
      · exact ⟨h, rfl, hz, hw, Fx.rf⟩
      cases hd : inZ d.toInt 0 9999
      · exact ⟨h, rfl, hz, hw, Fx.rf⟩
      have hci : (nI i).toNatClampNeg = i := nI_clamp (by omega)
      have hcj : (nI j).toNatClampNeg = j := nI_clamp (by omega)
      obtain ⟨h1, s1, s2, s3, s4, s5, s6⟩ := X_th hW hWH hi hj h8 h6 oa ob hw hz hm
      obtain ⟨h2, t1, t2, t3, t4, t5⟩ := X_tell s2 s5 (a_th S H i j m)
      have F1 : Fx (AS tg) h h1 := s6.mono (fun _ _ z => by unfold AS; omega)
      have F2 : Fx (AS tg) h1 h2 := t5.mono (fun _ _ z => Or.inr (Or.inr (Or.inl z)))
      have F12 := F1.tr F2
      have h32 : hI h2 32 3 = nI p := by rw [(F12.2 32 (by omega) (fun z => by rcases z with z | z | z; exact absurd z (by decide); exact absurd z (by decide); exact nAR hw (by decide) (by decide) z)).1]; exact h3
      have hX2 := hX.ar hw F12 (fun b z => by
        rcases z with z | z | z
        · exact Or.inr (by omega)
        · exact Or.inr (by omega)
        · exact Or.inl z)
      have hY2 := LY.pr hY okX F12.1
      have hz2 := gz_of s4 s5 t5 (by decide)
      rw [hci, hcj, s1]
      by_cases k1 : k = 1
      · obtain ⟨h', u1, u2, u3, u4, u5⟩ := X_ruleS hY2 hX2 hWX t3 hp h32 t2 0 0 1
        refine ⟨h', ?_, gz_of hz2 t3 u5 (nAR t3 (by decide) (by decide)), u3, F12.tr (u5.mono (fun _ _ z => Or.inr (Or.inr z)))⟩
        subst k1
        rw [if_pos rfl, if_pos rfl, if_pos rfl, if_pos rfl, if_pos rfl, if_pos rfl, Option.bind_some, t1, Option.bind_some, if_pos rfl, u1, Option.bind_some]
        rfl
      · have k0 : k = 0 := by
          obtain ⟨g1, g2⟩ := inZ_t.mp hk
          rw [i32_eqZ] at k1 ⊢
          have : (1 : Int32).toInt = 1 := rfl
          have : (0 : Int32).toInt = 0 := rfl
          omega
        obtain ⟨h', u1, u2, u3, u4, u5⟩ := X_ruleS hY2 hX2 hWX t3 hp h32 t2 (d / 100) (d - d / 100 * 100) 0
        refine ⟨h', ?_, gz_of hz2 t3 u5 (nAR t3 (by decide) (by decide)), u3, F12.tr (u5.mono (fun _ _ z => Or.inr (Or.inr z)))⟩
        subst k0
        rw [if_pos rfl, if_pos rfl, if_pos rfl, if_pos rfl, if_pos rfl, if_pos rfl, Option.bind_some, t1, Option.bind_some, if_neg (by decide), u1, Option.bind_some]
        rfl
    · rw [hf, hf2, Option.bind_some, om_some, Option.bind_some, om_none, hzs, hzh]
      exact ⟨h, rfl, hz, hw, Fx.rf⟩
  · rw [hf, Option.bind_some, om_none, hzs]
    rcases X_handAt hH j with ⟨j, b, hj, rfl, hzh, hf2, ob⟩ | ⟨hzh, hf2⟩
    · rw [hf2]; exact ⟨h, rfl, hz, hw, Fx.rf⟩
    · rw [hf2]; exact ⟨h, rfl, hz, hw, Fx.rf⟩
