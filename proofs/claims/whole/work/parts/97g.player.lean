/-! ===== player, most ===== -/
def isPl (S H : TB) (w m s c : Int32) : Bool := decide (0 ≤ w.toInt) && inZ (w / 10).toInt 0 (S.1 - 1) && inZ (w - w / 10 * 10).toInt 0 (H.1 - 1) && plB m && inZ s.toInt 0 99999 && inZ c.toInt 0 9999
theorem M_isPlayer {S H : TB} {h : HS} (hS : Mst S h) (hH : Mha H h) (w m s c : Int32) : f_X12_isPlayer w m s c h = some (isPl S H w m s c) := by
  have e0 : (0 : Int64).toInt = 0 := rfl
  have e1 : (99999 : Int64).toInt = 99999 := rfl
  have e2 : (9999 : Int64).toInt = 9999 := rfl
  unfold f_X12_isPlayer isPl
  rw [M_isStall hS, Option.bind_some, M_isHand hH, Option.bind_some, f_pl12_eq, Option.bind_some, f_in_eq, f_in_eq, Int32.toInt_toInt64, Int32.toInt_toInt64, e0, e1, e2, Option.bind_some, Option.bind_some]
  by_cases c0 : w < 0
  · rw [if_pos c0]
    rw [i32_lt0, z_0] at c0
    rw [decide_eq_false (by omega)]
    rfl
  · rw [if_neg c0]
    rw [i32_lt0, z_0] at c0
    rw [decide_eq_true (show 0 ≤ w.toInt by omega)]
    cases inZ (w / 10).toInt 0 (S.1 - 1) <;> cases inZ (w - w / 10 * 10).toInt 0 (H.1 - 1) <;> cases plB m <;> cases inZ s.toInt 0 99999 <;> cases inZ c.toInt 0 9999 <;> rfl
theorem X_isPlayer {S H : TB} {tg : Nat → Nat} {h : HS} (hS : Xst S tg h) (hH : Xha H tg h) (w m s c : Int32) : f_X11_isPlayer w m s c h = some (isPl S H w m s c) := by
  have e2 : (9999 : Int32).toInt = 9999 := rfl
  unfold f_X11_isPlayer isPl
  rw [f_pl11_eq, isSeed_eq, f_isIn_eq, z_0, e2]
  by_cases c0 : w < 0
  · rw [if_pos c0]
    rw [i32_lt0, z_0] at c0
    rw [decide_eq_false (by omega)]
    rfl
  · rw [if_neg c0]
    rw [i32_lt0, z_0] at c0
    rw [decide_eq_true (show 0 ≤ w.toInt by omega)]
    rcases X_stallAt hS (w / 10) with ⟨i, a, hi, -, hzs, hf, -, -⟩ | ⟨hzs, hf⟩
    · rw [hf, hzs, Option.bind_some, om_some]
      rcases X_handAt hH (w - w / 10 * 10) with ⟨j, b, hj, -, hzh, hf2, -⟩ | ⟨hzh, hf2⟩
      · rw [hf2, hzh, Option.bind_some, om_some, Option.bind_some, Option.bind_some, Option.bind_some]
        cases plB m <;> cases inZ s.toInt 0 99999 <;> cases inZ c.toInt 0 9999 <;> rfl
      · rw [hf2, hzh, Option.bind_some, om_none]
        cases plB m <;> cases inZ s.toInt 0 99999 <;> cases inZ c.toInt 0 9999 <;> rfl
    · rw [hf, hzs, Option.bind_some, om_none]
      cases inZ (w - w / 10 * 10).toInt 0 (H.1 - 1) <;> cases plB m <;> cases inZ s.toInt 0 99999 <;> cases inZ c.toInt 0 9999 <;> rfl
theorem isPl_t {S H : TB} {w m s c : Int32} (h : isPl S H w m s c = true) : ∃ i j n, i < S.1 ∧ j < H.1 ∧ w / 10 = nI i ∧ w - w / 10 * 10 = nI j ∧ plB m = true ∧ s = nI n ∧ n ≤ 99999 := by
  unfold isPl at h
  simp only [Bool.and_eq_true] at h
  obtain ⟨⟨⟨⟨⟨h1, h2⟩, h3⟩, h4⟩, h5⟩, h6⟩ := h
  rcases ix_case (w / 10) S.1 with ⟨i, hi, ei, -⟩ | z
  · rcases ix_case (w - w / 10 * 10) H.1 with ⟨j, hj, ej, -⟩ | z
    · rcases seed_c s with ⟨n, hn, en, -⟩ | z
      · exact ⟨i, j, n, hi, hj, ei, ej, h4, en, hn⟩
      · rw [z] at h5; cases h5
    · rw [z] at h3; cases h3
  · rw [z] at h2; cases h2
def plN (S H : TB) (X : XT) (p : Nat) (w m s c : Int32) (l : Nat) : Nat × Nat × Int32 := plS S H X p (w / 10).toNatClampNeg (w - w / 10 * 10).toNatClampNeg m s.toNatClampNeg c l
def a_player (S H : TB) (X : XT) (p : Nat) (w m s c v : Int32) : Int64 := if isPl S H w m s c = true then (if inZ v.toInt 0 639 = true then (if v - v / 10 * 10 < 4 then (ouS S (w / 10).toNatClampNeg (plN S H X p w m s c (v / 10).toNatClampNeg) (v - v / 10 * 10).toNatClampNeg).toInt64 else noL) else noL) else noL
theorem plS_b {S H : TB} {X : XT} {p i j : Nat} {m : Int32} {s : Nat} {c : Int32} {l : Nat} : (plS S H X p i j m s c l).2.1 ≤ (plS S H X p i j m s c l).1 ∧ (plS S H X p i j m s c l).1 ≤ 40 := by
  have := plG_le (price := S.2 3 i) (wb := wbS S H i j m s l) (go := goS S X p i (a_th S H i j m)) 40 0 0 c (Nat.le_refl _)
  exact ⟨this.1, by have h2 := this.2; rw [Nat.zero_add] at h2; exact h2⟩
theorem M_player {S H : TB} {X : XT} {p : Nat} {h : HS} (hS : Mst S h) (hW : Wst S) (hH : Mha H h) (hWH : Wha H) (hX : Mtx X h) (hWX : Wtx X) (hp : p < X.1) (h4 : hI h 60 4 = nI p) (w m s c v : Int32) : ∃ h', f_X12_player w m s c v h = some (a_player S H X p w m s c v, h') ∧ Fr 0 h h' := by
  unfold f_X12_player a_player
  rw [M_isPlayer hS hH, Option.bind_some]
  cases hpl : isPl S H w m s c
  · exact ⟨h, rfl, Fr.rf⟩
  obtain ⟨i, j, n, hi, hj, ei, ej, hm, en, hn⟩ := isPl_t hpl
  have h8 := hS.2.1
  have h6 := hH.2.1
  have hci : (nI i).toNatClampNeg = i := nI_clamp (by omega)
  have hcj : (nI j).toNatClampNeg = j := nI_clamp (by omega)
  have hcn : (nI n).toNatClampNeg = n := nI_clamp (by omega)
  have hx := ixb_n (i := i) (n := 8) (by omega) (by decide)
  rw [if_pos rfl, if_pos rfl]
  cases hz : inZ v.toInt 0 639
  · refine ⟨h, ?_, Fr.rf⟩
    rw [if_neg Bool.false_ne_true]
    by_cases c0 : v < 0
    · rw [if_pos c0]
    · rw [if_neg c0]
      rw [i32_lt0, z_0] at c0
      have hv := i32_lo v
      rcases inZ_f.mp hz with z | z
      · omega
      · have ev : v = nI v.toInt.toNat := by rw [i32_eqZ, nI_Z (by omega)]; omega
        have e10 : v / 10 = nI (v.toInt.toNat / 10) := by
          have := nI_d10 (a := v.toInt.toNat) (by omega)
          rw [← ev] at this; exact this
        rw [e10, if_pos (by rw [show (63 : Int32) = nI 63 from rfl]; exact nI_lt (by omega) (by omega))]
  · obtain ⟨z1, z2⟩ := inZ_t.mp hz
    obtain ⟨u, hu, ev⟩ : ∃ u, u ≤ 639 ∧ v = nI u := ⟨v.toInt.toNat, by omega, by rw [i32_eqZ, nI_Z (by omega)]; omega⟩
    subst ev
    have e10 : nI u / 10 = nI (u / 10) := nI_d10 (by omega)
    have e11 : nI u - nI (u / 10) * 10 = nI (u % 10) := by rw [← e10]; exact nI_r10 (by omega)
    have hcl : (nI (u / 10)).toNatClampNeg = u / 10 := nI_clamp (by omega)
    have hcr : (nI (u % 10)).toNatClampNeg = u % 10 := nI_clamp (by omega)
    rw [if_neg (nI_pos (by omega)), if_pos rfl, e10, e11, if_neg (by rw [show (63 : Int32) = nI 63 from rfl]; exact nI_nlt (by omega) (by decide))]
    by_cases c3 : u % 10 < 4
    · obtain ⟨h', s1, s2, s3, s4, s5⟩ := M_plays (s := n) (l := u / 10) hW hWH hWX hp hi hj hm hn (by omega) hS hH hX h4 c
      have hb := plS_b (S := S) (H := H) (X := X) (p := p) (i := i) (j := j) (m := m) (s := n) (c := c) (l := u / 10)
      refine ⟨h', ?_, s5⟩
      rw [if_pos (by rw [show (3 : Int32) = nI 3 from rfl]; exact nI_le (by omega) (by decide)), if_pos (by rw [show (4 : Int32) = nI 4 from rfl]; exact nI_lt c3 (by decide)), ei, ← ei, ej, ei, en, s1, Option.bind_some, hcr, s2, s3, s4]
      unfold plN
      rw [ei, hci]
      have ej' : w - nI i * 10 = nI j := by rw [← ei]; exact ej
      rw [ej', hcj, hcl, hcn]
      obtain ⟨q, hq⟩ : ∃ q, q = plS S H X p i j m n c (u / 10) := ⟨_, rfl⟩
      rw [← hq] at hb ⊢
      have hS' := hS.fr s5 (by decide)
      obtain ⟨r0, r1, r2, r3, r4, r5, r6⟩ := hS'.2.2 i hi
      obtain ⟨w0, w1, w2, w3, w4, w5, w6⟩ := hW i hi
      have h4c : u % 10 = 0 ∨ u % 10 = 1 ∨ u % 10 = 2 ∨ u % 10 = 3 := by omega
      rcases h4c with e | e | e | e <;> rw [e]
      · rfl
      · rfl
      · rfl
      · rw [if_neg (by decide), if_neg (by decide), if_neg (by decide), if_pos hx, if_pos hx, r3, r4]
        show some (_, h') = some ((nI q.1 * S.2 3 i - nI q.2.1 * S.2 4 i).toInt64, h')
        rw [prodE (by rw [nI_Z (by omega)]; omega) (by rw [nI_Z (by omega)]; omega) (by omega) (by omega) (by rw [nI_Z (by omega)]; omega) (by rw [nI_Z (by omega)]; omega) (by omega) (by omega)]
    · refine ⟨h, ?_, Fr.rf⟩
      rw [if_neg (by rw [show (3 : Int32) = nI 3 from rfl]; exact nI_ge (by omega) (by omega)), if_neg (by rw [show (4 : Int32) = nI 4 from rfl]; exact nI_nlt (by omega) (by omega))]
def AQ (tg : Nat → Nat) (b : Nat) : Prop := b = 48 ∨ b = 49 ∨ AP tg b
theorem X_ask2 {S H : TB} {X : XT} {tg : Nat → Nat} {p i j a b : Nat} {h : HS} (hY : LY TX h) (hW : Wst S) (hWH : Wha H) (hi : i < S.1) (hj : j < H.1) (h8 : S.1 ≤ 8) (h6 : H.1 ≤ 6) (oa : Ost S tg h i a) (ob : Oha H tg h j b) (hX : Xtx X tg h) (hw : Wx tg h) (hz : Gz h) (h3 : hI h 32 3 = nI p) {m : Int32} (hm : plB m = true) : ∃ h', f_X11_askPlayer a b m h = some h' ∧ PY S X p i (a_th S H i j m) tg a h' ∧ Oha H tg h' j b ∧ Gz h' ∧ Fx (AQ tg) h h' := by
  have h89 := hw.2.2
  obtain ⟨h1, s1, s2, s3, s4, s5, s6⟩ := X_th hW hWH hi hj h8 h6 oa ob hw hz hm
  obtain ⟨h2, t1, t2, t3, t4, t5⟩ := X_tell s2 s5 (a_th S H i j m)
  have F1 : Fx (AQ tg) h h1 := s6.mono (fun _ _ z => by unfold AQ; omega)
  have F2 : Fx (AQ tg) h h2 := F1.tr (t5.mono (fun _ _ z => Or.inr (Or.inr (Or.inl (Or.inl z)))))
  have Y2 := LY.pr hY okX F2.1
  obtain ⟨h3', u1, u2, u3, u4, u5⟩ := X_fill0 (a := 52) (Y2.t 20 rfl) (Y2.n 20 rfl)
  have w3' := t3.fx0 u3 u4
  have F3 : Fx (AQ tg) h h3' := F2.tr (u5.mono (fun _ _ z => Or.inr (Or.inr (Or.inr (Or.inr (Or.inl z))))))
  have Y3 := LY.pr hY okX F3.1
  obtain ⟨h4', v1, v2, v3, v4, v5⟩ := X_fill0 (a := 53) (Y3.t 21 rfl) (Y3.n 21 rfl)
  have w4' := w3'.fx0 v3 v4
  have F4 : Fx (AQ tg) h h4' := F3.tr (v5.mono (fun _ _ z => Or.inr (Or.inr (Or.inr (Or.inr (Or.inr z))))))
  have q52 : ∀ k, hL h4' 52 k = hL h3' 52 k := (v5.2 52 (by have := w3'.2.2; omega) (by decide)).2.1
  have nQ : ∀ b, b < 48 ∨ (53 < b ∧ b < 56) → ¬ AQ tg b := fun b hb z => by
    rcases z with z | z | z
    · omega
    · omega
    · exact nAP hw (by omega) z
  have tQ : ∀ b, tg b ≠ 0 → ¬ (50 ≤ tg b ∧ tg b < 56) → ¬ AQ tg b := fun b h1 h2 z => by
    have := hw.1 b h1
    rcases z with z | z | z
    · omega
    · omega
    · exact tAP hw h1 h2 z
  have F24 : Fx (fun b => b = 52 ∨ b = 53) h2 h4' := (u5.mono (fun _ _ z => Or.inl z)).tr (v5.mono (fun _ _ z => Or.inr z))
  have q50 := (F24.2 50 (by have := t3.2.2; omega) (by decide)).1
  have gz4 : Gz h4' := gz_of (gz_of s4 s5 t5 (by decide)) t3 F24 (by decide)
  refine ⟨h4', ?_, ⟨LY.pr hY okX F4.1, hX.ar hw F4 (fun b z => ?_), w4', ?_, oa.fx hw F4 (fun _ _ => rfl) (tQ _ (by have := oa.1; omega) (by have := oa.1; omega)), fun w t k hk => by rw [q50]; exact t2 w t k hk, fun t ht w hw => ?_⟩, ob.fx hw F4 (fun _ _ => rfl) (tQ _ (by have := ob.1; omega) (by have := ob.1; omega)), gz4, F4⟩
  · unfold f_X11_askPlayer
    rw [s1, Option.bind_some, t1, Option.bind_some, u1, Option.bind_some, v1, Option.bind_some]
  · rcases z with z | z | z | z
    · exact Or.inr (by omega)
    · exact Or.inr (by omega)
    · exact Or.inl z
    · exact Or.inr (by omega)
  · rw [(F4.2 32 (by omega) (nQ _ (by decide))).1]; exact h3
  · show bt (hL h4' 53 t) w = (bt (hL h4' 52 t) w && _)
    rw [v2 t ht, q52, u2 t ht, bt_0, Bool.false_and]
theorem wb_let {S H : TB} {i j : Nat} {m : Int32} {n l : Nat} {y : Int64} (hl : l < 64) (hy : ∀ v, v < 40 → bt y v = wonL S H i j m (lotP n (v + 1))) : ∀ v, v < 40 → bt (y ||| (nI l).toInt64) v = wbS S H i j m n l v := fun v hv => by
  rw [bt_or, hy v hv, let_bt l hl v (by omega)]
  rfl
theorem X_player {S H : TB} {X : XT} {tg : Nat → Nat} {p : Nat} {h : HS} (hY : LY TX h) (hS : Xst S tg h) (hW : Wst S) (hH : Xha H tg h) (hWH : Wha H) (hX : Xtx X tg h) (hWX : Wtx X) (hw : Wx tg h) (hz0 : Gz h) (hp : p < X.1) (h3 : hI h 32 3 = nI p) (w m s c v : Int32) : ∃ h', f_X11_player w m s c v h = some (a_player S H X p w m s c v, h') ∧ Gz h' ∧ Wx tg h' ∧ Fx (AQ tg) h h' := by
  have e639 : (639 : Int32).toInt = 639 := rfl
  have h8 : S.1 ≤ 8 := by obtain ⟨el, hl, -⟩ := hS; exact hl.2.2.1
  have h6 := hH.1
  unfold f_X11_player a_player
  rw [X_isPlayer hS hH, Option.bind_some]
  cases hpl : isPl S H w m s c
  · exact ⟨h, rfl, hz0, hw, Fx.rf⟩
  obtain ⟨i, j, n, hi, hj, ei, ej, hm, en, hn⟩ := isPl_t hpl
  have hci : (nI i).toNatClampNeg = i := nI_clamp (by omega)
  have hcj : (nI j).toNatClampNeg = j := nI_clamp (by omega)
  have hcn : (nI n).toNatClampNeg = n := nI_clamp (by omega)
  rw [if_pos rfl, if_pos rfl, f_isIn_eq, z_0, e639, Option.bind_some]
  cases hz : inZ v.toInt 0 639
  · exact ⟨h, rfl, hz0, hw, Fx.rf⟩
  obtain ⟨z1, z2⟩ := inZ_t.mp hz
  obtain ⟨u, hu, ev⟩ : ∃ u, u ≤ 639 ∧ v = nI u := ⟨v.toInt.toNat, by omega, by rw [i32_eqZ, nI_Z (by omega)]; omega⟩
  subst ev
  have e10 : nI u / 10 = nI (u / 10) := nI_d10 (by omega)
  have e11 : nI u - nI (u / 10) * 10 = nI (u % 10) := by rw [← e10]; exact nI_r10 (by omega)
  have hcl : (nI (u / 10)).toNatClampNeg = u / 10 := nI_clamp (by omega)
  have hcr : (nI (u % 10)).toNatClampNeg = u % 10 := nI_clamp (by omega)
  rcases X_stallAt hS (w / 10) with ⟨i', a, hi', ei', hzs, hf, oa, -⟩ | ⟨hzs, hf⟩
  · have : i' = i := by
      rw [ei'] at ei
      exact (nI_eq (by omega) (by omega)).mp ei
    subst this
    rcases X_handAt hH (w - w / 10 * 10) with ⟨j', b, hj', ej', hzh, hf2, ob⟩ | ⟨hzh, hf2⟩
    · have : j' = j := by
        rw [ej'] at ej
        exact (nI_eq (by omega) (by omega)).mp ej
      subst this
      rw [if_pos rfl, if_pos rfl, hf, Option.bind_some, om_some, hf2, Option.bind_some, om_some, e10, e11]
      by_cases c3 : u % 10 < 4
      · obtain ⟨h1, s1, s2, s3, s4, s5⟩ := X_ask2 hY hW hWH hi hj h8 h6 oa ob hX hw hz0 h3 hm
        obtain ⟨y, y1, y2⟩ := X_win s2.2.2.2.2.1 s3 hW hWH hi hj hm hn
        obtain ⟨h2, t1, t2, t3, t4⟩ := X_playOut hWX hp (show i' < 8 by omega) (wb_let (l := u / 10) (by omega) y2) s2 c
        have hx4 := ixb_n (i := u % 10) (n := 4) c3 (by decide)
        refine ⟨h2, ?_, gz_of s4 s2.2.2.1 t4 (nAP s2.2.2.1 (by decide)), t3.2.2.1, s5.tr (t4.mono (fun _ _ z => Or.inr (Or.inr z)))⟩
        have c4 : nI (u % 10) < (4 : Int32) := by rw [show (4 : Int32) = nI 4 from rfl]; exact nI_lt c3 (by decide)
        rw [if_pos c4, if_pos c4, s1, Option.bind_some, en, y1, Option.bind_some, t1, Option.bind_some, if_pos hx4, hcr, t2 _ c3]
        unfold plN
        have ej2 : w - nI i' * 10 = nI j' := by rw [← ei]; exact ej
        rw [ei, ej2, hci, hcj, hcn, hcl]
        rfl
      · have c4 : ¬ nI (u % 10) < (4 : Int32) := by rw [show (4 : Int32) = nI 4 from rfl]; exact nI_nlt (by omega) (by omega)
        rw [if_neg c4, if_neg c4]
        exact ⟨h, rfl, hz0, hw, Fx.rf⟩
    · exfalso
      unfold isPl at hpl
      rw [hzh] at hpl
      simp at hpl
  · exfalso
    unfold isPl at hpl
    rw [hzs] at hpl
    simp at hpl
/-! most -/
def moG (many : Int32) (hd : Nat → Int32) : Nat → Nat → Int32 × Int32 → Int32 × Int32
  | 0, _, q => q
  | d + 1, l, q => moG many hd d (l + 1) (if nI (bcN l) ≤ many then (if q.2 < hd l then (nI l, hd l) else q) else q)
theorem ex64 : ∃ n : Nat, n = 64 := ⟨64, rfl⟩
noncomputable def n64 : Nat := Classical.choose ex64
theorem n64_eq : n64 = 64 := Classical.choose_spec ex64
def hdS (S H : TB) (X : XT) (p i j : Nat) (m : Int32) (s : Nat) (c : Int32) (l : Nat) : Int32 := nI (plS S H X p i j m s c l).1
noncomputable def a_most (S H : TB) (X : XT) (p : Nat) (w m s c many : Int32) : Int32 := if isPl S H w m s c = true then (if inZ many.toInt 0 6 = true then (moG many (hdS S H X p (w / 10).toNatClampNeg (w - w / 10 * 10).toNatClampNeg m s.toNatClampNeg c) n64 0 (0, -1)).1 else -2) else -2
theorem L_mmo {S H : TB} {X : XT} {p i j n : Nat} {m : Int32} (hW : Wst S) (hWH : Wha H) (hWX : Wtx X) (hp : p < X.1) (hi : i < S.1) (hj : j < H.1) (hm : plB m = true) (hn : n ≤ 99999) {w : Int32} (ei : w / 10 = nI i) (ej : w - nI i * 10 = nI j) (c many : Int32) : ∀ (d l f : Nat) (q : Int32 × Int32) (h : HS), l + d = 64 → d < f → Mst S h → Mha H h → Mtx X h → hI h 60 4 = nI p → ∃ h', l_X12_most_37 w m (nI n) c many f q.1 q.2 (nI l) h = some ((moG many (hdS S H X p i j m n c) d l q).1, h') ∧ Fr 0 h h' := by
  intro d
  induction d with
  | zero =>
    intro l f q h hl hf hS hH hX h4
    obtain ⟨f, rfl⟩ : ∃ f', f = f' + 1 := ⟨f - 1, by omega⟩
    have : l = 64 := by omega
    subst this
    exact ⟨h, by rw [l_X12_most_37, if_pos (by decide), moG], Fr.rf⟩
  | succ d ih =>
    intro l f q h hl hf hS hH hX h4
    obtain ⟨f, rfl⟩ : ∃ f', f = f' + 1 := ⟨f - 1, by omega⟩
    rw [l_X12_most_37, if_neg (by rw [show (64 : Int32) = nI 64 from rfl]; exact nI_ge (by omega) (by decide)), bc_m l (by omega), Option.bind_some, nI_1, moG, ei, ej]
    by_cases c1 : nI (bcN l) ≤ many
    · obtain ⟨h1, s1, s2, s3, s4, s5⟩ := M_plays (s := n) (l := l) hW hWH hWX hp hi hj hm hn (by omega) hS hH hX h4 c
      have h41 : hI h1 60 4 = nI p := by rw [s5.2.2.2.2.2.1 60 4 (by decide) (by decide)]; exact h4
      rw [if_pos c1, if_pos c1, s1, Option.bind_some, s2]
      by_cases c2 : q.2 < hdS S H X p i j m n c l
      · have c2' : q.2 < nI (plS S H X p i j m n c l).1 := c2
        obtain ⟨h', u1, u2⟩ := ih (l + 1) f (nI l, hdS S H X p i j m n c l) h1 (by omega) (by omega) (hS.fr s5 (by decide)) (hH.fr s5 (by decide)) (hX.fr s5 (by decide)) h41
        rw [if_pos c2', if_pos c2]
        exact ⟨h', u1, s5.tr u2⟩
      · have c2' : ¬ q.2 < nI (plS S H X p i j m n c l).1 := c2
        obtain ⟨h', u1, u2⟩ := ih (l + 1) f q h1 (by omega) (by omega) (hS.fr s5 (by decide)) (hH.fr s5 (by decide)) (hX.fr s5 (by decide)) h41
        rw [if_neg c2', if_neg c2]
        exact ⟨h', u1, s5.tr u2⟩
    · rw [if_neg c1, if_neg c1]
      exact ih (l + 1) f q h (by omega) (by omega) hS hH hX h4
theorem M_most {S H : TB} {X : XT} {p : Nat} {h : HS} (hS : Mst S h) (hW : Wst S) (hH : Mha H h) (hWH : Wha H) (hX : Mtx X h) (hWX : Wtx X) (hp : p < X.1) (h4 : hI h 60 4 = nI p) (w m s c many : Int32) : ∃ h', f_X12_most w m s c many h = some (a_most S H X p w m s c many, h') ∧ Fr 0 h h' := by
  have e0 : (0 : Int64).toInt = 0 := rfl
  have e6 : (6 : Int64).toInt = 6 := rfl
  unfold f_X12_most a_most
  rw [M_isPlayer hS hH, Option.bind_some, f_in_eq, Int32.toInt_toInt64, e0, e6, Option.bind_some]
  cases hpl : isPl S H w m s c
  · exact ⟨h, rfl, Fr.rf⟩
  cases hz : inZ many.toInt 0 6
  · exact ⟨h, rfl, Fr.rf⟩
  obtain ⟨i, j, n, hi, hj, ei, ej, hm, en, hn⟩ := isPl_t hpl
  have h8 := hS.2.1
  have h6 := hH.2.1
  have hci : (nI i).toNatClampNeg = i := nI_clamp (by omega)
  have hcj : (nI j).toNatClampNeg = j := nI_clamp (by omega)
  have hcn : (nI n).toNatClampNeg = n := nI_clamp (by omega)
  have ej2 : w - nI i * 10 = nI j := by rw [← ei]; exact ej
  obtain ⟨h', u1, u2⟩ := L_mmo hW hWH hWX hp hi hj hm hn ei ej2 c many 64 0 1000 (0, -1) h (by omega) (by omega) hS hH hX h4
  rw [← n64_eq] at u1
  refine ⟨h', ?_, u2⟩
  rw [if_pos rfl, if_pos rfl, if_pos rfl, if_pos rfl, en]
  have u1' : l_X12_most_37 w m (nI n) c many 1000 (0 : Int32) (-1 : Int32) (0 : Int32) h = some ((moG many (hdS S H X p i j m n c) n64 0 (0, -1)).1, h') := u1
  rw [u1', Option.bind_some, ei, ej2, hci, hcj, hcn]
theorem L_xmo {S H : TB} {X : XT} {tg : Nat → Nat} {p i j n a : Nat} {m : Int32} {y : Int64} (hWX : Wtx X) (hp : p < X.1) (hi : i < 8) (hy : ∀ v, v < 40 → bt y v = wonL S H i j m (lotP n (v + 1))) (c many : Int32) : ∀ (d l f : Nat) (q : Int32 × Int32) (h : HS), l + d = 64 → d < f → PY S X p i (a_th S H i j m) tg a h → ∃ h', l_X11_most_88 c many a y f q.2 q.1 (nI l) h = some ((moG many (hdS S H X p i j m n c) d l q).1, h') ∧ PY S X p i (a_th S H i j m) tg a h' ∧ Fx (AP tg) h h' := by
  intro d
  induction d with
  | zero =>
    intro l f q h hl hf P
    obtain ⟨f, rfl⟩ : ∃ f', f = f' + 1 := ⟨f - 1, by omega⟩
    have : l = 64 := by omega
    subst this
    exact ⟨h, by rw [l_X11_most_88, if_pos (by decide), moG], P, Fx.rf⟩
  | succ d ih =>
    intro l f q h hl hf P
    obtain ⟨f, rfl⟩ : ∃ f', f = f' + 1 := ⟨f - 1, by omega⟩
    rw [l_X11_most_88, if_neg (by rw [show (64 : Int32) = nI 64 from rfl]; exact nI_ge (by omega) (by decide)), bc_x l (by omega), Option.bind_some, nI_1, moG]
    by_cases c1 : nI (bcN l) ≤ many
    · have c1' := c1
      rw [i32_le0] at c1'
      obtain ⟨h1, t1, t2, t3, t4⟩ := X_playOut hWX hp hi (wb_let (l := l) (by omega) hy) P c
      have e0 : hI h1 51 (0 : Int32).toNatClampNeg = hdS S H X p i j m n c l := t2 0 (by decide)
      rw [if_neg (by rw [i32_lt0]; omega), if_pos c1, t1, Option.bind_some, e0]
      by_cases c2 : q.2 < hdS S H X p i j m n c l
      · have c2' := c2
        rw [i32_lt0] at c2'
        obtain ⟨h', u1, u2, u3⟩ := ih (l + 1) f (nI l, hdS S H X p i j m n c l) h1 (by omega) (by omega) t3
        rw [if_neg (by rw [i32_le0]; omega), if_pos c2]
        exact ⟨h', u1, u2, t4.tr u3⟩
      · have c2' := c2
        rw [i32_lt0] at c2'
        obtain ⟨h', u1, u2, u3⟩ := ih (l + 1) f q h1 (by omega) (by omega) t3
        rw [if_pos (by rw [i32_le0]; omega), if_neg c2]
        exact ⟨h', u1, u2, t4.tr u3⟩
    · have c1' := c1
      rw [i32_le0] at c1'
      rw [if_pos (by rw [i32_lt0]; omega), if_neg c1]
      exact ih (l + 1) f q h (by omega) (by omega) P
theorem X_most {S H : TB} {X : XT} {tg : Nat → Nat} {p : Nat} {h : HS} (hY : LY TX h) (hS : Xst S tg h) (hW : Wst S) (hH : Xha H tg h) (hWH : Wha H) (hX : Xtx X tg h) (hWX : Wtx X) (hw : Wx tg h) (hz0 : Gz h) (hp : p < X.1) (h3 : hI h 32 3 = nI p) (w m s c many : Int32) : ∃ h', f_X11_most w m s c many h = some (a_most S H X p w m s c many, h') ∧ Gz h' ∧ Wx tg h' ∧ Fx (AQ tg) h h' := by
  have e6 : (6 : Int32).toInt = 6 := rfl
  have h8 : S.1 ≤ 8 := by obtain ⟨el, hl, -⟩ := hS; exact hl.2.2.1
  have h6 := hH.1
  unfold f_X11_most a_most
  rw [X_isPlayer hS hH, Option.bind_some, f_isIn_eq, z_0, e6, Option.bind_some]
  cases hpl : isPl S H w m s c
  · exact ⟨h, rfl, hz0, hw, Fx.rf⟩
  cases hz : inZ many.toInt 0 6
  · exact ⟨h, rfl, hz0, hw, Fx.rf⟩
  obtain ⟨i, j, n, hi, hj, ei, ej, hm, en, hn⟩ := isPl_t hpl
  have hci : (nI i).toNatClampNeg = i := nI_clamp (by omega)
  have hcj : (nI j).toNatClampNeg = j := nI_clamp (by omega)
  have hcn : (nI n).toNatClampNeg = n := nI_clamp (by omega)
  rcases X_stallAt hS (w / 10) with ⟨i', a, hi', ei', hzs, hf, oa, -⟩ | ⟨hzs, hf⟩
  · have : i' = i := by
      rw [ei'] at ei
      exact (nI_eq (by omega) (by omega)).mp ei
    subst this
    rcases X_handAt hH (w - w / 10 * 10) with ⟨j', b, hj', ej', hzh, hf2, ob⟩ | ⟨hzh, hf2⟩
    · have : j' = j := by
        rw [ej'] at ej
        exact (nI_eq (by omega) (by omega)).mp ej
      subst this
      have ej2 : w - nI i' * 10 = nI j' := by rw [← ei]; exact ej
      obtain ⟨h1, s1, s2, s3, s4, s5⟩ := X_ask2 hY hW hWH hi hj h8 h6 oa ob hX hw hz0 h3 hm
      obtain ⟨y, y1, y2⟩ := X_win s2.2.2.2.2.1 s3 hW hWH hi hj hm hn
      obtain ⟨h2, t1, t2, t3⟩ := L_xmo hWX hp (show i' < 8 by omega) y2 c many 64 0 1000 (0, -1) h1 (by omega) (by omega) s2
      rw [← n64_eq] at t1
      have t1' : l_X11_most_88 c many a y 1000 (-1 : Int32) (0 : Int32) (0 : Int32) h1 = some ((moG many (hdS S H X p i' j' m n c) n64 0 (0, -1)).1, h2) := t1
      refine ⟨h2, ?_, gz_of s4 s2.2.2.1 t3 (nAP s2.2.2.1 (by decide)), t2.2.2.1, s5.tr (t3.mono (fun _ _ z => Or.inr (Or.inr z)))⟩
      rw [if_pos rfl, if_pos rfl, if_pos rfl, if_pos rfl, hf, Option.bind_some, om_some, hf2, Option.bind_some, om_some, s1, Option.bind_some, en, y1, Option.bind_some, t1', Option.bind_some, ei, ej2, hci, hcj, hcn]
    · exfalso
      unfold isPl at hpl
      rw [hzh] at hpl
      simp at hpl
  · exfalso
    unfold isPl at hpl
    rw [hzs] at hpl
    simp at hpl
