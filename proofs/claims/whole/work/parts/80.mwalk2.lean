/-! ===== walk: the reference ===== -/
theorem L_mg23 {S H : TB} (hW : Wst S) (hWH : Wha H) {j : Nat} (hj : j < H.1) (y1 y2 y4 : Int32) {c : Nat} (hc : c ≤ 200) {T : Nat → Int32} : ∀ (d k f : Nat) (h : HS) (v : Int32), k + d = S.1 → d < f → Mst S h → (∀ i, i < S.1 → hI h 82 i = bw S H i j) → (∀ i, i < c → hI h 83 i = T i) → hI h 83 c = v → ∃ h', l_X12_goes_23 y1 y2 (allI H j) y4 (nI c) f (nI k) h = some h' ∧ (∀ i, i < c → hI h' 83 i = T i) ∧ hI h' 83 c = mnG T (wkf S H j) (wkp S) c d k v ∧ (∀ a i, a ≠ 83 → hI h' a i = hI h a i) ∧ Fr 0 h h' := by
  intro d
  induction d with
  | zero =>
    intro k f h v hk hf hS hB hT hv
    obtain ⟨f, rfl⟩ : ∃ f', f = f' + 1 := ⟨f - 1, by omega⟩
    have h8 := hS.2.1
    refine ⟨h, ?_, hT, hv, fun _ _ _ => rfl, Fr.rf⟩
    rw [l_X12_goes_23, hS.1, if_pos (nI_le (by omega) (by omega))]
  | succ d ih =>
    intro k f h v hk hf hS hB hT hv
    obtain ⟨f, rfl⟩ : ∃ f', f = f' + 1 := ⟨f - 1, by omega⟩
    have h8 := hS.2.1
    have hk' : k < S.1 := by omega
    obtain ⟨p1, p2, p3⟩ := wkp_1 hW hk'
    have haz := allI_Z hWH hj
    have hx := ixb_n (i := k) (n := 8) (by omega) (by decide)
    have hcl : (nI k).toNatClampNeg = k := nI_clamp (by omega)
    have hx2 := ixb_n (i := c) (n := 201) (by omega) (by decide)
    have hcl2 : (nI c).toNatClampNeg = c := nI_clamp (by omega)
    have hpr : hI h 67 k = nI (wkp S k) := ((hS.2.2 k hk').2.2.2.1).trans p3
    rw [l_X12_goes_23, hS.1, if_neg (nI_ge (by omega) (by omega)), if_pos hx, hcl, hpr, nI_1, mnG]
    by_cases hp : wkp S k ≤ c
    · have e1 : nI c - nI (wkp S k) = nI (c - wkp S k) := by
        rw [i32_eqZ, i32_subZ (by rw [nI_Z (by omega), nI_Z (by omega)]; omega) (by rw [nI_Z (by omega), nI_Z (by omega)]; omega), nI_Z (by omega), nI_Z (by omega), nI_Z (by omega)]
        omega
      have hx3 := ixb_n (i := c - wkp S k) (n := 201) (by omega) (by decide)
      have hcl3 : (nI (c - wkp S k)).toNatClampNeg = c - wkp S k := nI_clamp (by omega)
      have hfl := M_fails (h := h) (x := hI h 83 (c - wkp S k)) (all := allI H j) (s := k) (by omega) haz.1 (hB k hk')
      rw [hT (c - wkp S k) (by omega)] at hfl
      rw [if_pos (nI_le hp (by omega)), if_pos hx, e1, if_pos hx3, hcl3, hT (c - wkp S k) (by omega), hfl, Option.bind_some, if_pos hx2, hcl2, hv, if_pos hp]
      have hwf : wkf S H j k (T (c - wkp S k)) = fA (T (c - wkp S k)) (allI H j - bw S H k j) (allI H j) := rfl
      rw [hwf]
      by_cases hq : v ≤ fA (T (c - wkp S k)) (allI H j - bw S H k j) (allI H j)
      · rw [if_pos hq, if_pos hx2, if_pos hx2, if_pos hq]
        have F1 : Fr 0 h (sI h 83 c v) := Fr.sI Fr.rf (Or.inl rfl)
        obtain ⟨h', u1, u2, u3, u4, u5⟩ := ih (k + 1) f (sI h 83 c v) v (by omega) (by omega) (hS.fr F1 (by decide)) (fun i hi => by rw [hI_sI, if_neg (by decide)]; exact hB i hi) (fun i hi => by rw [hI_sI, if_pos rfl, if_neg (by omega)]; exact hT i hi) (by rw [hI_sI, if_pos rfl, if_pos rfl])
        exact ⟨h', u1, u2, u3, fun a i ha => by rw [u4 a i ha, hI_sI, if_neg ha], F1.tr u5⟩
      · rw [if_neg hq, if_pos hx2, if_neg hq]
        have F1 : Fr 0 h (sI h 83 c (fA (T (c - wkp S k)) (allI H j - bw S H k j) (allI H j))) := Fr.sI Fr.rf (Or.inl rfl)
        obtain ⟨h', u1, u2, u3, u4, u5⟩ := ih (k + 1) f (sI h 83 c (fA (T (c - wkp S k)) (allI H j - bw S H k j) (allI H j))) (fA (T (c - wkp S k)) (allI H j - bw S H k j) (allI H j)) (by omega) (by omega) (hS.fr F1 (by decide)) (fun i hi => by rw [hI_sI, if_neg (by decide)]; exact hB i hi) (fun i hi => by rw [hI_sI, if_pos rfl, if_neg (by omega)]; exact hT i hi) (by rw [hI_sI, if_pos rfl, if_pos rfl])
        exact ⟨h', u1, u2, u3, fun a i ha => by rw [u4 a i ha, hI_sI, if_neg ha], F1.tr u5⟩
    · rw [if_neg (nI_ge (by omega) (by omega)), if_neg hp]
      exact ih (k + 1) f h v (by omega) (by omega) hS hB hT hv
theorem L_mg6 {S H : TB} (hW : Wst S) (hWH : Wha H) {j : Nat} (hj : j < H.1) (a : Int32) {C : Nat} (hC : C ≤ 200) : ∀ (d c f : Nat) (h : HS), c + d = C + 1 → d < f → Mst S h → (∀ i, i < S.1 → hI h 82 i = bw S H i j) → (∀ i, i < c → hI h 83 i = gTab (wkf S H j) (wkp S) S.1 a c i) → ∃ h', l_X12_goes_6 a (nI C) (allI H j) f (gLst (wkf S H j) (wkp S) S.1 a c) (nI c) h = some (a_goes S H j a C, h') ∧ (∀ b i, b ≠ 83 → hI h' b i = hI h b i) ∧ Fr 0 h h' := by
  intro d
  induction d with
  | zero =>
    intro c f h hk hf hS hB hT
    obtain ⟨f, rfl⟩ : ∃ f', f = f' + 1 := ⟨f - 1, by omega⟩
    have : c = C + 1 := by omega
    subst this
    refine ⟨h, ?_, fun _ _ _ => rfl, Fr.rf⟩
    rw [l_X12_goes_6, if_pos (nI_lt (by omega) (by omega))]
    rfl
  | succ d ih =>
    intro c f h hk hf hS hB hT
    obtain ⟨f, rfl⟩ : ∃ f', f = f' + 1 := ⟨f - 1, by omega⟩
    have h8 := hS.2.1
    have hx2 := ixb_n (i := c) (n := 201) (by omega) (by decide)
    have hcl2 : (nI c).toNatClampNeg = c := nI_clamp (by omega)
    have F1 : Fr 0 h (sI h 83 c a) := Fr.sI Fr.rf (Or.inl rfl)
    obtain ⟨h1, s1, s2, s3, s4, s5⟩ := L_mg23 hW hWH hj a (nI C) (gLst (wkf S H j) (wkp S) S.1 a c) (c := c) (by omega) (T := gTab (wkf S H j) (wkp S) S.1 a c) S.1 0 1000 (sI h 83 c a) a (by omega) (by omega) (hS.fr F1 (by decide)) (fun i hi => by rw [hI_sI, if_neg (by decide)]; exact hB i hi) (fun i hi => by rw [hI_sI, if_pos rfl, if_neg (by omega)]; exact hT i hi) (by rw [hI_sI, if_pos rfl, if_pos rfl])
    rw [nI_0] at s1
    have F2 := F1.tr s5
    have hB1 : ∀ i, i < S.1 → hI h1 82 i = bw S H i j := fun i hi => by rw [s4 82 i (by decide), hI_sI, if_neg (by decide)]; exact hB i hi
    have hT1 : ∀ i, i < c + 1 → hI h1 83 i = gTab (wkf S H j) (wkp S) S.1 a (c + 1) i := fun i hi => by
      rw [gTab]
      by_cases e : i = c
      · rw [if_pos e, e]; exact s3
      · rw [if_neg e]; exact s2 i (by omega)
    obtain ⟨h', u1, u2, u3⟩ := ih (c + 1) f h1 (by omega) (by omega) (hS.fr F2 (by decide)) hB1 hT1
    refine ⟨h', ?_, fun b i hb => by rw [u2 b i hb, s4 b i hb, hI_sI, if_neg hb], F2.tr u3⟩
    rw [l_X12_goes_6, if_neg (nI_nlt (by omega) (by omega)), if_pos hx2, hcl2, s1, Option.bind_some, if_pos hx2, s3, nI_1]
    rw [gLst] at u1
    by_cases hq : gLst (wkf S H j) (wkp S) S.1 a c ≤ mnG (gTab (wkf S H j) (wkp S) S.1 a c) (wkf S H j) (wkp S) c S.1 0 a
    · rw [if_pos hq] at u1
      rw [if_pos hq]
      exact u1
    · rw [if_neg hq] at u1
      rw [if_neg hq, if_pos hx2]
      exact u1
theorem M_goes {S H : TB} {h : HS} (hW : Wst S) (hWH : Wha H) {j : Nat} (hj : j < H.1) (a : Int32) {C : Nat} (hC : C ≤ 200) (hS : Mst S h) (hB : ∀ i, i < S.1 → hI h 82 i = bw S H i j) : ∃ h', f_X12_goes a (nI C) (allI H j) h = some (a_goes S H j a C, h') ∧ (∀ i, i < S.1 → hI h' 82 i = bw S H i j) ∧ Fr 0 h h' := by
  obtain ⟨h', s1, s2, s3⟩ := L_mg6 hW hWH hj a hC (C + 1) 0 1000 h (by omega) (by omega) hS hB (fun i hi => by omega)
  refine ⟨h', ?_, fun i hi => by rw [s2 82 i (by decide)]; exact hB i hi, s3⟩
  unfold f_X12_goes
  have s1' : l_X12_goes_6 a (nI C) (allI H j) 1000 a (0 : Int32) h = some (a_goes S H j a C, h') := s1
  rw [s1']
  rfl
theorem L_mw91 {S H : TB} (hW : Wst S) (hWH : Wha H) {j : Nat} (hj : j < H.1) {C : Nat} (hC : C ≤ 200) {least : Int32} (hl : ¬ (1000000 : Int32) ≤ least) : ∀ (d k f : Nat) (h : HS), k + d = S.1 → d < f → Mst S h → (∀ i, i < S.1 → hI h 82 i = bw S H i j) → ∃ h' r, l_X12_walk_91 (nI C) (allI H j) least f (nI k) h = some r ∧ Sum.elim (fun v => some v) (fun e => some ((-1 : Int32), e)) r = some (fstW S H j C least d k, h') ∧ Fr 0 h h' := by
  intro d
  induction d with
  | zero =>
    intro k f h hk hf hS hB
    obtain ⟨f, rfl⟩ : ∃ f', f = f' + 1 := ⟨f - 1, by omega⟩
    have h8 := hS.2.1
    refine ⟨h, Sum.inr h, ?_, rfl, Fr.rf⟩
    rw [l_X12_walk_91, hS.1, if_pos (nI_le (by omega) (by omega))]
  | succ d ih =>
    intro k f h hk hf hS hB
    obtain ⟨f, rfl⟩ : ∃ f', f = f' + 1 := ⟨f - 1, by omega⟩
    have h8 := hS.2.1
    have hk' : k < S.1 := by omega
    obtain ⟨p1, p2, p3⟩ := wkp_1 hW hk'
    have haz := allI_Z hWH hj
    have hx := ixb_n (i := k) (n := 8) (by omega) (by decide)
    have hcl : (nI k).toNatClampNeg = k := nI_clamp (by omega)
    have hpr : hI h 67 k = nI (wkp S k) := ((hS.2.2 k hk').2.2.2.1).trans p3
    rw [l_X12_walk_91, hS.1, if_neg (nI_ge (by omega) (by omega)), if_neg hl, if_pos hx, hcl, hpr, nI_1, fstW]
    by_cases hp : wkp S k ≤ C
    · have e1 : nI C - nI (wkp S k) = nI (C - wkp S k) := by
        rw [i32_eqZ, i32_subZ (by rw [nI_Z (by omega), nI_Z (by omega)]; omega) (by rw [nI_Z (by omega), nI_Z (by omega)]; omega), nI_Z (by omega), nI_Z (by omega), nI_Z (by omega)]
        omega
      have hfl := M_fails (h := h) (x := 1000000) (all := allI H j) (s := k) (by omega) haz.1 (hB k hk')
      obtain ⟨h1, s1, s2, s3⟩ := M_goes hW hWH hj (wkf S H j k 1000000) (C := C - wkp S k) (by omega) hS hB
      have hfl' : f_X12_fails 1000000 (nI k) (allI H j) h = some (wkf S H j k 1000000) := hfl
      rw [if_neg (nI_nlt hp (by omega)), hfl', Option.bind_some, if_pos hx, e1, s1, Option.bind_some, if_pos hp]
      by_cases hq : a_goes S H j (wkf S H j k 1000000) (C - wkp S k) = least
      · rw [if_pos hq, if_pos hq]
        exact ⟨h1, Sum.inl (nI k, h1), rfl, rfl, s3⟩
      · rw [if_neg hq, if_neg hq]
        obtain ⟨h', r, u1, u2, u3⟩ := ih (k + 1) f h1 (by omega) (by omega) (hS.fr s3 (by decide)) s2
        exact ⟨h', r, u1, u2, s3.tr u3⟩
    · rw [if_pos (nI_lt (by omega) (by omega)), if_neg hp]
      exact ih (k + 1) f h (by omega) (by omega) hS hB
theorem M_walk {S H : TB} {h : HS} (hS : Mst S h) (hW : Wst S) (hH : Mha H h) (hWH : Wha H) (j c w : Int32) : ∃ h', f_X12_walk j c w h = some (a_walk S H j c w, h') ∧ Fr 0 h h' := by
  have e200 : (200 : Int64).toInt = 200 := rfl
  have e0 : (0 : Int64).toInt = 0 := rfl
  rcases ix_case j H.1 with ⟨j, hj, rfl, hz2⟩ | hz2
  · cases hc : inZ c.toInt 0 200
    · refine ⟨h, ?_, Fr.rf⟩
      unfold f_X12_walk a_walk
      rw [M_isHand hH, hz2, f_in_eq, Int32.toInt_toInt64, e0, e200, hc]
      simp only [Option.bind_some, if_true, Bool.false_eq_true, if_false]
    cases hp : inZ w.toInt 0 1
    · refine ⟨h, ?_, Fr.rf⟩
      unfold f_X12_walk a_walk
      rw [M_isHand hH, hz2, f_in_eq, Int32.toInt_toInt64, e0, e200, hc, M_isPart, hp]
      simp only [Option.bind_some, if_true, Bool.false_eq_true, if_false]
    · have h8 := hS.2.1
      have h6 := hH.2.1
      obtain ⟨C, hC, rfl⟩ : ∃ C, C ≤ 200 ∧ c = nI C := by
        obtain ⟨c1, c2⟩ := inZ_t.mp hc
        exact ⟨c.toInt.toNat, by omega, by rw [i32_eqZ, nI_Z (by omega)]; omega⟩
      have hcj : (nI j).toNatClampNeg = j := nI_clamp (by omega)
      have hcc : (nI C).toNatClampNeg = C := nI_clamp (by omega)
      obtain ⟨h1, s1, s2, s3⟩ := L_mw33 hW hWH (nI C) w hj S.1 0 1000 h (by omega) (by omega) hS hH (fun i hi => by omega)
      have s1' : l_X12_walk_33 (nI j) (nI C) w 1000 (0 : Int32) h = some h1 := s1
      have hS1 := hS.fr s3 (by decide)
      have hal := M_allOf (hH.fr s3 (by decide)) hj
      obtain ⟨h2, u1, u2, u3⟩ := M_goes hW hWH hj 1000000 hC hS1 s2
      have hS2 := hS1.fr u3 (by decide)
      have hle := gLst_le (f := wkf S H j) (p := wkp S) (n := S.1) (a := 1000000) (C + 1)
      have hle2 : (a_goes S H j 1000000 C).toInt ≤ 1000000 := hle
      have hgo : f_X12_walk (nI j) (nI C) w h = if w = 0 then some (a_goes S H j 1000000 C, h2) else Option.bind (l_X12_walk_91 (nI C) (allI H j) (a_goes S H j 1000000 C) 1000 (0 : Int32) h2) (fun q => Sum.elim (fun v => some v) (fun e => some ((-1 : Int32), e)) q) := by
        unfold f_X12_walk
        rw [M_isHand hH, hz2, f_in_eq, Int32.toInt_toInt64, e0, e200, hc, M_isPart, hp]
        simp only [Option.bind_some, if_true]
        rw [s1', Option.bind_some, hal, Option.bind_some, u1, Option.bind_some]
      have hans : a_walk S H (nI j) (nI C) w = if w = 0 then a_goes S H j 1000000 C else if a_goes S H j 1000000 C = 1000000 then -1 else fstW S H j C (a_goes S H j 1000000 C) S.1 0 := by
        unfold a_walk
        rw [hz2, hc, hp, hcj, hcc, if_pos rfl, if_pos rfl, if_pos rfl]
      rw [hgo, hans]
      by_cases hw0 : w = 0
      · rw [if_pos hw0, if_pos hw0]
        exact ⟨h2, rfl, s3.tr u3⟩
      · rw [if_neg hw0, if_neg hw0]
        by_cases hm : a_goes S H j 1000000 C = 1000000
        · rw [if_pos hm, hm]
          refine ⟨h2, ?_, s3.tr u3⟩
          obtain ⟨f, hf⟩ : ∃ f, 1000 = f + 1 := ⟨999, rfl⟩
          rw [hf, l_X12_walk_91, hS2.1]
          by_cases hn : nI S.1 ≤ (0 : Int32)
          · rw [if_pos hn]; rfl
          · rw [if_neg hn, if_pos (by decide)]; rfl
        · rw [if_neg hm]
          have hl : ¬ (1000000 : Int32) ≤ a_goes S H j 1000000 C := fun z => hm (by
            rw [i32_le0] at z
            rw [i32_eqZ]
            have : (1000000 : Int32).toInt = 1000000 := rfl
            omega)
          obtain ⟨h3, r, v1, v2, v3⟩ := L_mw91 hW hWH hj hC hl S.1 0 1000 h2 (by omega) (by omega) hS2 u2
          have v1' : l_X12_walk_91 (nI C) (allI H j) (a_goes S H j 1000000 C) 1000 (0 : Int32) h2 = some r := v1
          exact ⟨h3, by rw [v1', Option.bind_some]; exact v2, (s3.tr u3).tr v3⟩
  · refine ⟨h, ?_, Fr.rf⟩
    unfold f_X12_walk a_walk
    rw [M_isHand hH, hz2]
    simp only [Option.bind_some, Bool.false_eq_true, if_false]
