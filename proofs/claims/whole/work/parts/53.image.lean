/-! ===== image, back ===== -/
abbrev IM : Type := Bool × Nat × Int32 × Nat × (Nat → Nat → Int32)
def Rim (g : Nat → Nat → Int32) (h : HS) (i : Nat) : Prop := hI h 84 (4 * i) = g 6 i ∧ hI h 84 (4 * i + 1) = g 3 i ∧ hI h 84 (4 * i + 2) = g 4 i ∧ hI h 84 (4 * i + 3) = g 5 i
def Mim (I : IM) (h : HS) : Prop := (hI h 60 49 = if I.1 = true then 1 else 0) ∧ (I.1 = true → hI h 60 50 = nI I.2.1 ∧ I.2.1 ≤ 8 ∧ hI h 60 51 = I.2.2.1 ∧ hI h 60 52 = nI I.2.2.2.1 ∧ ∀ i, i < I.2.1 → Rim I.2.2.2.2 h i)
def Xim (I : IM) (h : HS) : Prop := (hI h 44 0 = if I.1 = true then 1 else 0) ∧ (I.1 = true → hI h 44 1 = nI I.2.1 ∧ I.2.1 ≤ 8 ∧ hI h 44 2 = I.2.2.1 ∧ hI h 44 3 = nI I.2.2.2.1 ∧ ∀ i f, i < I.2.1 → f < 4 → hI h 45 (4 * i + f) = I.2.2.2.2 (3 + f) i)
def Wim (I : IM) (S T : TB) : Prop := I.1 = true → I.2.1 ≤ S.1 ∧ I.2.2.2.1 ≤ T.1
def u_image (S T : TB) (r : Int32) : IM := (true, S.1, r, T.1, S.2)
def u_bkS (S : TB) (k : Nat) (g : Nat → Nat → Int32) : TB := (S.1, fun f i => if i < k then (if 3 ≤ f then g f i else S.2 f i) else S.2 f i)
def u_bkT (T : TB) (n : Nat) : TB := (n, T.2)
theorem Mim.fr {I : IM} {g : Nat} {h h' : HS} (hZ : Mim I h) (F : Fr g h h') (hg : g ≠ 7) : Mim I h' := by
  have f := F.2.2.2.2.2.1
  have q : ∀ a k, grp a k = 7 → hI h' a k = hI h a k := fun a k e => f a k (by rw [e]; exact fun z => hg z.symm) (by rw [e]; decide)
  obtain ⟨z1, z2⟩ := hZ
  refine ⟨by rw [q _ _ rfl]; exact z1, fun ht => ?_⟩
  rw [q _ _ rfl, q _ _ rfl, q _ _ rfl]
  obtain ⟨y1, y2, y3, y4, y5⟩ := z2 ht
  refine ⟨y1, y2, y3, y4, fun i hi => ?_⟩
  unfold Rim
  rw [q _ _ rfl, q _ _ rfl, q _ _ rfl, q _ _ rfl]
  exact y5 i hi
theorem L_mimage {S : TB} : ∀ (d k f : Nat) (h : HS), k + d = S.1 → d < f → Mst S h → (∀ i, i < k → Rim S.2 h i) → ∃ h', l_X12_image_31 f (nI k) h = some h' ∧ (∀ i, i < S.1 → Rim S.2 h' i) ∧ Fr 7 h h' ∧ ∀ j, hI h' 60 j = hI h 60 j := by
  intro d
  induction d with
  | zero =>
    intro k f h hk hf hS hR0
    obtain ⟨f, rfl⟩ : ∃ f', f = f' + 1 := ⟨f - 1, by omega⟩
    have h8 := hS.2.1
    refine ⟨h, ?_, fun i hi => hR0 i (by omega), Fr.rf, fun _ => rfl⟩
    rw [l_X12_image_31, hS.1, if_pos (nI_le (by omega) (by omega))]
  | succ d ih =>
    intro k f h hk hf hS hR0
    obtain ⟨f, rfl⟩ : ∃ f', f = f' + 1 := ⟨f - 1, by omega⟩
    have h8 := hS.2.1
    have hn := hS.1
    obtain ⟨r0, r1, r2, r3, r4, r5, r6⟩ := hS.2.2 k (by omega)
    have e4 : (4 : Int32) * nI k = nI (4 * k) := pk_mul 4 k
    have a1 : nI (4 * k) + (1 : Int32) = nI (4 * k + 1) := nI_add _ 1
    have a2 : nI (4 * k) + (2 : Int32) = nI (4 * k + 2) := nI_add _ 2
    have a3 : nI (4 * k) + (3 : Int32) = nI (4 * k + 3) := nI_add _ 3
    have x8 := ixb_n (i := k) (n := 8) (by omega) (by decide)
    have x0 := ixb_n (i := 4 * k) (n := 32) (by omega) (by decide)
    have x1 := ixb_n (i := 4 * k + 1) (n := 32) (by omega) (by decide)
    have x2 := ixb_n (i := 4 * k + 2) (n := 32) (by omega) (by decide)
    have x3 := ixb_n (i := 4 * k + 3) (n := 32) (by omega) (by decide)
    have ck : (nI k).toNatClampNeg = k := nI_clamp (by omega)
    have c0 : (nI (4 * k)).toNatClampNeg = 4 * k := nI_clamp (by omega)
    have c1 : (nI (4 * k + 1)).toNatClampNeg = 4 * k + 1 := nI_clamp (by omega)
    have c2 : (nI (4 * k + 2)).toNatClampNeg = 4 * k + 2 := nI_clamp (by omega)
    have c3 : (nI (4 * k + 3)).toNatClampNeg = 4 * k + 3 := nI_clamp (by omega)
    have F1 : Fr 7 h (sI (sI (sI (sI h 84 (4 * k) (S.2 6 k)) 84 (4 * k + 1) (S.2 3 k)) 84 (4 * k + 2) (S.2 4 k)) 84 (4 * k + 3) (S.2 5 k)) := by (repeat (first | exact Fr.rf | assumption | refine Fr.sI ?_ (by first | exact Or.inl rfl | exact Or.inr rfl) | refine Fr.sL ?_ (by first | exact Or.inl rfl | exact Or.inr rfl)))
    have step : l_X12_image_31 (f + 1) (nI k) h = l_X12_image_31 f (nI (k + 1)) (sI (sI (sI (sI h 84 (4 * k) (S.2 6 k)) 84 (4 * k + 1) (S.2 3 k)) 84 (4 * k + 2) (S.2 4 k)) 84 (4 * k + 3) (S.2 5 k)) := by
      rw [l_X12_image_31, hn, if_neg (nI_ge (by omega) (by omega))]
      simp (config := { decide := true }) only [e4, a1, a2, a3, x8, x0, x1, x2, x3, ck, c0, c1, c2, c3, bh_eq, hI_sI, hI_sL, hI_sR, hL_sI, hL_sL, hL_sR, hR_sI, hR_sL, hR_sR, hT_sI, hT_sL, hT_sR, hLn_sI, hLn_sL, hLn_sR, hN_sI, hN_sL, hN_sR, if_true, if_false, r3, r4, r5, r6, nI_1]
    rw [step]
    obtain ⟨h', s1, s2, s3, s4⟩ := ih (k + 1) f _ (by omega) (by omega) (hS.fr F1 (by decide)) (fun i hi => by
      by_cases e : i = k
      · subst e
        simp [Rim, hI_sI, hI_sL, hI_sR, hL_sI, hL_sL, hL_sR, hR_sI, hR_sL, hR_sR, hT_sI, hT_sL, hT_sR, hLn_sI, hLn_sL, hLn_sR, hN_sI, hN_sL, hN_sR]
      · obtain ⟨t1, t2, t3, t4⟩ := hR0 i (by omega)
        simp only [Rim, hI_sI, if_true]
        rw [if_neg (by omega), if_neg (by omega), if_neg (by omega), if_neg (by omega), if_neg (by omega), if_neg (by omega), if_neg (by omega), if_neg (by omega), if_neg (by omega), if_neg (by omega), if_neg (by omega), if_neg (by omega), if_neg (by omega), if_neg (by omega), if_neg (by omega), if_neg (by omega)]
        exact ⟨t1, t2, t3, t4⟩)
    exact ⟨h', s1, s2, F1.tr s3, fun j => (s4 j).trans (by simp (config := { decide := true }) [hI_sI, hI_sL, hI_sR, hL_sI, hL_sL, hL_sR, hR_sI, hR_sL, hR_sR, hT_sI, hT_sL, hT_sR, hLn_sI, hLn_sL, hLn_sR, hN_sI, hN_sL, hN_sR])⟩
theorem M_image {S T : TB} {r : Int32} {h : HS} (hS : Mst S h) (hT0 : Mtr T h) (hr : hI h 60 4 = r) : ∃ h', f_X12_image h = some (nI T.1, h') ∧ Mim (u_image S T r) h' ∧ Fr 7 h h' := by
  have F1 : Fr 7 h (sI (sI (sI (sI h 60 49 1) 60 50 (nI S.1)) 60 51 r) 60 52 (nI T.1)) := by (repeat (first | exact Fr.rf | assumption | refine Fr.sI ?_ (by first | exact Or.inl rfl | exact Or.inr rfl) | refine Fr.sL ?_ (by first | exact Or.inl rfl | exact Or.inr rfl)))
  obtain ⟨h', s1, s2, s3, s4⟩ := L_mimage S.1 0 1000 _ (by omega) (by have := hS.2.1; omega) (hS.fr F1 (by decide)) (fun i hi => absurd hi (by omega))
  refine ⟨h', ?_, ⟨by rw [s4]; simp (config := { decide := true }) [hI_sI, hI_sL, hI_sR, hL_sI, hL_sL, hL_sR, hR_sI, hR_sL, hR_sR, hT_sI, hT_sL, hT_sR, hLn_sI, hLn_sL, hLn_sR, hN_sI, hN_sL, hN_sR, u_image], fun _ => ⟨by rw [s4]; simp (config := { decide := true }) [hI_sI, hI_sL, hI_sR, hL_sI, hL_sL, hL_sR, hR_sI, hR_sL, hR_sR, hT_sI, hT_sL, hT_sR, hLn_sI, hLn_sL, hLn_sR, hN_sI, hN_sL, hN_sR, u_image], hS.2.1, by rw [s4]; simp (config := { decide := true }) [hI_sI, hI_sL, hI_sR, hL_sI, hL_sL, hL_sR, hR_sI, hR_sL, hR_sR, hT_sI, hT_sL, hT_sR, hLn_sI, hLn_sL, hLn_sR, hN_sI, hN_sL, hN_sR, u_image], by rw [s4]; simp (config := { decide := true }) [hI_sI, hI_sL, hI_sR, hL_sI, hL_sL, hL_sR, hR_sI, hR_sL, hR_sR, hT_sI, hT_sL, hT_sR, hLn_sI, hLn_sL, hLn_sR, hN_sI, hN_sL, hN_sR, u_image], s2⟩⟩, F1.tr s3⟩
  have hT1 := hT0.1
  have hS1 := hS.1
  unfold f_X12_image
  have s1' : l_X12_image_31 1000 (0 : Int32) (sI (sI (sI (sI h 60 49 1) 60 50 (nI S.1)) 60 51 r) 60 52 (nI T.1)) = some h' := s1
  simp (config := { decide := true }) only [bh_eq, hI_sI, hI_sL, hI_sR, hL_sI, hL_sL, hL_sR, hR_sI, hR_sL, hR_sR, hT_sI, hT_sL, hT_sR, hLn_sI, hLn_sL, hLn_sR, hN_sI, hN_sL, hN_sR, if_true, if_false, hS1, hr, hT1, s1', Option.bind_some, s4]
theorem L_mback {S : TB} {n : Nat} {g : Nat → Nat → Int32} (hn : n ≤ S.1) : ∀ (d k f : Nat) (h : HS), k + d = n → d < f → Mst (u_bkS S k g) h → hI h 60 50 = nI n → (∀ i, i < n → Rim g h i) → ∃ h', l_X12_back_28 f (nI k) h = some h' ∧ Mst (u_bkS S n g) h' ∧ Fr 1 h h' ∧ ∀ j, hI h' 60 j = hI h 60 j := by
  intro d
  induction d with
  | zero =>
    intro k f h hk hf hS h50 hR0
    obtain ⟨f, rfl⟩ : ∃ f', f = f' + 1 := ⟨f - 1, by omega⟩
    have h8 := hS.2.1
    have h8' : S.1 ≤ 8 := h8
    have : k = n := by omega
    subst this
    refine ⟨h, ?_, hS, Fr.rf, fun _ => rfl⟩
    rw [l_X12_back_28, h50, if_pos (nI_le (by omega) (by omega))]
  | succ d ih =>
    intro k f h hk hf hS h50 hR0
    obtain ⟨f, rfl⟩ : ∃ f', f = f' + 1 := ⟨f - 1, by omega⟩
    have h8' : S.1 ≤ 8 := hS.2.1
    obtain ⟨t1, t2, t3, t4⟩ := hR0 k (by omega)
    have e4 : (4 : Int32) * nI k = nI (4 * k) := pk_mul 4 k
    have a1 : nI (4 * k) + (1 : Int32) = nI (4 * k + 1) := nI_add _ 1
    have a2 : nI (4 * k) + (2 : Int32) = nI (4 * k + 2) := nI_add _ 2
    have a3 : nI (4 * k) + (3 : Int32) = nI (4 * k + 3) := nI_add _ 3
    have x8 := ixb_n (i := k) (n := 8) (by omega) (by decide)
    have x0 := ixb_n (i := 4 * k) (n := 32) (by omega) (by decide)
    have x1 := ixb_n (i := 4 * k + 1) (n := 32) (by omega) (by decide)
    have x2 := ixb_n (i := 4 * k + 2) (n := 32) (by omega) (by decide)
    have x3 := ixb_n (i := 4 * k + 3) (n := 32) (by omega) (by decide)
    have ck : (nI k).toNatClampNeg = k := nI_clamp (by omega)
    have c0 : (nI (4 * k)).toNatClampNeg = 4 * k := nI_clamp (by omega)
    have c1 : (nI (4 * k + 1)).toNatClampNeg = 4 * k + 1 := nI_clamp (by omega)
    have c2 : (nI (4 * k + 2)).toNatClampNeg = 4 * k + 2 := nI_clamp (by omega)
    have c3 : (nI (4 * k + 3)).toNatClampNeg = 4 * k + 3 := nI_clamp (by omega)
    have F1 : Fr 1 h (sI (sI (sI (sI h 70 k (g 6 k)) 67 k (g 3 k)) 68 k (g 4 k)) 69 k (g 5 k)) := by (repeat (first | exact Fr.rf | assumption | refine Fr.sI ?_ (by first | exact Or.inl rfl | exact Or.inr rfl) | refine Fr.sL ?_ (by first | exact Or.inl rfl | exact Or.inr rfl)))
    have step : l_X12_back_28 (f + 1) (nI k) h = l_X12_back_28 f (nI (k + 1)) (sI (sI (sI (sI h 70 k (g 6 k)) 67 k (g 3 k)) 68 k (g 4 k)) 69 k (g 5 k)) := by
      rw [l_X12_back_28, h50, if_neg (nI_ge (by omega) (by omega))]
      simp (config := { decide := true }) only [e4, a1, a2, a3, x8, x0, x1, x2, x3, ck, c0, c1, c2, c3, bh_eq, hI_sI, hI_sL, hI_sR, hL_sI, hL_sL, hL_sR, hR_sI, hR_sL, hR_sR, hT_sI, hT_sL, hT_sR, hLn_sI, hLn_sL, hLn_sR, hN_sI, hN_sL, hN_sR, if_true, if_false, t1, t2, t3, t4, nI_1]
    rw [step]
    obtain ⟨hS1, hS2, hS3⟩ := hS
    have hS' : Mst (u_bkS S (k + 1) g) (sI (sI (sI (sI h 70 k (g 6 k)) 67 k (g 3 k)) 68 k (g 4 k)) 69 k (g 5 k)) := by
      refine ⟨by simp (config := { decide := true }) only [hI_sI, if_false]; exact hS1, hS2, fun i hi => ?_⟩
      have hi' : i < S.1 := hi
      obtain ⟨r0, r1, r2, r3, r4, r5, r6⟩ := hS3 i hi
      by_cases e : i = k
      · subst e
        simp (config := { decide := true }) only [u_bkS, if_neg (Nat.lt_irrefl i)] at r0 r1 r2
        simp (config := { decide := true }) only [u_bkS, if_pos (Nat.lt_succ_self i), hI_sI, if_true, if_false, r0, r1, r2, and_self]
      · have hl : (i < k + 1) = (i < k) := propext ⟨fun z => by omega, fun z => by omega⟩
        simp only [u_bkS] at r0 r1 r2 r3 r4 r5 r6
        simp (config := { decide := true }) only [u_bkS, hl, hI_sI, if_true, if_false, if_neg e]
        exact ⟨r0, r1, r2, r3, r4, r5, r6⟩
    obtain ⟨h', s1, s2, s3, s4⟩ := ih (k + 1) f _ (by omega) (by omega) hS' (by simp (config := { decide := true }) only [hI_sI, if_false]; exact h50) (fun i hi => by
        unfold Rim
        simp (config := { decide := true }) only [hI_sI, if_false]
        exact hR0 i hi)
    exact ⟨h', s1, s2, F1.tr s3, fun j => (s4 j).trans (by simp (config := { decide := true }) [hI_sI, hI_sL, hI_sR, hL_sI, hL_sL, hL_sR, hR_sI, hR_sL, hR_sR, hT_sI, hT_sL, hT_sR, hLn_sI, hLn_sL, hLn_sR, hN_sI, hN_sL, hN_sR])⟩
theorem u_bkS_0 {S : TB} {g : Nat → Nat → Int32} : u_bkS S 0 g = S := by
  unfold u_bkS
  simp
/-- the rule goes back first, then the tries, then the stalls -/
theorem M_back {S T : TB} {I : IM} {h : HS} (hS : Mst S h) (hT0 : Mtr T h) (hI0 : Mim I h) (hW : Wim I S T) : (I.1 = false ∧ f_X12_back h = some (-3, h)) ∨ (I.1 = true ∧ ∃ h', f_X12_back h = some (nI I.2.2.2.1, h') ∧ Fr 1 (sI (sI h 60 4 I.2.2.1) 60 25 (nI I.2.2.2.1)) h' ∧ Mst (u_bkS S I.2.1 I.2.2.2.2) h' ∧ Mtr (u_bkT T I.2.2.2.1) h' ∧ hI h' 60 4 = I.2.2.1 ∧ Mim I h') := by
  obtain ⟨z1, z2⟩ := hI0
  cases ht : I.1
  · refine Or.inl ⟨rfl, ?_⟩
    unfold f_X12_back
    rw [z1, ht]
    rfl
  · refine Or.inr ⟨rfl, ?_⟩
    obtain ⟨y1, y2, y3, y4, y5⟩ := z2 ht
    obtain ⟨w1, w2⟩ := hW ht
    have hSs : Mst S (sI (sI h 60 4 I.2.2.1) 60 25 (nI I.2.2.2.1)) := by
      obtain ⟨q1, q2, q3⟩ := hS
      refine ⟨by simp (config := { decide := true }) only [hI_sI, if_true, if_false]; exact q1, q2, fun i hi => ?_⟩
      simp (config := { decide := true }) only [hI_sI, if_false]
      exact q3 i hi
    obtain ⟨h', s1, s2, s3, s4⟩ := L_mback (S := S) (g := I.2.2.2.2) w1 I.2.1 0 1000 (sI (sI h 60 4 I.2.2.1) 60 25 (nI I.2.2.2.1)) (by omega) (by omega) (by rw [u_bkS_0]; exact hSs) (by simp (config := { decide := true }) only [hI_sI, if_true, if_false]; exact y1) (fun i hi => by
      unfold Rim
      simp (config := { decide := true }) only [hI_sI, if_false]
      exact y5 i hi)
    have s1' : l_X12_back_28 1000 (0 : Int32) (sI (sI h 60 4 I.2.2.1) 60 25 (nI I.2.2.2.1)) = some h' := s1
    have hz1 : ¬ hI h 60 49 = 0 := by rw [z1, ht]; decide
    have hTs : Mtr (u_bkT T I.2.2.2.1) (sI (sI h 60 4 I.2.2.1) 60 25 (nI I.2.2.2.1)) := by
      obtain ⟨q1, q2, q3⟩ := hT0
      refine ⟨by simp (config := { decide := true }) only [hI_sI, if_true, if_false, u_bkT], by simp only [u_bkT]; omega, fun i hi => ?_⟩
      simp (config := { decide := true }) only [hI_sI, if_false]
      have hi2 : i < I.2.2.2.1 := hi
      exact q3 i (by omega)
    have hIs : Mim I (sI (sI h 60 4 I.2.2.1) 60 25 (nI I.2.2.2.1)) := by
      refine ⟨by simp (config := { decide := true }) only [hI_sI, if_true, if_false]; exact z1, fun _ => ?_⟩
      simp (config := { decide := true }) only [hI_sI, if_true, if_false, Rim]
      exact ⟨y1, y2, y3, y4, y5⟩
    refine ⟨h', ?_, s3, s2, hTs.fr s3 (by decide), by rw [s4]; simp (config := { decide := true }) [hI_sI, hI_sL, hI_sR, hL_sI, hL_sL, hL_sR, hR_sI, hR_sL, hR_sR, hT_sI, hT_sL, hT_sR, hLn_sI, hLn_sL, hLn_sR, hN_sI, hN_sL, hN_sR], hIs.fr s3 (by decide)⟩
    unfold f_X12_back
    simp (config := { decide := true }) only [if_neg hz1, hI_sI, hI_sL, hI_sR, hL_sI, hL_sL, hL_sR, hR_sI, hR_sL, hR_sR, hT_sI, hT_sL, hT_sR, hLn_sI, hLn_sL, hLn_sR, hN_sI, hN_sL, hN_sR, if_true, if_false, y3, y4, s1', Option.bind_some, s4]
