/-! ===== the tape; force; count ===== -/
abbrev BT : Type := Nat × (Nat → Int32)
def bpush (B : BT) (v : Int32) : BT := (B.1 + 1, fun i => if i = B.1 then v else B.2 i)
def byL (y : Int64) (k : Nat) : Int32 := (y >>> (((8 : Int32) * nI k).toInt64 &&& 63)).toInt32 &&& (255 : Int32)
theorem byL_eq (y : Int64) (k : Nat) : ((y >>> (((8 : Int32) * nI k).toInt64 &&& 63)) &&& (255 : Int64)).toInt32 = byL y k := by
  unfold byL
  rw [Int64.toInt32_and]
  rfl
def Mtp (B : BT) (h : HS) : Prop := hI h 60 6 = nI B.1 ∧ B.1 ≤ 160 ∧ ∀ i, i < B.1 → hI h 63 i = B.2 i
def Xtp (B : BT) (h : HS) : Prop := hI h 39 1 = nI B.1 ∧ B.1 ≤ 160 ∧ ∀ i, i < B.1 → hI h 40 i = B.2 i
theorem Mtp.fr {B : BT} {g : Nat} {h h' : HS} (hZ : Mtp B h) (F : Fr g h h') (hg : g ≠ 5) : Mtp B h' := by
  have f := F.2.2.2.2.2.1
  have q : ∀ a k, grp a k = 5 → hI h' a k = hI h a k := fun a k e => f a k (by rw [e]; exact fun z => hg z.symm) (by rw [e]; decide)
  refine ⟨by rw [q _ _ rfl]; exact hZ.1, hZ.2.1, fun i hi => ?_⟩
  rw [q _ _ rfl]
  exact hZ.2.2 i hi
theorem Xtp.fx {B : BT} {A : Nat → Prop} {tg : Nat → Nat} {h h' : HS} (hX : Xtp B h) (hw : Wx tg h) (F : Fx A h h') (h1 : ¬ A 39) (h2 : ¬ A 40) : Xtp B h' := by
  have q1 := (F.2 39 (by have := hw.2.2; omega) h1).1
  have q2 := (F.2 40 (by have := hw.2.2; omega) h2).1
  unfold Xtp
  simp only [q1, q2]
  exact hX
def feedG (y : Int64) : Nat → Nat → BT → BT
  | 0, _, B => B
  | d + 1, k, B => feedG y d (k + 1) (bpush B (byL y k))
theorem feedG_1 (y : Int64) : ∀ (d k : Nat) (B : BT), (feedG y d k B).1 = B.1 + d := by
  intro d
  induction d with
  | zero => intro k B; rfl
  | succ d ih =>
    intro k B
    rw [feedG, ih]
    simp only [bpush]
    omega
def g_feed (B : BT) (n : Int32) (y : Int64) : Int32 × BT := if inZ n.toInt 1 8 = true then (if B.1 + n.toNatClampNeg ≤ 160 then (nI (B.1 + n.toNatClampNeg), feedG y n.toNatClampNeg 0 B) else (-4, B)) else (-2, B)
theorem n18 (n : Int32) : (∃ k, 1 ≤ k ∧ k ≤ 8 ∧ n = nI k ∧ inZ n.toInt 1 8 = true) ∨ inZ n.toInt 1 8 = false := by
  cases hz : inZ n.toInt 1 8 with
  | false => exact Or.inr rfl
  | true =>
    obtain ⟨h1, h2⟩ := inZ_t.mp hz
    refine Or.inl ⟨n.toInt.toNat, by omega, by omega, ?_, rfl⟩
    rw [i32_eqZ, nI_Z (by omega)]
    omega
theorem L_mfeed (y : Int64) {n : Nat} (hn : n ≤ 8) : ∀ (d k f : Nat) (B : BT) (h : HS), k + d = n → d < f → B.1 + d ≤ 160 → Mtp B h → ∃ h', l_X12_feed_33 (nI n) y f (nI k) h = some h' ∧ Mtp (feedG y d k B) h' ∧ Fr 5 h h' := by
  intro d
  induction d with
  | zero =>
    intro k f B h hk hf hB hT0
    obtain ⟨f, rfl⟩ : ∃ f', f = f' + 1 := ⟨f - 1, by omega⟩
    refine ⟨h, ?_, hT0, Fr.rf⟩
    rw [l_X12_feed_33, if_pos (nI_le (by omega) (by omega))]
  | succ d ih =>
    intro k f B h hk hf hB hT0
    obtain ⟨f, rfl⟩ : ∃ f', f = f' + 1 := ⟨f - 1, by omega⟩
    obtain ⟨t1, t2, t3⟩ := hT0
    have hx := ixb_n (i := B.1) (n := 160) (by omega) (by decide)
    have hc : (nI B.1).toNatClampNeg = B.1 := nI_clamp (by omega)
    have F1 : Fr 5 h (sI (sI h 63 B.1 (byL y k)) 60 6 (nI (B.1 + 1))) := by (repeat (first | exact Fr.rf | assumption | refine Fr.sI ?_ (by first | exact Or.inl rfl | exact Or.inr rfl) | refine Fr.sL ?_ (by first | exact Or.inl rfl | exact Or.inr rfl)))
    have step : l_X12_feed_33 (nI n) y (f + 1) (nI k) h = l_X12_feed_33 (nI n) y f (nI (k + 1)) (sI (sI h 63 B.1 (byL y k)) 60 6 (nI (B.1 + 1))) := by
      rw [l_X12_feed_33, if_neg (nI_ge (by omega) (by omega)), t1, if_pos hx, hc, byL_eq, bh_eq]
      simp (config := { decide := true }) only [hI_sI, hI_sL, hI_sR, hL_sI, hL_sL, hL_sR, hR_sI, hR_sL, hR_sR, hT_sI, hT_sL, hT_sR, hLn_sI, hLn_sL, hLn_sR, hN_sI, hN_sL, hN_sR, if_true, if_false, t1, nI_1]
    rw [step]
    obtain ⟨h', s1, s2, s3⟩ := ih (k + 1) f (bpush B (byL y k)) _ (by omega) (by omega) (by simp only [bpush]; omega) (show Mtp (bpush B (byL y k)) (sI (sI h 63 B.1 (byL y k)) 60 6 (nI (B.1 + 1))) from ⟨by simp (config := { decide := true }) only [hI_sI, if_true, bpush], by simp only [bpush]; omega, fun i hi => by
      simp only [bpush] at hi
      by_cases e : i = B.1
      · subst e; simp (config := { decide := true }) only [hI_sI, if_true, if_false, bpush]
      · simp (config := { decide := true }) only [hI_sI, if_true, if_false, if_neg e, bpush]; exact t3 i (by omega)⟩)
    exact ⟨h', s1, s2, F1.tr s3⟩
theorem M_feed {B : BT} {h : HS} (hT0 : Mtp B h) (n : Int32) (y : Int64) : ∃ h', f_X12_feed n y h = some ((g_feed B n y).1, h') ∧ Mtp (g_feed B n y).2 h' ∧ Fr 5 h h' := by
  have e1 : (1 : Int64).toInt = 1 := rfl
  have e8 : (8 : Int64).toInt = 8 := rfl
  obtain ⟨t1, t2, t3⟩ := hT0
  rcases n18 n with ⟨m, hm, hm8, rfl, hz⟩ | hz
  · have hc : (nI m).toNatClampNeg = m := nI_clamp (by omega)
    have hcond : nI B.1 + nI m ≤ (160 : Int32) ↔ B.1 + m ≤ 160 := by
      rw [nI_add, show (160 : Int32) = nI 160 from rfl, i32_le0, nI_Z (by omega), nI_Z (by omega)]; omega
    by_cases c : B.1 + m ≤ 160
    · obtain ⟨h', s1, s2, s3⟩ := L_mfeed y hm8 m 0 1000 B h (by omega) (by omega) c ⟨t1, t2, t3⟩
      refine ⟨h', ?_, by simp only [g_feed, hz, hc, if_pos c, if_true]; exact s2, s3⟩
      have s1' : l_X12_feed_33 (nI m) y 1000 (0 : Int32) h = some h' := s1
      unfold f_X12_feed
      simp only [f_in_eq, Int32.toInt_toInt64, e1, e8, hz, Option.bind_some, if_true, t1, if_pos (hcond.mpr c), s1', s2.1, g_feed, hc, if_pos c, feedG_1]
    · refine ⟨h, ?_, by simp only [g_feed, hz, hc, if_neg c, if_true]; exact ⟨t1, t2, t3⟩, Fr.rf⟩
      unfold f_X12_feed
      simp only [f_in_eq, Int32.toInt_toInt64, e1, e8, hz, Option.bind_some, if_true, t1, if_neg (fun z => c (hcond.mp z)), g_feed, hc, if_neg c]
  · refine ⟨h, ?_, by simp [g_feed, hz]; exact ⟨t1, t2, t3⟩, Fr.rf⟩
    unfold f_X12_feed
    simp [f_in_eq, e1, e8, hz, g_feed]
theorem X_put {B : BT} {tg : Nat → Nat} {h : HS} (hT0 : Xtp B h) (hB : B.1 < 160) (v : Int32) : f_X6_put v h = some (sI (sI h 40 B.1 v) 39 1 (nI (B.1 + 1))) ∧ Xtp (bpush B v) (sI (sI h 40 B.1 v) 39 1 (nI (B.1 + 1))) := by
  obtain ⟨t1, t2, t3⟩ := hT0
  have hx := ixb_n (i := B.1) (n := 160) (by omega) (by decide)
  have hc : (nI B.1).toNatClampNeg = B.1 := nI_clamp (by omega)
  have hp : ¬ nI B.1 < 0 := nI_pos (by omega)
  have h160 : ¬ (160 : Int32) ≤ nI B.1 := by rw [show (160 : Int32) = nI 160 from rfl]; exact nI_ge (by omega) (by decide)
  refine ⟨?_, by simp (config := { decide := true }) only [hI_sI, if_true, bpush], by simp only [bpush]; omega, fun i hi => ?_⟩
  · unfold f_X6_put
    simp (config := { decide := true }) only [t1, if_neg hp, if_neg h160, hx, hc, hI_sI, hI_sL, hI_sR, hL_sI, hL_sL, hL_sR, hR_sI, hR_sL, hR_sR, hT_sI, hT_sL, hT_sR, hLn_sI, hLn_sL, hLn_sR, hN_sI, hN_sL, hN_sR, if_true, if_false, nI_1]
  · simp only [bpush] at hi
    by_cases e : i = B.1
    · subst e; simp (config := { decide := true }) only [hI_sI, if_true, if_false, bpush]
    · simp (config := { decide := true }) only [hI_sI, if_true, if_false, if_neg e, bpush]; exact t3 i (by omega)
theorem L_xfeed {tg : Nat → Nat} (y : Int64) {n : Nat} (hn : n ≤ 8) : ∀ (d k f : Nat) (B : BT) (h : HS), k + d = n → d < f → B.1 + d ≤ 160 → Wx tg h → Xtp B h → ∃ h', l_X11_feed_34 (nI n) y f (nI k) h = some h' ∧ Xtp (feedG y d k B) h' ∧ Wx tg h' ∧ Fx (fun b => b = 39 ∨ b = 40) h h' ∧ ∀ j, j ≠ 1 → hI h' 39 j = hI h 39 j := by
  intro d
  induction d with
  | zero =>
    intro k f B h hk hf hB hw hT0
    obtain ⟨f, rfl⟩ : ∃ f', f = f' + 1 := ⟨f - 1, by omega⟩
    refine ⟨h, ?_, hT0, hw, Fx.rf, fun _ _ => rfl⟩
    rw [l_X11_feed_34, if_pos (nI_le (by omega) (by omega))]
  | succ d ih =>
    intro k f B h hk hf hB hw hT0
    obtain ⟨f, rfl⟩ : ∃ f', f = f' + 1 := ⟨f - 1, by omega⟩
    obtain ⟨p1, p2⟩ := X_put (tg := tg) hT0 (by omega) (byL y k)
    have F1 : Fx (fun b => b = 39 ∨ b = 40) h (sI (sI h 40 B.1 (byL y k)) 39 1 (nI (B.1 + 1))) := Fx.sI (Fx.sI Fx.rf (Or.inl (Or.inr rfl))) (Or.inl (Or.inl rfl))
    have step : l_X11_feed_34 (nI n) y (f + 1) (nI k) h = l_X11_feed_34 (nI n) y f (nI (k + 1)) (sI (sI h 40 B.1 (byL y k)) 39 1 (nI (B.1 + 1))) := by
      rw [l_X11_feed_34, if_neg (nI_ge (by omega) (by omega)), show (y >>> (((8 : Int32) * nI k).toInt64 &&& 63)).toInt32 &&& (255 : Int32) = byL y k from rfl, p1, Option.bind_some, nI_1]
    rw [step]
    obtain ⟨h', s1, s2, s3, s4, s5⟩ := ih (k + 1) f (bpush B (byL y k)) _ (by omega) (by omega) (by simp only [bpush]; omega) hw.sI.sI p2
    exact ⟨h', s1, s2, s3, F1.tr s4, fun j hj => (s5 j hj).trans (by simp (config := { decide := true }) only [hI_sI, if_true, if_false, if_neg hj])⟩
theorem X_feed {B : BT} {tg : Nat → Nat} {h : HS} (hw : Wx tg h) (hT0 : Xtp B h) (n : Int32) (y : Int64) : ∃ h', f_X11_feed n y h = some ((g_feed B n y).1, h') ∧ Xtp (g_feed B n y).2 h' ∧ Wx tg h' ∧ Fx (fun b => b = 39 ∨ b = 40) h h' ∧ ∀ j, j ≠ 1 → hI h' 39 j = hI h 39 j := by
  have e1 : (1 : Int32).toInt = 1 := rfl
  have e8 : (8 : Int32).toInt = 8 := rfl
  have t1 := hT0.1
  have t2 := hT0.2.1
  rcases n18 n with ⟨m, hm, hm8, rfl, hz⟩ | hz
  · have hc : (nI m).toNatClampNeg = m := nI_clamp (by omega)
    have hcond : nI B.1 + nI m ≤ (160 : Int32) ↔ B.1 + m ≤ 160 := by
      rw [nI_add, show (160 : Int32) = nI 160 from rfl, i32_le0, nI_Z (by omega), nI_Z (by omega)]; omega
    by_cases c : B.1 + m ≤ 160
    · obtain ⟨h', s1, s2, s3, s4, s5⟩ := L_xfeed (tg := tg) y hm8 m 0 1000 B h (by omega) (by omega) c hw hT0
      refine ⟨h', ?_, by simp only [g_feed, hz, hc, if_pos c, if_true]; exact s2, s3, s4, s5⟩
      have s1' : l_X11_feed_34 (nI m) y 1000 (0 : Int32) h = some h' := s1
      unfold f_X11_feed
      simp only [f_isIn_eq, e1, e8, hz, Option.bind_some, if_true, t1, if_pos (hcond.mpr c), s1', s2.1, g_feed, hc, if_pos c, feedG_1]
    · refine ⟨h, ?_, by simp only [g_feed, hz, hc, if_neg c, if_true]; exact hT0, hw, Fx.rf, fun _ _ => rfl⟩
      unfold f_X11_feed
      simp only [f_isIn_eq, e1, e8, hz, Option.bind_some, if_true, t1, if_neg (fun z => c (hcond.mp z)), g_feed, hc, if_neg c]
  · refine ⟨h, ?_, by simp [g_feed, hz]; exact hT0, hw, Fx.rf, fun _ _ => rfl⟩
    unfold f_X11_feed
    simp [f_isIn_eq, e1, e8, hz, g_feed]
theorem M_force {n : Nat} {r : Int32} {h : HS} (hn : n ≤ 8) (h3 : hI h 60 3 = nI n) (h4 : hI h 60 4 = r) (t : Int32) : f_X12_force t h = some (if inZ t.toInt 0 (n - 1) = true then (r, sI h 60 4 t) else (-2, h)) := by
  unfold f_X12_force
  rw [f_in_eq, h3, cnt_pred (by omega), h4, Int32.toInt_toInt64, show (0 : Int64).toInt = 0 from rfl, Option.bind_some]
  split <;> rfl
theorem X_force {n : Nat} {r : Int32} {tg : Nat → Nat} {h : HS} {el : Nat → Nat} (hl : XL tg h 35 3 n el) (h3 : hI h 32 3 = r) (t : Int32) : f_X11_force t h = some (if inZ t.toInt 0 (n - 1) = true then (r, sI h 32 3 t) else (-2, h)) := by
  have h8 := hl.2.2.1
  unfold f_X11_force
  rw [if_pos hl.1, hl.size, Option.bind_some, f_isIn_eq, cnt_pred2 (by omega), z_0, Option.bind_some, h3]
  split <;> rfl
def wonC (T : TB) : Nat → Nat → Int32 → Int32
  | 0, _, c => c
  | d + 1, k, c => wonC T d (k + 1) (c + T.2 3 k)
theorem L_mcount {T : TB} {h : HS} (hT0 : Mtr T h) : ∀ (d k f : Nat) (c : Int32), k + d = T.1 → d < f → l_X12_count_85 h f c (nI k) = some (wonC T d k c) := by
  obtain ⟨t1, t2, t3⟩ := hT0
  intro d
  induction d with
  | zero =>
    intro k f c hk hf
    obtain ⟨f, rfl⟩ : ∃ f', f = f' + 1 := ⟨f - 1, by omega⟩
    rw [l_X12_count_85, t1, if_pos (nI_le (by omega) (by omega))]
    rfl
  | succ d ih =>
    intro k f c hk hf
    obtain ⟨f, rfl⟩ : ∃ f', f = f' + 1 := ⟨f - 1, by omega⟩
    have hx := ixb_n (i := k) (n := 60) (by omega) (by decide)
    have hc : (nI k).toNatClampNeg = k := nI_clamp (by omega)
    rw [l_X12_count_85, t1, if_neg (nI_ge (by omega) (by omega)), if_pos hx, hc, (t3 k (by omega)).2.2.2.1, nI_1]
    exact ih (k + 1) f _ (by omega) (by omega)
