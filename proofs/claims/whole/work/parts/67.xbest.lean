/-! ===== best: both ===== -/
def gW (S H : TB) (e : Int32) (i j n : Nat) : Int32 := a_wn S H e i j (nI n)
theorem gW_in {S H : TB} (hWH : Wha H) {e : Int32} {i j : Nat} (hj : j < H.1) : ∃ x y, x < 20 ∧ y < 20 ∧ bst (gW S H e i j) = (gW S H e i j (100 * x + y), nI (100 * x + y)) := bst_in (wn_Z hWH hj _).1
theorem M_bestAt {S H : TB} {h : HS} (hS : Mst S h) (hW : Wst S) (hH : Mha H h) (hWH : Wha H) {i j : Nat} (hi : i < S.1) (hj : j < H.1) {q : Int32 × Int32} (hq : bst (gW S H (S.2 6 i) i j) = q) : ∃ h', f_X12_bestAt (nI i) (nI j) h = some (q.1, h') ∧ hI h' 60 19 = q.2 ∧ Fr 0 h h' := by
  have h8 := hS.2.1
  have hx := ixb_n (i := i) (n := 8) (by omega) (by decide)
  have hc : (nI i).toNatClampNeg = i := nI_clamp (by omega)
  obtain ⟨r0, r1, r2, r3, r4, r5, r6⟩ := hS.2.2 i hi
  obtain ⟨w0, w1, w2, w3, w4, w5, w6⟩ := hW i hi
  obtain ⟨h', s1, s2, s3, s4⟩ := L_mbY (g := gW S H (S.2 6 i) i j) (y1 := S.2 0 i) (y2 := S.2 1 i) (y3 := S.2 2 i) (y4 := S.2 6 i) (y5 := nI j) (tch := Mha H) (fun h v q => q.fr (g := 0) (Fr.sI Fr.rf (Or.inl rfl)) (by decide)) (fun h n q hn => by
    obtain ⟨x, y, hx, hy, rfl⟩ := hn
    rw [M_winsOf q hWH hj w0 w1 w2 w6 (plB_xy hx hy)]
    rfl) 20 0 1000 (-1, 0) h (by omega) (by omega) hH (Or.inr rfl)
  rw [← bst_def, hq] at s1 s3
  have s1' : l_X12_bestOf_6 (S.2 0 i) (S.2 1 i) (S.2 2 i) (S.2 6 i) (nI j) 1000 (-1 : Int32) (0 : Int32) h = some (q.1, h') := s1
  refine ⟨h', ?_, ?_, s4⟩
  · unfold f_X12_bestAt f_X12_bestOf
    rw [if_pos hx, if_pos hx, if_pos hx, if_pos hx, hc, r0, r1, r2, r6, s1', Option.bind_some, Option.bind_some]
  · rcases s3 with z | z
    · exact z
    · obtain ⟨x, y, hx, hy, e⟩ := gW_in (S := S) hWH (e := S.2 6 i) (i := i) hj
      rw [hq] at e
      have e2 : q = (-1, 0) := z
      rw [e2] at e
      have e3 : (-1 : Int32) = gW S H (S.2 6 i) i j (100 * x + y) := congrArg Prod.fst e
      have e4 : 0 ≤ (a_wn S H (S.2 6 i) i j (nI (100 * x + y))).toInt := (wn_Z (S := S) hWH (e := S.2 6 i) (i := i) hj (nI (100 * x + y))).1
      unfold gW at e3
      rw [← e3] at e4
      exact absurd e4 (by decide)
theorem L_xbX {g : Nat → Int32} {b : Nat} {h : HS} (hg : ∀ x y, x < 20 → y < 20 → f_X2_winning b (nI (100 * x + y)) h = some (g (100 * x + y))) {y : Nat} (hy : y < 20) : ∀ (d x f : Nat) (q : Int32 × Int32), x + d = 20 → d < f → l_X2_bestAim_17 b (nI y) h f q.1 q.2 (nI x) = some (bstX g y d x q) := by
  intro d
  induction d with
  | zero =>
    intro x f q hx hf
    obtain ⟨f, rfl⟩ : ∃ f', f = f' + 1 := ⟨f - 1, by omega⟩
    have : x = 20 := by omega
    subst this
    rw [l_X2_bestAim_17, if_pos (by decide)]
    rfl
  | succ d ih =>
    intro x f q hx hf
    obtain ⟨f, rfl⟩ : ∃ f', f = f' + 1 := ⟨f - 1, by omega⟩
    have h20 : ¬ (20 : Int32) ≤ nI x := by rw [show (20 : Int32) = nI 20 from rfl]; exact nI_ge (by omega) (by decide)
    rw [l_X2_bestAim_17, if_neg h20, aim_eq, hg x y (by omega) hy, Option.bind_some, nI_1, bstX]
    by_cases c : g (100 * x + y) ≤ q.1
    · rw [if_pos c, if_pos c]
      exact ih (x + 1) f q (by omega) (by omega)
    · rw [if_neg c, if_neg c]
      exact ih (x + 1) f (g (100 * x + y), nI (100 * x + y)) (by omega) (by omega)
theorem L_xbY {g : Nat → Int32} {b : Nat} {h : HS} (hg : ∀ x y, x < 20 → y < 20 → f_X2_winning b (nI (100 * x + y)) h = some (g (100 * x + y))) : ∀ (d y f : Nat) (q : Int32 × Int32), y + d = 20 → d < f → l_X2_bestAim_7 b h f q.1 q.2 (nI y) = some (bstY g d y q).2 := by
  intro d
  induction d with
  | zero =>
    intro y f q hx hf
    obtain ⟨f, rfl⟩ : ∃ f', f = f' + 1 := ⟨f - 1, by omega⟩
    have : y = 20 := by omega
    subst this
    rw [l_X2_bestAim_7, if_pos (by decide)]
    rfl
  | succ d ih =>
    intro y f q hx hf
    obtain ⟨f, rfl⟩ : ∃ f', f = f' + 1 := ⟨f - 1, by omega⟩
    have h20 : ¬ (20 : Int32) ≤ nI y := by rw [show (20 : Int32) = nI 20 from rfl]; exact nI_ge (by omega) (by decide)
    have s1 := L_xbX hg (y := y) (by omega) 20 0 1000 q (by omega) (by omega)
    have s1' : l_X2_bestAim_17 b (nI y) h 1000 q.1 q.2 (0 : Int32) = some (bstX g y 20 0 q) := s1
    have eb : bstY g (d + 1) y q = bstY g d (y + 1) (bstX g y 20 0 q) := by rw [bstY]
    rw [eb, l_X2_bestAim_7, if_neg h20, s1', Option.bind_some, nI_1, ih (y + 1) f (bstX g y 20 0 q) (by omega) (by omega)]
theorem X_bestAim {g : Nat → Int32} {b : Nat} {h : HS} (hg : ∀ x y, x < 20 → y < 20 → f_X2_winning b (nI (100 * x + y)) h = some (g (100 * x + y))) : f_X2_bestAim b h = some (bst g).2 := by
  have s1 := L_xbY hg 20 0 1000 (-1, 0) (by omega) (by omega)
  rw [← bst_def] at s1
  have s1' : l_X2_bestAim_7 b h 1000 (-1 : Int32) (0 : Int32) (0 : Int32) = some (bst g).2 := s1
  unfold f_X2_bestAim
  rw [s1']
  rfl
noncomputable def a_best (S H : TB) (s j w : Int32) : Int64 := if inZ s.toInt 0 (S.1 - 1) = true then (if inZ j.toInt 0 (H.1 - 1) = true then (if inZ w.toInt 0 2 = true then (if w = 0 then (bst (gW S H (S.2 6 s.toNatClampNeg) s.toNatClampNeg j.toNatClampNeg)).2.toInt64 else a_low (bst (gW S H (S.2 6 s.toNatClampNeg) s.toNatClampNeg j.toNatClampNeg)).1.toInt64 (allI H j.toNatClampNeg).toInt64 (w - 1)) else noL) else noL) else noL
theorem bst_Z {S H : TB} (hWH : Wha H) {e : Int32} {i j : Nat} (hj : j < H.1) : 0 ≤ (bst (gW S H e i j)).1.toInt ∧ (bst (gW S H e i j)).1.toInt ≤ 121 := by
  obtain ⟨x, y, hx, hy, q⟩ := gW_in (S := S) hWH (e := e) (i := i) hj
  rw [q]
  exact wn_Z hWH hj _
theorem M_best {S H : TB} {h : HS} (hS : Mst S h) (hW : Wst S) (hH : Mha H h) (hWH : Wha H) (s j w : Int32) : ∃ h', f_X12_best s j w h = some (a_best S H s j w, h') ∧ Fr 0 h h' := by
  rcases ix_case s S.1 with ⟨i, hi, rfl, hz⟩ | hz
  · rcases ix_case j H.1 with ⟨j, hj, rfl, hz2⟩ | hz2
    · cases hw : inZ w.toInt 0 2
      · refine ⟨h, ?_, Fr.rf⟩
        unfold f_X12_best a_best
        rw [M_isStall hS, M_isHand hH, hz, hz2, f_in_eq, Int32.toInt_toInt64, show (0 : Int64).toInt = 0 from rfl, show (2 : Int64).toInt = 2 from rfl, hw]
        simp only [Option.bind_some, if_true, Bool.false_eq_true, if_false]
      · have h8 := hS.2.1
        have h6 := hH.2.1
        have hci : (nI i).toNatClampNeg = i := nI_clamp (by omega)
        have hcj : (nI j).toNatClampNeg = j := nI_clamp (by omega)
        obtain ⟨q, hq⟩ : ∃ q, bst (gW S H (S.2 6 i) i j) = q := ⟨_, rfl⟩
        obtain ⟨h', s1, s2, s3⟩ := M_bestAt hS hW hH hWH hi hj hq
        have az := allI_Z hWH hj
        have bz := bst_Z (S := S) hWH (e := S.2 6 i) (i := i) hj
        rw [hq] at bz
        have hlo := M_lowest (a := q.1.toInt64) (b := (allI H j).toInt64) (by rw [Int32.toInt_toInt64]; omega) (by rw [Int32.toInt_toInt64]; omega) (w - 1)
        have hal := M_allOf (hH.fr s3 (by decide)) hj
        refine ⟨h', ?_, s3⟩
        unfold f_X12_best a_best
        rw [M_isStall hS, M_isHand hH, hz, hz2, f_in_eq, Int32.toInt_toInt64, show (0 : Int64).toInt = 0 from rfl, show (2 : Int64).toInt = 2 from rfl, hw, hci, hcj, hq]
        by_cases c : w = 0
        · simp only [Option.bind_some, if_true, s1, s2, if_pos c]
        · simp only [Option.bind_some, if_true, s1, hal, hlo, if_neg c]
    · refine ⟨h, ?_, Fr.rf⟩
      unfold f_X12_best a_best
      rw [M_isStall hS, M_isHand hH, hz, hz2]
      simp only [Option.bind_some, if_true, Bool.false_eq_true, if_false]
  · refine ⟨h, ?_, Fr.rf⟩
    unfold f_X12_best a_best
    rw [M_isStall hS, hz]
    simp only [Option.bind_some, if_true, Bool.false_eq_true, if_false]
theorem X_best {S H : TB} {tg : Nat → Nat} {h : HS} (hS : Xst S tg h) (hW : Wst S) (hH : Xha H tg h) (hWH : Wha H) (hw : Wx tg h) (hz : Gz h) (s j w : Int32) : ∃ h', f_X11_best s j w h = some (a_best S H s j w, h') ∧ Gz h' ∧ Wx tg h' ∧ Fx (fun b => b = 48 ∨ b = 49) h h' := by
  have e2 : (2 : Int32).toInt = 2 := rfl
  have h8 : S.1 ≤ 8 := by obtain ⟨el, hl, -⟩ := hS; exact hl.2.2.1
  have h6 := hH.1
  rcases X_stallAt hS s with ⟨i, a, hi, rfl, hzs, hf, oa, -⟩ | ⟨hzs, hf⟩
  · rcases X_handAt hH j with ⟨j, b, hj, rfl, hzh, hf2, ob⟩ | ⟨hzh, hf2⟩
    · have hci : (nI i).toNatClampNeg = i := nI_clamp (by omega)
      have hcj : (nI j).toNatClampNeg = j := nI_clamp (by omega)
      cases hp : inZ w.toInt 0 2
      · refine ⟨h, ?_, hz, hw, Fx.rf⟩
        unfold f_X11_best a_best
        rw [hf, hf2, f_isIn_eq, z_0, e2, hp, hzs, hzh]
        rfl
      obtain ⟨-, -, -, -, -, -, w6⟩ := hW i hi
      obtain ⟨h', s1, s2, s3, s4, s5, s6, s7⟩ := X_fw hW hWH hi hj h8 h6 oa ob hw hz (e := S.2 6 i) w6
      have az := allI_Z hWH hj
      have bz := bst_Z (S := S) hWH (e := S.2 6 i) (i := i) hj
      have hlo := X_lowest (a := (bst (gW S H (S.2 6 i) i j)).1.toInt64) (b := (allI H j).toInt64) (by rw [Int32.toInt_toInt64]; omega) (by rw [Int32.toInt_toInt64]; omega) (w - 1)
      have hba : f_X2_bestAim b h' = some (bst (gW S H (S.2 6 i) i j)).2 := X_bestAim (fun x y hx hy => s2 _ (plB_xy hx hy))
      have hwb : f_X2_winning b (bst (gW S H (S.2 6 i) i j)).2 h' = some (bst (gW S H (S.2 6 i) i j)).1 := by
        obtain ⟨x, y, hx, hy, q⟩ := gW_in (S := S) hWH (e := S.2 6 i) (i := i) hj
        rw [q]
        exact s2 _ (plB_xy hx hy)
      have h4 : hI h' b 4 = allI H j := s4.2.2.2.2.2.2
      have h7 : hI h a 7 = S.2 6 i := oa.2.2.2.2.2.2.2.2.2
      have hst : isSt (hT h a) = true := by rw [oa.2.1]; exact kcl_st _
      refine ⟨h', ?_, s5, s6, s7⟩
      unfold f_X11_best a_best
      rw [hf, hf2, f_isIn_eq, z_0, e2, hp, hzs, hzh, hci, hcj]
      by_cases c : w = 0
      · simp only [Option.bind_some, om_some, if_true, if_pos hst, h7, s1, hba, if_pos c]
      · simp only [Option.bind_some, om_some, if_true, if_pos hst, h7, s1, hba, hwb, if_pos s4.2.1, h4, hlo, if_neg c]
    · refine ⟨h, ?_, hz, hw, Fx.rf⟩
      unfold f_X11_best a_best
      rw [hf, hf2, hzs, hzh]
      rfl
  · refine ⟨h, ?_, hz, hw, Fx.rf⟩
    rcases X_handAt hH j with ⟨j, b, hj, rfl, hzh, hf2, ob⟩ | ⟨hzh, hf2⟩
    · unfold f_X11_best a_best
      rw [hf, hf2, hzs]
      rfl
    · unfold f_X11_best a_best
      rw [hf, hf2, hzs]
      rfl
