/-! ===== leaves ===== -/
noncomputable def bw (S H : TB) (i j : Nat) : Int32 := (bst (gW S H (S.2 6 i) i j)).1
theorem bw_q {S H : TB} {i j : Nat} {q : Int32 × Int32} (hq : bst (gW S H (S.2 6 i) i j) = q) : bw S H i j = q.1 := by unfold bw; rw [hq]
theorem bw_Z {S H : TB} (hWH : Wha H) {i j : Nat} (hj : j < H.1) : 0 ≤ (bw S H i j).toInt ∧ (bw S H i j).toInt ≤ 121 := by
  unfold bw
  exact bst_Z hWH hj
noncomputable def lvT (S H : TB) (j k : Nat) : Int64 := (S.2 3 k).toInt64 * (allI H j).toInt64 - (bw S H k j).toInt64 * (S.2 4 k).toInt64
noncomputable def lvG (S H : TB) (j : Nat) : Nat → Nat → Int64 → Int64
  | 0, _, c => c
  | d + 1, k, c => lvG S H j d (k + 1) (c + lvT S H j k)
theorem lvT_b {S H : TB} (hW : Wst S) (hWH : Wha H) {k j : Nat} (hk : k < S.1) (hj : j < H.1) : (-1000000 ≤ (lvT S H j k).toInt ∧ (lvT S H j k).toInt ≤ 1000000) ∧ (S.2 3 k * allI H j - bw S H k j * S.2 4 k).toInt64 = lvT S H j k := by
  obtain ⟨w0, w1, w2, w3, w4, w5, w6⟩ := hW k hk
  have wz := bw_Z (S := S) hWH (i := k) hj
  have az := allI_Z hWH hj
  have q1 := mulB (a := (bw S H k j).toInt) (b := (S.2 4 k).toInt) (by omega) (by omega) (by omega) (by omega)
  have q2 := mulB (a := (S.2 3 k).toInt) (b := (allI H j).toInt) (by omega) (by omega) (by omega) (by omega)
  refine ⟨?_, prodE (by omega) (by omega) (by omega) (by omega) (by omega) (by omega) (by omega) (by omega)⟩
  have e : (lvT S H j k).toInt = _ := (prodL (a := S.2 3 k) (b := allI H j) (c := bw S H k j) (d := S.2 4 k) (by omega) (by omega) (by omega) (by omega) (by omega) (by omega) (by omega) (by omega)).2
  rw [e]
  omega
theorem lvG_b {S H : TB} (hW : Wst S) (hWH : Wha H) {j : Nat} (hj : j < H.1) : ∀ (d k : Nat) (c : Int64), k + d ≤ S.1 → k + d ≤ 8 → -1000000 * (k : Int) ≤ c.toInt → c.toInt ≤ 1000000 * k → -1000000 * ((k + d : Nat) : Int) ≤ (lvG S H j d k c).toInt := by
  intro d
  induction d with
  | zero => intro k c _ _ h _; exact h
  | succ d ih =>
    intro k c h1 h8 h2 h3
    obtain ⟨⟨b1, b2⟩, -⟩ := lvT_b hW hWH (k := k) (j := j) (by omega) hj
    have e : (c + lvT S H j k).toInt = c.toInt + (lvT S H j k).toInt := by
      rw [Int64.toInt_add]; exact Int.bmod_eq_of_le (by omega) (by omega)
    rw [lvG]
    have := ih (k + 1) (c + lvT S H j k) (by omega) (by omega) (by rw [e]; omega) (by rw [e]; omega)
    rw [show k + (d + 1) = k + 1 + d by omega]
    exact this
theorem L_mleaves {S H : TB} (hW : Wst S) (hWH : Wha H) (p : Int32) {j : Nat} (hj : j < H.1) : ∀ (d k f : Nat) (c : Int64) (h : HS), k + d = S.1 → d < f → Mst S h → Mha H h → ∃ h', l_X12_leaves_24 (nI j) p f c (nI k) h = some (lvG S H j d k c, h') ∧ Fr 0 h h' := by
  intro d
  induction d with
  | zero =>
    intro k f c h hk hf hS hH
    obtain ⟨f, rfl⟩ : ∃ f', f = f' + 1 := ⟨f - 1, by omega⟩
    have h8 := hS.2.1
    refine ⟨h, ?_, Fr.rf⟩
    rw [l_X12_leaves_24, hS.1, if_pos (nI_le (by omega) (by omega)), lvG]
  | succ d ih =>
    intro k f c h hk hf hS hH
    obtain ⟨f, rfl⟩ : ∃ f', f = f' + 1 := ⟨f - 1, by omega⟩
    have h8 := hS.2.1
    have hx := ixb_n (i := k) (n := 8) (by omega) (by decide)
    have hc : (nI k).toNatClampNeg = k := nI_clamp (by omega)
    have hk' : k < S.1 := by omega
    obtain ⟨q, hq⟩ : ∃ q, bst (gW S H (S.2 6 k) k j) = q := ⟨_, rfl⟩
    obtain ⟨h1, s1, s2, s3⟩ := M_bestAt hS hW hH hWH hk' hj hq
    have hS1 := hS.fr s3 (by decide)
    obtain ⟨r0, r1, r2, r3, r4, r5, r6⟩ := hS.2.2 k hk'
    obtain ⟨t0, t1, t2, t3, t4, t5, t6⟩ := hS1.2.2 k hk'
    obtain ⟨h', u1, u2⟩ := ih (k + 1) f (c + lvT S H j k) h1 (by omega) (by omega) hS1 (hH.fr s3 (by decide))
    refine ⟨h', ?_, s3.tr u2⟩
    rw [l_X12_leaves_24, hS.1, if_neg (nI_ge (by omega) (by omega)), if_pos hx, M_allOf hH hj, Option.bind_some, s1, Option.bind_some, if_pos hx, hc, r3, t4, nI_1, lvG]
    have e : (S.2 3 k).toInt64 * (allI H j).toInt64 - q.1.toInt64 * (S.2 4 k).toInt64 = lvT S H j k := by
      unfold lvT
      rw [bw_q hq]
    rw [show (S.2 3 k).toInt64 * (allI H j).toInt64 - (q.1, h1).1.toInt64 * (S.2 4 k).toInt64 = lvT S H j k from e]
    exact u1
noncomputable def a_leaves (S H : TB) (j p : Int32) : Int64 := if inZ j.toInt 0 (H.1 - 1) = true then (if inZ p.toInt 0 1 = true then a_low (lvG S H j.toNatClampNeg S.1 0 0) (allI H j.toNatClampNeg).toInt64 p else noL) else noL
theorem M_leaves {S H : TB} {h : HS} (hS : Mst S h) (hW : Wst S) (hH : Mha H h) (hWH : Wha H) (j p : Int32) : ∃ h', f_X12_leaves j p h = some (a_leaves S H j p, h') ∧ Fr 0 h h' := by
  rcases ix_case j H.1 with ⟨j, hj, rfl, hz2⟩ | hz2
  · cases hp : inZ p.toInt 0 1
    · refine ⟨h, ?_, Fr.rf⟩
      unfold f_X12_leaves a_leaves
      rw [M_isHand hH, hz2, M_isPart, hp]
      simp only [Option.bind_some, if_true, Bool.false_eq_true, if_false]
    · have h8 := hS.2.1
      have h6 := hH.2.1
      have hcj : (nI j).toNatClampNeg = j := nI_clamp (by omega)
      obtain ⟨h', s1, s2⟩ := L_mleaves hW hWH p hj S.1 0 1000 0 h (by omega) (by omega) hS hH
      have s1' : l_X12_leaves_24 (nI j) p 1000 (0 : Int64) (0 : Int32) h = some (lvG S H j S.1 0 0, h') := s1
      have az := allI_Z hWH hj
      have lz := lvG_b (S := S) hW hWH hj S.1 0 0 (by omega) (by omega) (by decide) (by decide)
      generalize hL : lvG S H j S.1 0 0 = L at s1' lz
      have hlo := M_lowest (a := L) (b := (allI H j).toInt64) (by omega) (by rw [Int32.toInt_toInt64]; omega) p
      have hal := M_allOf (hH.fr s2 (by decide)) hj
      refine ⟨h', ?_, s2⟩
      unfold f_X12_leaves a_leaves
      rw [M_isHand hH, hz2, M_isPart, hp, hcj, hL]
      simp only [Option.bind_some, if_true, s1', hal, hlo]
  · refine ⟨h, ?_, Fr.rf⟩
    unfold f_X12_leaves a_leaves
    rw [M_isHand hH, hz2]
    simp only [Option.bind_some, Bool.false_eq_true, if_false]
theorem X_mostWinning {S H : TB} {tg : Nat → Nat} {h : HS} {i j a b : Nat} (hW : Wst S) (hWH : Wha H) (hi : i < S.1) (hj : j < H.1) (h8 : S.1 ≤ 8) (h6 : H.1 ≤ 6) (oa : Ost S tg h i a) (ob : Oha H tg h j b) (hw : Wx tg h) (hz : Gz h) : ∃ h', f_X11_mostWinning a b h = some (bw S H i j, h') ∧ Ost S tg h' i a ∧ Oha H tg h' j b ∧ Gz h' ∧ Wx tg h' ∧ Fx (fun b => b = 48 ∨ b = 49) h h' := by
  obtain ⟨-, -, -, -, -, -, w6⟩ := hW i hi
  obtain ⟨h', s1, s2, s3, s4, s5, s6, s7⟩ := X_fw hW hWH hi hj h8 h6 oa ob hw hz (e := S.2 6 i) w6
  obtain ⟨q, hq⟩ : ∃ q, bst (gW S H (S.2 6 i) i j) = q := ⟨_, rfl⟩
  have hba : f_X2_bestAim b h' = some (bst (gW S H (S.2 6 i) i j)).2 := X_bestAim (fun x y hx hy => s2 _ (plB_xy hx hy))
  have hwb : f_X2_winning b (bst (gW S H (S.2 6 i) i j)).2 h' = some (bst (gW S H (S.2 6 i) i j)).1 := by
    obtain ⟨x, y, hx, hy, q⟩ := gW_in (S := S) hWH (e := S.2 6 i) (i := i) hj
    rw [q]
    exact s2 _ (plB_xy hx hy)
  rw [hq] at hba hwb
  have h7 : hI h a 7 = S.2 6 i := oa.2.2.2.2.2.2.2.2.2
  have hst : isSt (hT h a) = true := by rw [oa.2.1]; exact kcl_st _
  refine ⟨h', ?_, s3, s4, s5, s6, s7⟩
  unfold f_X11_mostWinning
  rw [if_pos hst, h7, s1, Option.bind_some, hba, Option.bind_some, hwb, Option.bind_some, bw_q hq]
