/-! ===== walk: the reference's best wins ===== -/
theorem M_bestAt2 {S H : TB} {h : HS} (hS : Mst S h) (hW : Wst S) (hH : Mha H h) (hWH : Wha H) {i j : Nat} (hi : i < S.1) (hj : j < H.1) {q : Int32 × Int32} (hq : bst (gW S H (S.2 6 i) i j) = q) : ∃ h', f_X12_bestAt (nI i) (nI j) h = some (q.1, h') ∧ (∀ a k, a ≠ 60 → hI h' a k = hI h a k) ∧ Fr 0 h h' := by
  have h8 := hS.2.1
  have hx := ixb_n (i := i) (n := 8) (by omega) (by decide)
  have hc : (nI i).toNatClampNeg = i := nI_clamp (by omega)
  obtain ⟨r0, r1, r2, r3, r4, r5, r6⟩ := hS.2.2 i hi
  obtain ⟨w0, w1, w2, w3, w4, w5, w6⟩ := hW i hi
  obtain ⟨h', s1, s2, s3, s4⟩ := L_mbY (g := gW S H (S.2 6 i) i j) (y1 := S.2 0 i) (y2 := S.2 1 i) (y3 := S.2 2 i) (y4 := S.2 6 i) (y5 := nI j) (tch := fun g => Mha H g ∧ ∀ a k, a ≠ 60 → hI g a k = hI h a k) (fun g v q => ⟨q.1.fr (g := 0) (Fr.sI Fr.rf (Or.inl rfl)) (by decide), fun a k ha => by rw [hI_sI, if_neg ha]; exact q.2 a k ha⟩) (fun g n q hn => by
    obtain ⟨x, y, hx, hy, rfl⟩ := hn
    rw [M_winsOf q.1 hWH hj w0 w1 w2 w6 (plB_xy hx hy)]
    rfl) 20 0 1000 (-1, 0) h (by omega) (by omega) ⟨hH, fun _ _ _ => rfl⟩ (Or.inr rfl)
  rw [← bst_def, hq] at s1
  have s1' : l_X12_bestOf_6 (S.2 0 i) (S.2 1 i) (S.2 2 i) (S.2 6 i) (nI j) 1000 (-1 : Int32) (0 : Int32) h = some (q.1, h') := s1
  refine ⟨h', ?_, s2.2, s4⟩
  unfold f_X12_bestAt f_X12_bestOf
  rw [if_pos hx, if_pos hx, if_pos hx, if_pos hx, hc, r0, r1, r2, r6, s1', Option.bind_some, Option.bind_some]
theorem L_mw33 {S H : TB} (hW : Wst S) (hWH : Wha H) (c w : Int32) {j : Nat} (hj : j < H.1) : ∀ (d k f : Nat) (h : HS), k + d = S.1 → d < f → Mst S h → Mha H h → (∀ i, i < k → hI h 82 i = bw S H i j) → ∃ h', l_X12_walk_33 (nI j) c w f (nI k) h = some h' ∧ (∀ i, i < S.1 → hI h' 82 i = bw S H i j) ∧ Fr 0 h h' := by
  intro d
  induction d with
  | zero =>
    intro k f h hk hf hS hH hb
    obtain ⟨f, rfl⟩ : ∃ f', f = f' + 1 := ⟨f - 1, by omega⟩
    have h8 := hS.2.1
    refine ⟨h, ?_, fun i hi => hb i (by omega), Fr.rf⟩
    rw [l_X12_walk_33, hS.1, if_pos (nI_le (by omega) (by omega))]
  | succ d ih =>
    intro k f h hk hf hS hH hb
    obtain ⟨f, rfl⟩ : ∃ f', f = f' + 1 := ⟨f - 1, by omega⟩
    have h8 := hS.2.1
    have hx := ixb_n (i := k) (n := 8) (by omega) (by decide)
    have hc : (nI k).toNatClampNeg = k := nI_clamp (by omega)
    obtain ⟨q, hq⟩ : ∃ q, bst (gW S H (S.2 6 k) k j) = q := ⟨_, rfl⟩
    obtain ⟨h1, s1, s2, s3⟩ := M_bestAt2 hS hW hH hWH (show k < S.1 by omega) hj hq
    have F1 : Fr 0 h (sI h1 82 k q.1) := Fr.sI s3 (Or.inl rfl)
    obtain ⟨h', u1, u2, u3⟩ := ih (k + 1) f (sI h1 82 k q.1) (by omega) (by omega) (hS.fr F1 (by decide)) (hH.fr F1 (by decide)) (fun i hi => by
      rw [hI_sI, if_pos rfl]
      by_cases e : i = k
      · rw [if_pos e, e, bw_q hq]
      · rw [if_neg e, s2 82 i (by decide)]
        exact hb i (by omega))
    refine ⟨h', ?_, u2, F1.tr u3⟩
    rw [l_X12_walk_33, hS.1, if_neg (nI_ge (by omega) (by omega)), s1, Option.bind_some, if_pos hx, hc, nI_1]
    exact u1
