/-! ===== make: the reference ===== -/
/-- the stall that make looks at, as a table of one -/
def mkS (k z : Int32) : TB := (1, fun f _ => rowS k 1010 z 1 f)
theorem mkS_W {k z : Int32} (hk : 0 ≤ k.toInt ∧ k.toInt ≤ 5) (hz : 0 ≤ z.toInt ∧ z.toInt ≤ 9) : Wst (mkS k z) := fun i _ => ⟨hk, by show plB (1010 : Int32) = true; decide, hz, by show 1 ≤ (1 : Int32).toInt ∧ (1 : Int32).toInt ≤ 99; decide, by show 0 ≤ (0 : Int32).toInt ∧ (0 : Int32).toInt ≤ 999; decide, by show 0 ≤ (0 : Int32).toInt ∧ (0 : Int32).toInt ≤ 999; decide, by show 0 ≤ (0 : Int32).toInt ∧ (0 : Int32).toInt ≤ 1; decide⟩
theorem M_bestOf {H : TB} {h : HS} (hH : Mha H h) (hWH : Wha H) {k z : Int32} (hk : 0 ≤ k.toInt ∧ k.toInt ≤ 5) (hz : 0 ≤ z.toInt ∧ z.toInt ≤ 9) {j : Nat} (hj : j < H.1) {q : Int32 × Int32} (hq : bst (gW (mkS k z) H 0 0 j) = q) : ∃ h', f_X12_bestOf k (1010 : Int32) z (0 : Int32) (nI j) h = some (q.1, h') ∧ Fr 0 h h' := by
  obtain ⟨h', s1, s2, s3, s4⟩ := L_mbY (g := gW (mkS k z) H 0 0 j) (y1 := k) (y2 := 1010) (y3 := z) (y4 := 0) (y5 := nI j) (tch := Mha H) (fun h v q => q.fr (g := 0) (Fr.sI Fr.rf (Or.inl rfl)) (by decide)) (fun h n q hn => by
    obtain ⟨x, y, hx, hy, rfl⟩ := hn
    rw [M_winsOf q hWH hj hk (by decide) hz (by decide) (plB_xy hx hy)]
    rfl) 20 0 1000 (-1, 0) h (by omega) (by omega) hH (Or.inr rfl)
  rw [← bst_def, hq] at s1
  have s1' : l_X12_bestOf_6 k (1010 : Int32) z (0 : Int32) (nI j) 1000 (-1 : Int32) (0 : Int32) h = some (q.1, h') := s1
  refine ⟨h', ?_, s4⟩
  unfold f_X12_bestOf
  rw [s1', Option.bind_some]
noncomputable def mkZ (H : TB) (j : Nat) (k cost od left : Int32) : Nat → Nat → Int32 × Int32 → Int32 × Int32
  | 0, _, q => q
  | d + 1, z, q => mkZ H j k cost od left d (z + 1) (if od ≤ (1000 : Int32) * bw (mkS k (nI z)) H 0 j / allI H j then mkP (allI H j) cost left (bw (mkS k (nI z)) H 0 j) (nI z) 99 1 q else q)
theorem L_mmz {H : TB} (hWH : Wha H) {k cost od left : Int32} (hk : 0 ≤ k.toInt ∧ k.toInt ≤ 5) {j : Nat} (hj : j < H.1) : ∀ (d z f : Nat) (q : Int32 × Int32) (h : HS), z + d = 10 → d < f → Mha H h → ∃ h', l_X12_make_79 k (nI j) cost od left (allI H j) f q.1 q.2 (nI z) h = some ((mkZ H j k cost od left d z q).1, h') ∧ Fr 0 h h' := by
  have az := allI_Z hWH hj
  have hne : ¬ allI H j = 0 := fun e => by rw [e, z_0] at az; omega
  intro d
  induction d with
  | zero =>
    intro z f q h hz hf hH
    obtain ⟨f, rfl⟩ : ∃ f', f = f' + 1 := ⟨f - 1, by omega⟩
    have : z = 10 := by omega
    subst this
    refine ⟨h, ?_, Fr.rf⟩
    rw [l_X12_make_79, if_pos (by decide), mkZ]
  | succ d ih =>
    intro z f q h hz hf hH
    obtain ⟨f, rfl⟩ : ∃ f', f = f' + 1 := ⟨f - 1, by omega⟩
    have h10 : ¬ (10 : Int32) ≤ nI z := by rw [show (10 : Int32) = nI 10 from rfl]; exact nI_ge (by omega) (by decide)
    have hz9 : 0 ≤ (nI z).toInt ∧ (nI z).toInt ≤ 9 := by rw [nI_Z (by omega)]; omega
    obtain ⟨r, hr⟩ : ∃ r, bst (gW (mkS k (nI z)) H 0 0 j) = r := ⟨_, rfl⟩
    obtain ⟨h1, s1, s2⟩ := M_bestOf hH hWH hk hz9 hj hr
    have hb : bw (mkS k (nI z)) H 0 j = r.1 := bw_q (S := mkS k (nI z)) (i := 0) hr
    rw [l_X12_make_79, if_neg h10, s1, Option.bind_some, if_pos hne, mkZ, hb]
    by_cases c : od ≤ (1000 : Int32) * r.1 / allI H j
    · have hl := L_mmk (k0 := k) (h0 := nI j) (od := od) (all := allI H j) (cost := cost) (left := left) (w := r.1) (z := nI z) (h := h1) 99 1 1000 q (by omega) (by omega)
      have hl' : l_X12_make_120 k (nI j) cost od left (allI H j) (nI z) r.1 h1 1000 q.1 q.2 (1 : Int32) = some (mkP (allI H j) cost left r.1 (nI z) 99 1 q) := hl
      obtain ⟨h', u1, u2⟩ := ih (z + 1) f (mkP (allI H j) cost left r.1 (nI z) 99 1 q) h1 (by omega) (by omega) (hH.fr s2 (by decide))
      refine ⟨h', ?_, s2.tr u2⟩
      rw [if_pos c, if_pos c, hl', Option.bind_some, nI_1, u1]
    · obtain ⟨h', u1, u2⟩ := ih (z + 1) f q h1 (by omega) (by omega) (hH.fr s2 (by decide))
      refine ⟨h', ?_, s2.tr u2⟩
      rw [if_neg c, if_neg c, nI_1, u1]
