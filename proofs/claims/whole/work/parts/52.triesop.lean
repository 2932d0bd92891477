/-! ===== what stays of the reference's groups; tries from a sheet ===== -/
theorem Mst.fr {S : TB} {g : Nat} {h h' : HS} (hS : Mst S h) (F : Fr g h h') (hg : g ≠ 1) : Mst S h' := by
  have f := F.2.2.2.2.2.1
  have q : ∀ a k, grp a k = 1 → hI h' a k = hI h a k := fun a k e => f a k (by rw [e]; exact fun z => hg z.symm) (by rw [e]; decide)
  refine ⟨by rw [q _ _ rfl]; exact hS.1, hS.2.1, fun i hi => ?_⟩
  rw [q _ _ rfl, q _ _ rfl, q _ _ rfl, q _ _ rfl, q _ _ rfl, q _ _ rfl, q _ _ rfl]
  exact hS.2.2 i hi
theorem Mha.fr {S : TB} {g : Nat} {h h' : HS} (hS : Mha S h) (F : Fr g h h') (hg : g ≠ 2) : Mha S h' := by
  have f := F.2.2.2.2.2.1
  have q : ∀ a k, grp a k = 2 → hI h' a k = hI h a k := fun a k e => f a k (by rw [e]; exact fun z => hg z.symm) (by rw [e]; decide)
  refine ⟨by rw [q _ _ rfl]; exact hS.1, hS.2.1, fun i hi => ?_⟩
  rw [q _ _ rfl, q _ _ rfl, q _ _ rfl]
  exact hS.2.2 i hi
theorem Mtr.fr {S : TB} {g : Nat} {h h' : HS} (hS : Mtr S h) (F : Fr g h h') (hg : g ≠ 3) : Mtr S h' := by
  have f := F.2.2.2.2.2.1
  have q : ∀ a k, grp a k = 3 → hI h' a k = hI h a k := fun a k e => f a k (by rw [e]; exact fun z => hg z.symm) (by rw [e]; decide)
  refine ⟨by rw [q _ _ rfl]; exact hS.1, hS.2.1, fun i hi => ?_⟩
  rw [q _ _ rfl, q _ _ rfl, q _ _ rfl, q _ _ rfl, q _ _ rfl]
  exact hS.2.2 i hi
theorem Msh.fr {Z : SZ} {g : Nat} {h h' : HS} (hZ : Msh Z h) (F : Fr g h h') (hg : g ≠ 8) : Msh Z h' := by
  have f := F.2.2.2.2.2.1
  have q : ∀ a k, grp a k = 8 → hI h' a k = hI h a k := fun a k e => f a k (by rw [e]; exact fun z => hg z.symm) (by rw [e]; decide)
  intro p hp
  obtain ⟨g1, g2⟩ := hZ p hp
  refine ⟨by rw [q _ _ rfl]; exact g1, fun z => ?_⟩
  obtain ⟨b1, b2, b3, b4⟩ := g2 z
  exact ⟨by rw [q _ _ rfl]; exact b1, by rw [q _ _ rfl]; exact b2, b3, fun k hk => by rw [q _ _ rfl]; exact b4 k hk⟩
def triesG (S H : TB) (it : Nat → Int32) (sz p : Nat) : Nat → Nat → Nat → TB → Int32 × TB
  | 0, _, c, T => (nI c, T)
  | d + 1, k, c, T => if p + 4 * k + 4 ≤ sz then triesG S H it sz p d (k + 1) (if a_shown S H T (it (p + 4 * k)) (it (p + 4 * k + 1)) (it (p + 4 * k + 2)) (it (p + 4 * k + 3)) < 0 then c else c + 1) (u_shown S H T (it (p + 4 * k)) (it (p + 4 * k + 1)) (it (p + 4 * k + 2)) (it (p + 4 * k + 3))) else (-12, T)
theorem L_mtries {S H : TB} {Z : SZ} {q p n : Nat} (hq : q < 4) (ht : Z.1 q = true) (hp : p + 4 ≤ Z.2.2.1 q) (hn : n ≤ 10) : ∀ (d k c f : Nat) (T : TB) (h : HS), k + d = n → c ≤ k → d < f → Mst S h → Mha H h → Mtr T h → Msh Z h → ∃ res h', l_X12_tries_75 (nI q) (nI p) (nI n) f (nI c) (nI k) h = some res ∧ Sum.elim (fun v => some v) (fun e => some (e.1, e.2)) res = some ((triesG S H (Z.2.2.2 q) (Z.2.2.1 q) p d k c T).1, h') ∧ Mtr (triesG S H (Z.2.2.2 q) (Z.2.2.1 q) p d k c T).2 h' ∧ Fr 3 h h' := by
  intro d
  induction d with
  | zero =>
    intro k c f T h hk hc hf hS hH hT0 hZ
    obtain ⟨f, rfl⟩ : ∃ f', f = f' + 1 := ⟨f - 1, by omega⟩
    refine ⟨Sum.inr (nI c, h), h, ?_, rfl, hT0, Fr.rf⟩
    unfold l_X12_tries_75
    rw [if_pos (nI_le (by omega) (by omega))]
  | succ d ih =>
    intro k c f T h hk hc hf hS hH hT0 hZ
    obtain ⟨f, rfl⟩ : ∃ f', f = f' + 1 := ⟨f - 1, by omega⟩
    obtain ⟨-, z2⟩ := hZ q hq
    obtain ⟨b1, b2, b3, b4⟩ := z2 ht
    have hx := ixb_n (i := q) (n := 4) (by omega) (by decide)
    have hcq : (nI q).toNatClampNeg = q := nI_clamp (by omega)
    have e4 : (4 : Int32) * nI k = nI (4 * k) := pk_mul 4 k
    have hszZ : (nI (Z.2.2.1 q) - (4 : Int32) * nI k - (4 : Int32)).toInt = (Z.2.2.1 q : Int) - 4 * k - 4 := by
      have e5 : (4 : Int32).toInt = 4 := rfl
      rw [e4, i32_subZ (by rw [i32_subZ (by rw [nI_Z (by omega), nI_Z (by omega)]; omega) (by rw [nI_Z (by omega), nI_Z (by omega)]; omega), nI_Z (by omega), nI_Z (by omega), e5]; omega) (by rw [i32_subZ (by rw [nI_Z (by omega), nI_Z (by omega)]; omega) (by rw [nI_Z (by omega), nI_Z (by omega)]; omega), nI_Z (by omega), nI_Z (by omega), e5]; omega), i32_subZ (by rw [nI_Z (by omega), nI_Z (by omega)]; omega) (by rw [nI_Z (by omega), nI_Z (by omega)]; omega), nI_Z (by omega), nI_Z (by omega), e5]
      omega
    have hcond : nI p ≤ nI (Z.2.2.1 q) - (4 : Int32) * nI k - (4 : Int32) ↔ p + 4 * k + 4 ≤ Z.2.2.1 q := by
      rw [i32_le0, hszZ, nI_Z (by omega)]; omega
    by_cases c1 : p + 4 * k + 4 ≤ Z.2.2.1 q
    · have a0 : (40 : Int32) * nI q + nI p + (4 : Int32) * nI k = nI (40 * q + (p + 4 * k)) := by
        rw [e4, show (40 : Int32) = nI 40 from rfl, pk_mul, nI_add, nI_add]; congr 1; omega
      have a1 : nI (40 * q + (p + 4 * k)) + (1 : Int32) = nI (40 * q + (p + 4 * k + 1)) := nI_add _ 1
      have a2 : nI (40 * q + (p + 4 * k)) + (2 : Int32) = nI (40 * q + (p + 4 * k + 2)) := nI_add _ 2
      have a3 : nI (40 * q + (p + 4 * k)) + (3 : Int32) = nI (40 * q + (p + 4 * k + 3)) := nI_add _ 3
      have x0 := ixb_n (i := 40 * q + (p + 4 * k)) (n := 160) (by omega) (by decide)
      have x1 := ixb_n (i := 40 * q + (p + 4 * k + 1)) (n := 160) (by omega) (by decide)
      have x2 := ixb_n (i := 40 * q + (p + 4 * k + 2)) (n := 160) (by omega) (by decide)
      have x3 := ixb_n (i := 40 * q + (p + 4 * k + 3)) (n := 160) (by omega) (by decide)
      have c0' : (nI (40 * q + (p + 4 * k))).toNatClampNeg = 40 * q + (p + 4 * k) := nI_clamp (by omega)
      have c1' : (nI (40 * q + (p + 4 * k + 1))).toNatClampNeg = 40 * q + (p + 4 * k + 1) := nI_clamp (by omega)
      have c2' : (nI (40 * q + (p + 4 * k + 2))).toNatClampNeg = 40 * q + (p + 4 * k + 2) := nI_clamp (by omega)
      have c3' : (nI (40 * q + (p + 4 * k + 3))).toNatClampNeg = 40 * q + (p + 4 * k + 3) := nI_clamp (by omega)
      obtain ⟨h1, s1, s2, s3⟩ := M_shown hS hH hT0 (Z.2.2.2 q (p + 4 * k)) (Z.2.2.2 q (p + 4 * k + 1)) (Z.2.2.2 q (p + 4 * k + 2)) (Z.2.2.2 q (p + 4 * k + 3))
      have step : l_X12_tries_75 (nI q) (nI p) (nI n) (f + 1) (nI c) (nI k) h = l_X12_tries_75 (nI q) (nI p) (nI n) f (nI (if a_shown S H T (Z.2.2.2 q (p + 4 * k)) (Z.2.2.2 q (p + 4 * k + 1)) (Z.2.2.2 q (p + 4 * k + 2)) (Z.2.2.2 q (p + 4 * k + 3)) < 0 then c else c + 1)) (nI (k + 1)) h1 := by
        rw [l_X12_tries_75]
        rw [if_neg (nI_ge (by omega) (by omega)), if_neg (nI_pos (by omega)), if_pos hx, hcq, b2, if_pos (hcond.mpr c1), a0, a1, a2, a3, if_pos x0, if_pos x1, if_pos x2, if_pos x3, c0', c1', c2', c3', b4 _ (by omega), b4 _ (by omega), b4 _ (by omega), b4 _ (by omega), s1, Option.bind_some, nI_1]
        show (if a_shown S H T _ _ _ _ < 0 then _ else _) = _
        split
        · rw [show nI c + (0 : Int32) = nI c from nI_add c 0]
        · rw [nI_1]
      rw [step]
      obtain ⟨res, h', r1, r2, r3, r4⟩ := ih (k + 1) (if a_shown S H T (Z.2.2.2 q (p + 4 * k)) (Z.2.2.2 q (p + 4 * k + 1)) (Z.2.2.2 q (p + 4 * k + 2)) (Z.2.2.2 q (p + 4 * k + 3)) < 0 then c else c + 1) f _ h1 (by omega) (by split <;> omega) (by omega) (hS.fr s3 (by decide)) (hH.fr s3 (by decide)) s2 (hZ.fr s3 (by decide))
      refine ⟨res, h', r1, ?_, ?_, s3.tr r4⟩
      · rw [r2]; simp only [triesG, if_pos c1]
      · simp only [triesG, if_pos c1]; exact r3
    · refine ⟨Sum.inl (-12, h), h, ?_, ?_, ?_, Fr.rf⟩
      · rw [l_X12_tries_75]
        rw [if_neg (nI_ge (by omega) (by omega)), if_neg (nI_pos (by omega)), if_pos hx, hcq, b2, if_neg (fun z => c1 (hcond.mp z))]
      · simp only [triesG, if_neg c1]; rfl
      · simp only [triesG, if_neg c1]; exact hT0
theorem L_xtries {S H : TB} {Z : SZ} {tg : Nat → Nat} {q a p n : Nat} (hp : p + 4 ≤ Z.2.2.1 q) (h40 : Z.2.2.1 q ≤ 40) (hn : n ≤ 10) (hta : 60 ≤ tg a ∧ tg a < 64) : ∀ (d k c f : Nat) (T : TB) (h : HS), k + d = n → c ≤ k → d < f → Xst S tg h → Xha H tg h → Wx tg h → Xtr T h → hT h a = 15 → hLn h a = Z.2.2.1 q → (∀ k, k < Z.2.2.1 q → hI h a k = Z.2.2.2 q k) → ∃ res h', l_X11_tries_68 (nI n) a f (nI c) (nI (p + 4 * k)) (nI k) h = some res ∧ Sum.elim (fun v => some v) (fun e => some (e.1, e.2)) res = some ((triesG S H (Z.2.2.2 q) (Z.2.2.1 q) p d k c T).1, h') ∧ Xtr (triesG S H (Z.2.2.2 q) (Z.2.2.1 q) p d k c T).2 h' ∧ Wx tg h' ∧ Fx (fun b => b = 32 ∨ b = 36) h h' ∧ ∀ k, k ≠ 5 → hI h' 32 k = hI h 32 k := by
  intro d
  induction d with
  | zero =>
    intro k c f T h hk hc hf hS hH hw hT0 h15 hln hit
    obtain ⟨f, rfl⟩ : ∃ f', f = f' + 1 := ⟨f - 1, by omega⟩
    refine ⟨Sum.inr (nI c, h), h, ?_, rfl, hT0, hw, Fx.rf, fun _ _ => rfl⟩
    unfold l_X11_tries_68
    rw [if_pos (nI_le (by omega) (by omega))]
  | succ d ih =>
    intro k c f T h hk hc hf hS hH hw hT0 h15 hln hit
    obtain ⟨f, rfl⟩ : ∃ f', f = f' + 1 := ⟨f - 1, by omega⟩
    have hB : hasB (Z.2.2.1 q) (nI (p + 4 * k)) 4 = decide (p + 4 * k + 4 ≤ Z.2.2.1 q) := by
      unfold hasB
      rw [nI_Z (by omega)]
      have e5 : (4 : Int32).toInt = 4 := rfl
      rw [e5]
      rw [Bool.eq_iff_iff]
      simp
      omega
    by_cases c1 : p + 4 * k + 4 ≤ Z.2.2.1 q
    · have a1 : nI (p + 4 * k) + (1 : Int32) = nI (p + 4 * k + 1) := nI_add _ 1
      have a2 : nI (p + 4 * k) + (2 : Int32) = nI (p + 4 * k + 2) := nI_add _ 2
      have a3 : nI (p + 4 * k) + (3 : Int32) = nI (p + 4 * k + 3) := nI_add _ 3
      have a4 : nI (p + 4 * k) + (4 : Int32) = nI (p + 4 * (k + 1)) := nI_add _ 4
      have x0 := ixb_n (i := p + 4 * k) (n := Z.2.2.1 q) (by omega) (by omega)
      have x1 := ixb_n (i := p + 4 * k + 1) (n := Z.2.2.1 q) (by omega) (by omega)
      have x2 := ixb_n (i := p + 4 * k + 2) (n := Z.2.2.1 q) (by omega) (by omega)
      have x3 := ixb_n (i := p + 4 * k + 3) (n := Z.2.2.1 q) (by omega) (by omega)
      have c0' : (nI (p + 4 * k)).toNatClampNeg = p + 4 * k := nI_clamp (by omega)
      have c1' : (nI (p + 4 * k + 1)).toNatClampNeg = p + 4 * k + 1 := nI_clamp (by omega)
      have c2' : (nI (p + 4 * k + 2)).toNatClampNeg = p + 4 * k + 2 := nI_clamp (by omega)
      have c3' : (nI (p + 4 * k + 3)).toNatClampNeg = p + 4 * k + 3 := nI_clamp (by omega)
      obtain ⟨h1, s1, s2, s3, s4, s5⟩ := X_shown hS hH hw hT0 (Z.2.2.2 q (p + 4 * k)) (Z.2.2.2 q (p + 4 * k + 1)) (Z.2.2.2 q (p + 4 * k + 2)) (Z.2.2.2 q (p + 4 * k + 3))
      have step : l_X11_tries_68 (nI n) a (f + 1) (nI c) (nI (p + 4 * k)) (nI k) h = l_X11_tries_68 (nI n) a f (nI (if a_shown S H T (Z.2.2.2 q (p + 4 * k)) (Z.2.2.2 q (p + 4 * k + 1)) (Z.2.2.2 q (p + 4 * k + 2)) (Z.2.2.2 q (p + 4 * k + 3)) < 0 then c else c + 1)) (nI (p + 4 * (k + 1))) (nI (k + 1)) h1 := by
        rw [l_X11_tries_68]
        rw [if_neg (nI_ge (by omega) (by omega)), hasItems_eq h15 hln h40, hB, Option.bind_some, if_pos (decide_eq_true c1), if_pos h15, hln, a1, a2, a3, a4, if_pos x0, if_pos x1, if_pos x2, if_pos x3, c0', c1', c2', c3', hit _ (by omega), hit _ (by omega), hit _ (by omega), hit _ (by omega), s1, Option.bind_some, nI_1]
        show (if a_shown S H T _ _ _ _ < 0 then _ else _) = _
        split
        · rw [show nI c + (0 : Int32) = nI c from nI_add c 0]
        · rw [nI_1]
      rw [step]
      have hN := hw.1 a (by omega)
      have fa := s4.2 a hN.2 (by omega)
      obtain ⟨res, h', r1, r2, r3, r4, r5, r6⟩ := ih (k + 1) (if a_shown S H T (Z.2.2.2 q (p + 4 * k)) (Z.2.2.2 q (p + 4 * k + 1)) (Z.2.2.2 q (p + 4 * k + 2)) (Z.2.2.2 q (p + 4 * k + 3)) < 0 then c else c + 1) f _ h1 (by omega) (by split <;> omega) (by omega) (hS.fx hw s4 (fun _ _ => rfl) (fun b hb z => by
          rcases hb with hb | hb | hb
          · omega
          · have := hw.1 b (by omega); omega
          · have := hw.1 b (by omega); omega)) (hH.fx hw s4 (fun _ _ => rfl) (fun b hb z => by
          rcases hb with hb | hb | hb
          · omega
          · have := hw.1 b (by omega); omega
          · have := hw.1 b (by omega); omega)) s3 s2 (s4.t h15 (by decide)) (by rw [s4.n (by rw [h15]; decide)]; exact hln) (fun j hj => by rw [fa.1]; exact hit j hj)
      refine ⟨res, h', r1, ?_, ?_, r4, ?_, fun j hj => (r6 j hj).trans (s5 j hj)⟩
      · rw [r2]; simp only [triesG, if_pos c1]
      · simp only [triesG, if_pos c1]; exact r3
      · exact s4.tr r5
    · refine ⟨Sum.inl (-12, h), h, ?_, ?_, ?_, hw, Fx.rf, fun _ _ => rfl⟩
      · rw [l_X11_tries_68]
        rw [if_neg (nI_ge (by omega) (by omega)), hasItems_eq h15 hln h40, hB, Option.bind_some, if_neg (by rw [decide_eq_false c1]; decide)]
      · simp only [triesG, if_neg c1]; rfl
      · simp only [triesG, if_neg c1]; exact hT0
/-- the whole answer -/
def g_tries (S H T : TB) (Z : SZ) (p s f n : Int32) : Int32 × TB := if (inZ p.toInt 0 3 && inZ s.toInt 0 2 && inZ n.toInt 0 10) = true then (if Z.1 p.toNatClampNeg = true then (if Z.2.1 p.toNatClampNeg = s then (if n.toNatClampNeg = 0 then (0, T) else if hasB (Z.2.2.1 p.toNatClampNeg) f 4 = true then triesG S H (Z.2.2.2 p.toNatClampNeg) (Z.2.2.1 p.toNatClampNeg) f.toNatClampNeg n.toNatClampNeg 0 0 T else (-12, T)) else (-13, T)) else (-11, T)) else (-2, T)
theorem n10 (n : Int32) : (∃ k, k ≤ 10 ∧ n = nI k ∧ inZ n.toInt 0 10 = true) ∨ inZ n.toInt 0 10 = false := by
  rcases ix_case n 11 with ⟨k, hk, e, hz⟩ | hz
  · exact Or.inl ⟨k, by omega, e, hz⟩
  · exact Or.inr hz
theorem M_tries {S H T : TB} {Z : SZ} {h : HS} (hS : Mst S h) (hH : Mha H h) (hT0 : Mtr T h) (hZ : Msh Z h) (p s f n : Int32) : ∃ h', f_X12_tries p s f n h = some ((g_tries S H T Z p s f n).1, h') ∧ Mtr (g_tries S H T Z p s f n).2 h' ∧ Fr 3 h h' := by
  have e0 : (0 : Int64).toInt = 0 := rfl
  have e2 : (2 : Int64).toInt = 2 := rfl
  have e10 : (10 : Int64).toInt = 10 := rfl
  rcases sh_case p with ⟨q, hq, rfl, hz⟩ | hz
  · have hx := ixb_n (i := q) (n := 4) (by omega) (by decide)
    have hc : (nI q).toNatClampNeg = q := nI_clamp (by omega)
    cases hs : inZ s.toInt 0 2
    · refine ⟨h, ?_, by simp [g_tries, hs]; exact hT0, Fr.rf⟩
      unfold f_X12_tries
      simp [M_isSheet, hz, f_in_eq, e0, e2, hs, g_tries]
    · rcases n10 n with ⟨m, hm, rfl, hn⟩ | hn
      · have hcm : (nI m).toNatClampNeg = m := nI_clamp (by omega)
        obtain ⟨g1, g2⟩ := hZ q hq
        cases ht : Z.1 q
        · have g3 : hI h 85 q = 0 := by simpa [ht] using g1
          refine ⟨h, ?_, by simp [g_tries, hs, hz, hn, hc, ht]; exact hT0, Fr.rf⟩
          unfold f_X12_tries
          simp only [M_isSheet, hz, f_in_eq, Int32.toInt_toInt64, e0, e2, e10, hs, hn, Option.bind_some, if_true, hx, hc, g3, g_tries, ht, Bool.and_self]
          rfl
        · have g3 : ¬ hI h 85 q = 0 := by rw [g1, ht]; decide
          obtain ⟨b1, b2, b3, b4⟩ := g2 ht
          by_cases hss : Z.2.1 q = s
          · have eqf : f_X12_tries (nI q) s f (nI m) h = Option.bind (l_X12_tries_75 (nI q) f (nI m) 1000 (0 : Int32) (0 : Int32) h) (fun q50 => (Sum.elim (fun v => some v) (fun e52 => (some (e52.1, e52.2))) q50)) := by
              unfold f_X12_tries
              simp only [M_isSheet, hz, f_in_eq, Int32.toInt_toInt64, e0, e2, e10, hs, hn, Option.bind_some, if_true, hx, hc, if_neg g3, b1, hss]
            have hg : g_tries S H T Z (nI q) s f (nI m) = if m = 0 then (0, T) else if hasB (Z.2.2.1 q) f 4 = true then triesG S H (Z.2.2.2 q) (Z.2.2.1 q) f.toNatClampNeg m 0 0 T else (-12, T) := by
              simp only [g_tries, hz, hs, hn, hc, ht, hss, hcm, Bool.and_self, if_true]
            rw [eqf, hg]
            by_cases m0 : m = 0
            · subst m0
              exact ⟨h, by rfl, hT0, Fr.rf⟩
            · rw [if_neg m0]
              cases hb : hasB (Z.2.2.1 q) f 4
              · refine ⟨h, ?_, hT0, Fr.rf⟩
                have hn0 : ¬ nI m ≤ 0 := nI_nle (by omega) (by omega)
                have e5 : (4 : Int32).toInt = 4 := rfl
                have hsz : (nI (Z.2.2.1 q) - (4 : Int32) * 0 - (4 : Int32)).toInt = (Z.2.2.1 q : Int) - 4 := by
                  rw [show (4 : Int32) * 0 = 0 from rfl, show nI (Z.2.2.1 q) - (0 : Int32) = nI (Z.2.2.1 q) from by rw [show (0 : Int32) = nI 0 from rfl, pk_sub (by omega)]; rfl, i32_subZ (by rw [nI_Z (by omega), e5]; omega) (by rw [nI_Z (by omega), e5]; omega), nI_Z (by omega), e5]
                rw [show (1000 : Nat) = 999 + 1 from rfl, l_X12_tries_75, if_neg hn0]
                by_cases f0 : f < 0
                · rw [if_pos f0]; rfl
                · rw [if_neg f0, if_pos hx, hc, b2, if_neg (fun z => ?_)]
                  · rfl
                  · rw [i32_le0, hsz] at z
                    rw [i32_lt0, z_0] at f0
                    have : hasB (Z.2.2.1 q) f 4 = true := by simp only [hasB, Bool.and_eq_true, decide_eq_true_eq, e5]; omega
                    rw [this] at hb; cases hb
              · obtain ⟨x, y, x1, rfl, hy⟩ := hasB_t hb b3
                have y4 : 4 = y := (nI_eq (by omega) (by omega)).mp hy
                subst y4
                have hcx : (nI x).toNatClampNeg = x := nI_clamp (by omega)
                obtain ⟨res, h', r1, r2, r3, r4⟩ := L_mtries (S := S) (H := H) (Z := Z) hq ht x1 hm m 0 0 1000 T h (by omega) (by omega) (by omega) hS hH hT0 hZ
                refine ⟨h', ?_, by rw [hcx]; exact r3, r4⟩
                rw [show (0 : Int32) = nI 0 from rfl, r1, Option.bind_some, r2, hcx]
                rfl
          · refine ⟨h, ?_, by simp [g_tries, hs, hz, hn, hc, ht, hss]; exact hT0, Fr.rf⟩
            unfold f_X12_tries
            simp only [M_isSheet, hz, f_in_eq, Int32.toInt_toInt64, e0, e2, e10, hs, hn, Option.bind_some, if_true, hx, hc, if_neg g3, b1, if_neg hss, g_tries, ht, Bool.and_self]
      · refine ⟨h, ?_, by simp [g_tries, hn]; exact hT0, Fr.rf⟩
        unfold f_X12_tries
        simp [M_isSheet, hz, f_in_eq, e0, e2, e10, hs, hn, g_tries]
  · refine ⟨h, ?_, by simp [g_tries, hz]; exact hT0, Fr.rf⟩
    unfold f_X12_tries
    simp [M_isSheet, hz, g_tries]
theorem X_tries {S H T : TB} {Z : SZ} {tg : Nat → Nat} {h : HS} (hS : Xst S tg h) (hH : Xha H tg h) (hw : Wx tg h) (hT0 : Xtr T h) (hZ : Xsh Z tg h) (p s f n : Int32) : ∃ h', f_X11_tries p s f n h = some ((g_tries S H T Z p s f n).1, h') ∧ Xtr (g_tries S H T Z p s f n).2 h' ∧ Wx tg h' ∧ Fx (fun b => b = 32 ∨ b = 36) h h' ∧ ∀ k, k ≠ 5 → hI h' 32 k = hI h 32 k := by
  have e2 : (2 : Int32).toInt = 2 := rfl
  have e10 : (10 : Int32).toInt = 10 := rfl
  rcases sh_case p with ⟨q, hq, rfl, hz⟩ | hz
  · have hx := ixb_n (i := q) (n := 4) (by omega) (by decide)
    have hc : (nI q).toNatClampNeg = q := nI_clamp (by omega)
    cases hs : inZ s.toInt 0 2
    · refine ⟨h, ?_, by simp [g_tries, hs]; exact hT0, hw, Fx.rf, fun _ _ => rfl⟩
      unfold f_X11_tries
      simp [isSheet_eq, hz, f_isIn_eq, e2, hs, g_tries]
    · rcases n10 n with ⟨m, hm, rfl, hn⟩ | hn
      · have hcm : (nI m).toNatClampNeg = m := nI_clamp (by omega)
        obtain ⟨g1, g2⟩ := hZ q hq
        cases ht : Z.1 q
        · refine ⟨h, ?_, by simp [g_tries, hs, hz, hn, hc, ht]; exact hT0, hw, Fx.rf, fun _ _ => rfl⟩
          unfold f_X11_tries
          simp only [isSheet_eq, hz, f_isIn_eq, z_0, e2, e10, hs, hn, Option.bind_some, if_true, hx, hc, g2 ht, om_none, g_tries, ht, Bool.and_self]
          rfl
        · obtain ⟨a, a1, a2, a3, a4, a5, a6, a7⟩ := g1 ht
          by_cases hss : Z.2.1 q = s
          · have eqf : f_X11_tries (nI q) s f (nI m) h = Option.bind (l_X11_tries_68 (nI m) a 1000 (0 : Int32) f (0 : Int32) h) (fun q47 => (Sum.elim (fun v => some v) (fun e49 => (some (e49.1, e49.2))) q47)) := by
              unfold f_X11_tries
              simp only [isSheet_eq, hz, f_isIn_eq, z_0, e2, e10, hs, hn, Option.bind_some, if_true, hx, hc, a1, om_some, a5, hss]
            have hg : g_tries S H T Z (nI q) s f (nI m) = if m = 0 then (0, T) else if hasB (Z.2.2.1 q) f 4 = true then triesG S H (Z.2.2.2 q) (Z.2.2.1 q) f.toNatClampNeg m 0 0 T else (-12, T) := by
              simp only [g_tries, hz, hs, hn, hc, ht, hss, hcm, Bool.and_self, if_true]
            rw [eqf, hg]
            by_cases m0 : m = 0
            · subst m0
              exact ⟨h, by rfl, hT0, hw, Fx.rf, fun _ _ => rfl⟩
            · rw [if_neg m0]
              cases hb : hasB (Z.2.2.1 q) f 4
              · refine ⟨h, ?_, hT0, hw, Fx.rf, fun _ _ => rfl⟩
                have hn0 : ¬ nI m ≤ 0 := nI_nle (by omega) (by omega)
                rw [show (1000 : Nat) = 999 + 1 from rfl, l_X11_tries_68, if_neg hn0, hasItems_eq a3 a4 a6, hb]
                rfl
              · obtain ⟨x, y, x1, rfl, hy⟩ := hasB_t hb a6
                have y4 : 4 = y := (nI_eq (by omega) (by omega)).mp hy
                subst y4
                have hcx : (nI x).toNatClampNeg = x := nI_clamp (by omega)
                obtain ⟨res, h', r1, r2, r3, r4, r5, r6⟩ := L_xtries (S := S) (H := H) (Z := Z) (tg := tg) (q := q) (a := a) x1 a6 hm (by omega) m 0 0 1000 T h (by omega) (by omega) (by omega) hS hH hw hT0 a3 a4 a7
                refine ⟨h', ?_, by rw [hcx]; exact r3, r4, r5, r6⟩
                rw [show (0 : Int32) = nI 0 from rfl]
                have r1' : l_X11_tries_68 (nI m) a 1000 (nI 0) (nI x) (nI 0) h = some res := r1
                rw [r1', Option.bind_some, r2, hcx]
                rfl
          · refine ⟨h, ?_, by simp [g_tries, hs, hz, hn, hc, ht, hss]; exact hT0, hw, Fx.rf, fun _ _ => rfl⟩
            unfold f_X11_tries
            simp only [isSheet_eq, hz, f_isIn_eq, z_0, e2, e10, hs, hn, Option.bind_some, if_true, hx, hc, a1, om_some, a5, if_neg hss, g_tries, ht, Bool.and_self]
      · refine ⟨h, ?_, by simp [g_tries, hn]; exact hT0, hw, Fx.rf, fun _ _ => rfl⟩
        unfold f_X11_tries
        simp [isSheet_eq, hz, f_isIn_eq, e2, e10, hs, hn, g_tries]
  · refine ⟨h, ?_, by simp [g_tries, hz]; exact hT0, hw, Fx.rf, fun _ _ => rfl⟩
    unfold f_X11_tries
    simp [isSheet_eq, hz, g_tries]
