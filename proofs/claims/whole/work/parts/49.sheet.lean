/-! ===== sheets ===== -/
abbrev SZ : Type := (Nat → Bool) × (Nat → Int32) × (Nat → Nat) × (Nat → Nat → Int32)
def upn {α : Type} (f : Nat → α) (q : Nat) (v : α) : Nat → α := fun p => if p = q then v else f p
def Msh (Z : SZ) (h : HS) : Prop := ∀ q, q < 4 → hI h 85 q = (if Z.1 q = true then 1 else 0) ∧ (Z.1 q = true → hI h 86 q = Z.2.1 q ∧ hI h 87 q = nI (Z.2.2.1 q) ∧ Z.2.2.1 q ≤ 40 ∧ ∀ k, k < Z.2.2.1 q → hI h 88 (40 * q + k) = Z.2.2.2 q k)
def Xsh (Z : SZ) (tg : Nat → Nat) (h : HS) : Prop := ∀ q, q < 4 → (Z.1 q = true → ∃ a, hR h 46 q = some a ∧ tg a = 60 + q ∧ hT h a = 15 ∧ hLn h a = Z.2.2.1 q ∧ hI h 47 q = Z.2.1 q ∧ Z.2.2.1 q ≤ 40 ∧ ∀ k, k < Z.2.2.1 q → hI h a k = Z.2.2.2 q k) ∧ (Z.1 q = false → hR h 46 q = none)
theorem isSheet_eq (p : Int32) : f_X11_isSheet p = some (inZ p.toInt 0 3) := by
  unfold f_X11_isSheet
  have e3 : (3 : Int32).toInt = 3 := rfl
  simp only [f_isIn_eq, e3, z_0, Option.bind_some]
theorem sh_case (p : Int32) : (∃ q, q < 4 ∧ p = nI q ∧ inZ p.toInt 0 3 = true) ∨ inZ p.toInt 0 3 = false := by
  rcases ix_case p 4 with ⟨n, hn, e, hz⟩ | hz
  · exact Or.inl ⟨n, hn, e, hz⟩
  · exact Or.inr hz
def okSheet (p s n : Int32) : Bool := inZ p.toInt 0 3 && inZ s.toInt (-1) 2 && (decide (s < 0) || decide (n ≤ 40))
def a_sheet (p s n : Int32) : Int32 := if okSheet p s n = true then (if s < 0 then 1 else if n < 0 then -14 else 1) else -2
def u_sheet (Z : SZ) (p s n : Int32) : SZ := if okSheet p s n = true then (if s < 0 then (upn Z.1 p.toNatClampNeg false, Z.2.1, Z.2.2.1, Z.2.2.2) else if n < 0 then Z else (upn Z.1 p.toNatClampNeg true, upn Z.2.1 p.toNatClampNeg s, upn Z.2.2.1 p.toNatClampNeg n.toNatClampNeg, upn Z.2.2.2 p.toNatClampNeg (fun _ => 0))) else Z
theorem L_sheet {q n : Nat} {s : Int32} (hq : q < 4) (hn : n ≤ 40) (hs : ¬ s < 0) : ∀ (m k f : Nat) (h : HS), k + m = n → m < f → ∃ h', l_X12_sheet_77 (nI q) s (nI n) f (nI k) h = some h' ∧ Fr 8 h h' ∧ (∀ a, a ≠ 88 → ∀ j, hI h' a j = hI h a j) ∧ ∀ j, hI h' 88 j = if 40 * q + k ≤ j ∧ j < 40 * q + n then 0 else hI h 88 j := by
  intro m
  induction m with
  | zero =>
    intro k f h hk hf
    obtain ⟨f, rfl⟩ : ∃ f', f = f' + 1 := ⟨f - 1, by omega⟩
    refine ⟨h, ?_, Fr.rf, fun _ _ _ => rfl, fun j => by rw [if_neg (by omega)]⟩
    unfold l_X12_sheet_77
    rw [if_pos (nI_le (by omega) (by omega))]
  | succ m ih =>
    intro k f h hk hf
    obtain ⟨f, rfl⟩ : ∃ f', f = f' + 1 := ⟨f - 1, by omega⟩
    have e1 : (40 : Int32) * nI q + nI k = nI (40 * q + k) := by rw [show (40 : Int32) = nI 40 from rfl, pk_mul, nI_add]
    obtain ⟨h', i1, i2, i3, i4⟩ := ih (k + 1) f (sI h 88 (40 * q + k) 0) (by omega) (by omega)
    refine ⟨h', ?_, (Fr.sI Fr.rf (Or.inl rfl)).tr i2, fun a ha j => by rw [i3 a ha j, hI_sI, if_neg ha], fun j => ?_⟩
    · unfold l_X12_sheet_77
      rw [if_neg (nI_ge (by omega) (by omega)), if_neg hs, e1, if_pos (ixb_n (by omega) (by decide)), nI_clamp (by omega), nI_1]
      exact i1
    · rw [i4 j, hI_sI, if_pos rfl]
      by_cases c1 : j = 40 * q + k
      · subst c1; rw [if_neg (by omega), if_pos rfl, if_pos (by omega)]
      · rw [if_neg c1]
        by_cases c2 : 40 * q + (k + 1) ≤ j ∧ j < 40 * q + n
        · rw [if_pos c2, if_pos (by omega)]
        · rw [if_neg c2, if_neg (by omega)]
theorem n40 {n : Int32} (h0 : ¬ n < 0) (h1 : n ≤ 40) : ∃ k, k ≤ 40 ∧ n = nI k := nI_of2 (M := 40) (n := 40) rfl h0 h1
theorem M_sheet {Z : SZ} {h : HS} (hZ : Msh Z h) (p s n : Int32) : ∃ h', f_X12_sheet p s n h = some (a_sheet p s n, h') ∧ Msh (u_sheet Z p s n) h' ∧ Fr 8 h h' := by
  have e1 : (-1 : Int64).toInt = -1 := rfl
  have e2 : (2 : Int64).toInt = 2 := rfl
  rcases sh_case p with ⟨q, hq, rfl, hz⟩ | hz
  · have hx := ixb_n (i := q) (n := 4) (by omega) (by decide)
    have hc : (nI q).toNatClampNeg = q := nI_clamp (by omega)
    cases hs : inZ s.toInt (-1) 2
    · refine ⟨h, ?_, by simp [u_sheet, okSheet, hs]; exact hZ, Fr.rf⟩
      unfold f_X12_sheet
      simp [M_isSheet, hz, f_in_eq, e1, e2, hs, a_sheet, okSheet]
    · by_cases s0 : s < 0
      · have ok : okSheet (nI q) s n = true := by simp [okSheet, hz, hs, s0]
        have hl : ∀ h1, l_X12_sheet_77 (nI q) s n 1000 0 h1 = some h1 := fun h1 => by
          rw [show (1000 : Nat) = 999 + 1 from rfl]
          unfold l_X12_sheet_77
          split
          · rfl
          · first | rfl | rw [if_pos s0]
        refine ⟨sI (sI (sI h 85 q 0) 86 q s) 87 q n, ?_, ?_, by (repeat (first | exact Fr.rf | assumption | refine Fr.sI ?_ (by first | exact Or.inl rfl | exact Or.inr rfl) | refine Fr.sL ?_ (by first | exact Or.inl rfl | exact Or.inr rfl)))⟩
        · unfold f_X12_sheet
          have z0 : z01 0 = true := rfl
          by_cases n40' : n ≤ 40 <;> simp only [M_isSheet, hz, f_in_eq, Int32.toInt_toInt64, e1, e2, hs, Option.bind_some, if_true, s0, hx, hc, z0, hl, a_sheet, ok]
        · rw [u_sheet, if_pos ok, if_pos s0, hc]
          intro r hr
          by_cases e : r = q
          · subst e
            refine ⟨by simp [hI_sI, hI_sL, hI_sR, hL_sI, hL_sL, hL_sR, hR_sI, hR_sL, hR_sR, hT_sI, hT_sL, hT_sR, hLn_sI, hLn_sL, hLn_sR, hN_sI, hN_sL, hN_sR, upn], fun z => by simp [upn] at z⟩
          · obtain ⟨g1, g2⟩ := hZ r hr
            refine ⟨by simp [hI_sI, hI_sL, hI_sR, hL_sI, hL_sL, hL_sR, hR_sI, hR_sL, hR_sR, hT_sI, hT_sL, hT_sR, hLn_sI, hLn_sL, hLn_sR, hN_sI, hN_sL, hN_sR, upn, e, g1], fun z => ?_⟩
            have z' : Z.1 r = true := by simpa [upn, e] using z
            obtain ⟨b1, b2, b3, b4⟩ := g2 z'
            exact ⟨by simp [hI_sI, hI_sL, hI_sR, hL_sI, hL_sL, hL_sR, hR_sI, hR_sL, hR_sR, hT_sI, hT_sL, hT_sR, hLn_sI, hLn_sL, hLn_sR, hN_sI, hN_sL, hN_sR, e, b1], by simp [hI_sI, hI_sL, hI_sR, hL_sI, hL_sL, hL_sR, hR_sI, hR_sL, hR_sR, hT_sI, hT_sL, hT_sR, hLn_sI, hLn_sL, hLn_sR, hN_sI, hN_sL, hN_sR, e, b2], b3, fun k hk => by simp [hI_sI, hI_sL, hI_sR, hL_sI, hL_sL, hL_sR, hR_sI, hR_sL, hR_sR, hT_sI, hT_sL, hT_sR, hLn_sI, hLn_sL, hLn_sR, hN_sI, hN_sL, hN_sR, b4 k hk]⟩
      · by_cases n4 : n ≤ 40
        · have ok : okSheet (nI q) s n = true := by simp [okSheet, hz, hs, n4]
          by_cases n0 : n < 0
          · refine ⟨h, ?_, by rw [u_sheet, if_pos ok, if_neg s0, if_pos n0]; exact hZ, Fr.rf⟩
            have n0' : ¬ 0 ≤ n := Int32.not_le.mpr n0
            unfold f_X12_sheet
            simp only [M_isSheet, hz, f_in_eq, Int32.toInt_toInt64, e1, e2, hs, Option.bind_some, if_true, if_neg s0, if_pos n4, if_neg n0', a_sheet, ok, if_pos n0]
          · obtain ⟨k, hk, rfl⟩ := n40 n0 n4
            have n0' : 0 ≤ nI k := Int32.not_lt.mp n0
            have hck : (nI k).toNatClampNeg = k := nI_clamp (by omega)
            obtain ⟨h', i1, i2, i3, i4⟩ := L_sheet hq hk s0 k 0 1000 (sI (sI (sI h 85 q 1) 86 q s) 87 q (nI k)) (by omega) (by omega)
            refine ⟨h', ?_, ?_, (show Fr 8 h (sI (sI (sI h 85 q 1) 86 q s) 87 q (nI k)) by (repeat (first | exact Fr.rf | assumption | refine Fr.sI ?_ (by first | exact Or.inl rfl | exact Or.inr rfl) | refine Fr.sL ?_ (by first | exact Or.inl rfl | exact Or.inr rfl)))).tr i2⟩
            · unfold f_X12_sheet
              have z1 : z01 1 = true := rfl
              simp only [M_isSheet, hz, f_in_eq, Int32.toInt_toInt64, e1, e2, hs, Option.bind_some, if_true, if_neg s0, if_pos n4, if_pos n0', hx, hc, z1, a_sheet, ok, if_neg n0]
              rw [show (0 : Int32) = nI 0 from rfl, i1]
              rfl
            · rw [u_sheet, if_pos ok, if_neg s0, if_neg n0, hc, hck]
              intro r hr
              by_cases e : r = q
              · subst e
                refine ⟨by rw [i3 _ (by decide)]; simp [hI_sI, hI_sL, hI_sR, hL_sI, hL_sL, hL_sR, hR_sI, hR_sL, hR_sR, hT_sI, hT_sL, hT_sR, hLn_sI, hLn_sL, hLn_sR, hN_sI, hN_sL, hN_sR, upn], fun _ => ⟨by rw [i3 _ (by decide)]; simp [hI_sI, hI_sL, hI_sR, hL_sI, hL_sL, hL_sR, hR_sI, hR_sL, hR_sR, hT_sI, hT_sL, hT_sR, hLn_sI, hLn_sL, hLn_sR, hN_sI, hN_sL, hN_sR, upn], by rw [i3 _ (by decide)]; simp [hI_sI, hI_sL, hI_sR, hL_sI, hL_sL, hL_sR, hR_sI, hR_sL, hR_sR, hT_sI, hT_sL, hT_sR, hLn_sI, hLn_sL, hLn_sR, hN_sI, hN_sL, hN_sR, upn], by simpa [upn] using hk, fun j hj => ?_⟩⟩
                have hj' : j < k := by simpa [upn] using hj
                rw [i4, if_pos (by omega)]; simp [upn]
              · obtain ⟨g1, g2⟩ := hZ r hr
                refine ⟨by rw [i3 _ (by decide)]; simp [hI_sI, hI_sL, hI_sR, hL_sI, hL_sL, hL_sR, hR_sI, hR_sL, hR_sR, hT_sI, hT_sL, hT_sR, hLn_sI, hLn_sL, hLn_sR, hN_sI, hN_sL, hN_sR, upn, e, g1], fun z => ?_⟩
                have z' : Z.1 r = true := by simpa [upn, e] using z
                obtain ⟨b1, b2, b3, b4⟩ := g2 z'
                refine ⟨by rw [i3 _ (by decide)]; simp [hI_sI, hI_sL, hI_sR, hL_sI, hL_sL, hL_sR, hR_sI, hR_sL, hR_sR, hT_sI, hT_sL, hT_sR, hLn_sI, hLn_sL, hLn_sR, hN_sI, hN_sL, hN_sR, upn, e, b1], by rw [i3 _ (by decide)]; simp [hI_sI, hI_sL, hI_sR, hL_sI, hL_sL, hL_sR, hR_sI, hR_sL, hR_sR, hT_sI, hT_sL, hT_sR, hLn_sI, hLn_sL, hLn_sR, hN_sI, hN_sL, hN_sR, upn, e, b2], by simpa [upn, e] using b3, fun j hj => ?_⟩
                have hj' : j < Z.2.2.1 r := by simpa [upn, e] using hj
                rw [i4, if_neg (by omega)]
                simp [hI_sI, hI_sL, hI_sR, hL_sI, hL_sL, hL_sR, hR_sI, hR_sL, hR_sR, hT_sI, hT_sL, hT_sR, hLn_sI, hLn_sL, hLn_sR, hN_sI, hN_sL, hN_sR, upn, e, b4 j hj']
        · have ok : ¬ okSheet (nI q) s n = true := by simp [okSheet, hz, hs, n4, s0]
          refine ⟨h, ?_, by rw [u_sheet, if_neg ok]; exact hZ, Fr.rf⟩
          unfold f_X12_sheet
          simp only [M_isSheet, hz, f_in_eq, Int32.toInt_toInt64, e1, e2, hs, Option.bind_some, if_true, if_neg s0, if_neg n4, a_sheet, if_neg ok]
  · refine ⟨h, ?_, by simp [u_sheet, okSheet, hz]; exact hZ, Fr.rf⟩
    unfold f_X12_sheet
    simp [M_isSheet, hz, a_sheet, okSheet]
theorem Xsh.fx {Z : SZ} {tg tg' : Nat → Nat} {A : Nat → Prop} {h h' : HS} (hX : Xsh Z tg h) (hw : Wx tg h) (F : Fx A h h') (ht : ∀ b, b < hN h → tg' b = tg b) (hA : ∀ b, b = 46 ∨ b = 47 ∨ (60 ≤ tg b ∧ tg b < 64) → ¬ A b) : Xsh Z tg' h' := by
  intro q hq
  obtain ⟨x1, x2⟩ := hX q hq
  have h89 := hw.2.2
  have f46 := F.2 46 (by omega) (hA _ (Or.inl rfl))
  have f47 := F.2 47 (by omega) (hA _ (Or.inr (Or.inl rfl)))
  refine ⟨fun z => ?_, fun z => by rw [f46.2.2]; exact x2 z⟩
  obtain ⟨a, a1, a2, a3, a4, a5, a6, a7⟩ := x1 z
  have hlt := (hw.1 a (by omega)).2
  have fa := F.2 a hlt (hA _ (Or.inr (Or.inr (by omega))))
  exact ⟨a, by rw [f46.2.2]; exact a1, by rw [ht a hlt]; exact a2, F.t a3 (by decide), by rw [F.n (by rw [a3]; decide)]; exact a4, by rw [f47.1]; exact a5, a6, fun k hk => by rw [fa.1]; exact a7 k hk⟩
theorem X_sheet {Z : SZ} {tg : Nat → Nat} {h : HS} (hX : Xsh Z tg h) (hw : Wx tg h) (p s n : Int32) : ∃ (h' : HS) (tg' : Nat → Nat), f_X11_sheet p s n h = some (a_sheet p s n, h') ∧ Xsh (u_sheet Z p s n) tg' h' ∧ Wx tg' h' ∧ (∀ b, b < hN h → tg' b = tg b) ∧ Fx (fun b => b = 46 ∨ b = 47) h h' := by
  have e1 : (-1 : Int32).toInt = -1 := rfl
  have e2 : (2 : Int32).toInt = 2 := rfl
  have hf : ∀ k, fixR 46 k = false := fun k => fixR_no (by decide)
  have h89 := hw.2.2
  rcases sh_case p with ⟨q, hq, rfl, hz⟩ | hz
  · have hx := ixb_n (i := q) (n := 4) (by omega) (by decide)
    have hc : (nI q).toNatClampNeg = q := nI_clamp (by omega)
    cases hs : inZ s.toInt (-1) 2
    · refine ⟨h, tg, ?_, by simp [u_sheet, okSheet, hs]; exact hX, hw, fun _ _ => rfl, Fx.rf⟩
      unfold f_X11_sheet
      simp [isSheet_eq, hz, f_isIn_eq, e1, e2, hs, a_sheet, okSheet]
    · by_cases s0 : s < 0
      · have ok : okSheet (nI q) s n = true := by simp [okSheet, hz, hs, s0]
        refine ⟨sI (sR h 46 q none) 47 q s, tg, ?_, ?_, ⟨hw.1, hw.2.1, hw.2.2⟩, fun _ _ => rfl, Fx.sI (Fx.sR Fx.rf (hf q) (Or.inl (Or.inl rfl))) (Or.inl (Or.inr rfl))⟩
        · unfold f_X11_sheet
          by_cases n40' : n ≤ 40 <;> simp only [isSheet_eq, hz, f_isIn_eq, e1, e2, hs, Option.bind_some, if_true, s0, hx, hc, a_sheet, ok]
        · rw [u_sheet, if_pos ok, if_pos s0, hc]
          intro r hr
          by_cases e : r = q
          · subst e
            exact ⟨fun z => by simp [upn] at z, fun _ => by simp [hI_sI, hI_sL, hI_sR, hL_sI, hL_sL, hL_sR, hR_sI, hR_sL, hR_sR, hT_sI, hT_sL, hT_sR, hLn_sI, hLn_sL, hLn_sR, hN_sI, hN_sL, hN_sR]⟩
          · obtain ⟨g1, g2⟩ := hX r hr
            refine ⟨fun z => ?_, fun z => by simpa [hI_sI, hI_sL, hI_sR, hL_sI, hL_sL, hL_sR, hR_sI, hR_sL, hR_sR, hT_sI, hT_sL, hT_sR, hLn_sI, hLn_sL, hLn_sR, hN_sI, hN_sL, hN_sR, e] using g2 (by simpa [upn, e] using z)⟩
            obtain ⟨a, a1, a2, a3, a4, a5, a6, a7⟩ := g1 (by simpa [upn, e] using z)
            have ha := hw.1 a (by omega)
            exact ⟨a, by simpa [hI_sI, hI_sL, hI_sR, hL_sI, hL_sL, hL_sR, hR_sI, hR_sL, hR_sR, hT_sI, hT_sL, hT_sR, hLn_sI, hLn_sL, hLn_sR, hN_sI, hN_sL, hN_sR, e] using a1, a2, a3, a4, by simpa [hI_sI, hI_sL, hI_sR, hL_sI, hL_sL, hL_sR, hR_sI, hR_sL, hR_sR, hT_sI, hT_sL, hT_sR, hLn_sI, hLn_sL, hLn_sR, hN_sI, hN_sL, hN_sR, e] using a5, a6, fun k hk => by rw [hI_sI, if_neg (by omega), hI_sR]; exact a7 k hk⟩
      · by_cases n4 : n ≤ 40
        · have ok : okSheet (nI q) s n = true := by simp [okSheet, hz, hs, n4]
          by_cases n0 : n < 0
          · refine ⟨h, tg, ?_, by rw [u_sheet, if_pos ok, if_neg s0, if_pos n0]; exact hX, hw, fun _ _ => rfl, Fx.rf⟩
            have n0' : ¬ 0 ≤ n := Int32.not_le.mpr n0
            unfold f_X11_sheet
            simp only [isSheet_eq, hz, f_isIn_eq, e1, e2, hs, Option.bind_some, if_true, if_neg s0, if_pos n4, if_neg n0', a_sheet, ok, if_pos n0]
          · obtain ⟨k, hk, rfl⟩ := n40 n0 n4
            have n0' : 0 ≤ nI k := Int32.not_lt.mp n0
            have hck : (nI k).toNatClampNeg = k := nI_clamp (by omega)
            have hz0 := hw.2.1 (hN h) (Nat.le_refl _)
            have hnab : nab (nI k) = true := by unfold nab; rw [hck]; simp [nI_pos (show k < 2 ^ 31 by omega)]; omega
            refine ⟨sI (sR (hNew h 15 k k) 46 q (some (hN h))) 47 q s, fun b => if b = hN h then 60 + q else tg b, ?_, ?_, ?_, fun b hb => if_neg (by omega), Fx.sI (Fx.sR (Fx.nw Fx.rf hz0) (hf q) (Or.inl (Or.inl rfl))) (Or.inl (Or.inr rfl))⟩
            · unfold f_X11_sheet
              simp only [isSheet_eq, hz, f_isIn_eq, e1, e2, hs, Option.bind_some, if_true, if_neg s0, if_pos n4, if_pos n0', hx, hc, hck, hnab, hz0, bh_eq, a_sheet, ok, if_neg n0]
            · rw [u_sheet, if_pos ok, if_neg s0, if_neg n0, hc, hck]
              intro r hr
              by_cases e : r = q
              · subst e
                refine ⟨fun _ => ⟨hN h, by simp [hI_sI, hI_sL, hI_sR, hL_sI, hL_sL, hL_sR, hR_sI, hR_sL, hR_sR, hT_sI, hT_sL, hT_sR, hLn_sI, hLn_sL, hLn_sR, hN_sI, hN_sL, hN_sR], if_pos rfl, by simp [hI_sI, hI_sL, hI_sR, hL_sI, hL_sL, hL_sR, hR_sI, hR_sL, hR_sR, hT_sI, hT_sL, hT_sR, hLn_sI, hLn_sL, hLn_sR, hN_sI, hN_sL, hN_sR, hT_nw], by simp [hI_sI, hI_sL, hI_sR, hL_sI, hL_sL, hL_sR, hR_sI, hR_sL, hR_sR, hT_sI, hT_sL, hT_sR, hLn_sI, hLn_sL, hLn_sR, hN_sI, hN_sL, hN_sR, hLn_nw, upn], by simp [hI_sI, hI_sL, hI_sR, hL_sI, hL_sL, hL_sR, hR_sI, hR_sL, hR_sR, hT_sI, hT_sL, hT_sR, hLn_sI, hLn_sL, hLn_sR, hN_sI, hN_sL, hN_sR, upn], by simpa [upn] using hk, fun j hj => ?_⟩, fun z => by simp [upn] at z⟩
                rw [hI_sI, if_neg (by omega), hI_sR, hI_nw, if_pos rfl]; simp [upn]
              · obtain ⟨g1, g2⟩ := hX r hr
                refine ⟨fun z => ?_, fun z => by simpa [hI_sI, hI_sL, hI_sR, hL_sI, hL_sL, hL_sR, hR_sI, hR_sL, hR_sR, hT_sI, hT_sL, hT_sR, hLn_sI, hLn_sL, hLn_sR, hN_sI, hN_sL, hN_sR, e, hR_nw, show ¬ 46 = hN h by omega] using g2 (by simpa [upn, e] using z)⟩
                obtain ⟨a, a1, a2, a3, a4, a5, a6, a7⟩ := g1 (by simpa [upn, e] using z)
                have ha := hw.1 a (by omega)
                have hne : ¬ a = hN h := by omega
                refine ⟨a, by simpa [hI_sI, hI_sL, hI_sR, hL_sI, hL_sL, hL_sR, hR_sI, hR_sL, hR_sR, hT_sI, hT_sL, hT_sR, hLn_sI, hLn_sL, hLn_sR, hN_sI, hN_sL, hN_sR, e, hR_nw, show ¬ 46 = hN h by omega] using a1, (if_neg hne).trans a2, by simpa [hI_sI, hI_sL, hI_sR, hL_sI, hL_sL, hL_sR, hR_sI, hR_sL, hR_sR, hT_sI, hT_sL, hT_sR, hLn_sI, hLn_sL, hLn_sR, hN_sI, hN_sL, hN_sR, hT_nw, hne] using a3, by simpa [hI_sI, hI_sL, hI_sR, hL_sI, hL_sL, hL_sR, hR_sI, hR_sL, hR_sR, hT_sI, hT_sL, hT_sR, hLn_sI, hLn_sL, hLn_sR, hN_sI, hN_sL, hN_sR, hLn_nw, hne, upn, e] using a4, by simpa [hI_sI, hI_sL, hI_sR, hL_sI, hL_sL, hL_sR, hR_sI, hR_sL, hR_sR, hT_sI, hT_sL, hT_sR, hLn_sI, hLn_sL, hLn_sR, hN_sI, hN_sL, hN_sR, e, hI_nw, show ¬ 47 = hN h by omega, upn] using a5, by simpa [upn, e] using a6, fun j hj => ?_⟩
                have hj' : j < Z.2.2.1 r := by simpa [upn, e] using hj
                rw [hI_sI, if_neg (by omega), hI_sR, hI_nw, if_neg hne]
                simpa [upn, e] using a7 j hj'
            · refine ⟨fun b hb => ?_, fun b hb => ?_, by show 89 ≤ hN h + 1; omega⟩
              · show _ ∧ b < hN h + 1
                by_cases e : b = hN h
                · omega
                · have h5 := hw.1 b (by simpa only [if_neg e] using hb); omega
              · have hb' : hN h + 1 ≤ b := hb
                simp only [hI_sI, hI_sL, hI_sR, hL_sI, hL_sL, hL_sR, hR_sI, hR_sL, hR_sR, hT_sI, hT_sL, hT_sR, hLn_sI, hLn_sL, hLn_sR, hN_sI, hN_sL, hN_sR, hT_nw, if_neg (show ¬ b = hN h by omega)]
                exact hw.2.1 b (by omega)
        · have ok : ¬ okSheet (nI q) s n = true := by simp [okSheet, hz, hs, n4, s0]
          refine ⟨h, tg, ?_, by rw [u_sheet, if_neg ok]; exact hX, hw, fun _ _ => rfl, Fx.rf⟩
          unfold f_X11_sheet
          simp only [isSheet_eq, hz, f_isIn_eq, e1, e2, hs, Option.bind_some, if_true, if_neg s0, if_neg n4, a_sheet, if_neg ok]
  · refine ⟨h, tg, ?_, by simp [u_sheet, okSheet, hz]; exact hX, hw, fun _ _ => rfl, Fx.rf⟩
    unfold f_X11_sheet
    simp [isSheet_eq, hz, a_sheet, okSheet]
