/-! ===== the reference's copy ===== -/
theorem L_up {q r x y m : Nat} (hx : 40 * q + x + m ≤ 160) (hy : 40 * r + y + m ≤ 160) (hd : ∀ u k, k < u → u < m → 40 * q + x + u ≠ 40 * r + y + k) : ∀ (d k f : Nat) (h : HS), k + d = m → d < f → ∃ h', l_X12_copy_121 (nI q) (nI x) (nI r) (nI y) (nI m) 0 f (nI k) h = some h' ∧ Fr 8 h h' ∧ (∀ a, a ≠ 88 → ∀ j, hI h' a j = hI h a j) ∧ ∀ t, hI h' 88 t = if 40 * r + y + k ≤ t ∧ t < 40 * r + y + m then hI h 88 (40 * q + x + (t - (40 * r + y))) else hI h 88 t := by
  intro d
  induction d with
  | zero =>
    intro k f h hk hf
    obtain ⟨f, rfl⟩ : ∃ f', f = f' + 1 := ⟨f - 1, by omega⟩
    refine ⟨h, ?_, Fr.rf, fun _ _ _ => rfl, fun j => by rw [if_neg (by omega)]⟩
    unfold l_X12_copy_121
    rw [if_pos (nI_le (by omega) (by omega))]
  | succ d ih =>
    intro k f h hk hf
    obtain ⟨f, rfl⟩ : ∃ f', f = f' + 1 := ⟨f - 1, by omega⟩
    have e1 : (40 : Int32) * nI q + nI x + nI k = nI (40 * q + x + k) := by rw [show (40 : Int32) = nI 40 from rfl, pk_mul, nI_add, nI_add]
    have e2 : (40 : Int32) * nI r + nI y + nI k = nI (40 * r + y + k) := by rw [show (40 : Int32) = nI 40 from rfl, pk_mul, nI_add, nI_add]
    obtain ⟨h', i1, i2, i3, i4⟩ := ih (k + 1) f (sI h 88 (40 * r + y + k) (hI h 88 (40 * q + x + k))) (by omega) (by omega)
    refine ⟨h', ?_, (Fr.sI Fr.rf (Or.inl rfl)).tr i2, fun a ha j => by rw [i3 a ha j, hI_sI, if_neg ha], fun t => ?_⟩
    · unfold l_X12_copy_121
      rw [if_neg (nI_ge (by omega) (by omega)), if_pos rfl, Option.bind_some, e1, e2, if_pos (ixb_n (by omega) (by decide)), if_pos (ixb_n (by omega) (by decide)), nI_clamp (by omega), nI_clamp (by omega), nI_1]
      exact i1
    · rw [i4 t]
      by_cases c1 : t = 40 * r + y + k
      · subst c1
        rw [if_neg (by omega), hI_sI, if_pos rfl, if_pos rfl, if_pos (by omega)]
        congr 1
        omega
      · by_cases c2 : 40 * r + y + (k + 1) ≤ t ∧ t < 40 * r + y + m
        · rw [if_pos c2, if_pos (by omega), hI_sI, if_pos rfl, if_neg (hd _ _ (by omega) (by omega))]
        · rw [if_neg c2, if_neg (by omega), hI_sI, if_pos rfl, if_neg c1]
theorem L_down {q r x y m : Nat} (hx : 40 * q + x + m ≤ 160) (hy : 40 * r + y + m ≤ 160) (hd : ∀ u k, u < k → k < m → 40 * q + x + u ≠ 40 * r + y + k) : ∀ (d k f : Nat) (h : HS), k + d = m → d < f → ∃ h', l_X12_copy_121 (nI q) (nI x) (nI r) (nI y) (nI m) 1 f (nI k) h = some h' ∧ Fr 8 h h' ∧ (∀ a, a ≠ 88 → ∀ j, hI h' a j = hI h a j) ∧ ∀ t, hI h' 88 t = if 40 * r + y ≤ t ∧ t < 40 * r + y + d then hI h 88 (40 * q + x + (t - (40 * r + y))) else hI h 88 t := by
  intro d
  induction d with
  | zero =>
    intro k f h hk hf
    obtain ⟨f, rfl⟩ : ∃ f', f = f' + 1 := ⟨f - 1, by omega⟩
    refine ⟨h, ?_, Fr.rf, fun _ _ _ => rfl, fun j => by rw [if_neg (by omega)]⟩
    unfold l_X12_copy_121
    rw [if_pos (nI_le (by omega) (by omega))]
  | succ d ih =>
    intro k f h hk hf
    obtain ⟨f, rfl⟩ : ∃ f', f = f' + 1 := ⟨f - 1, by omega⟩
    have e0 : nI m - (1 : Int32) - nI k = nI d := by
      rw [show (1 : Int32) = nI 1 from rfl, pk_sub (by omega), pk_sub (by omega)]
      congr 1
      omega
    have e1 : (40 : Int32) * nI q + nI x + nI d = nI (40 * q + x + d) := by rw [show (40 : Int32) = nI 40 from rfl, pk_mul, nI_add, nI_add]
    have e2 : (40 : Int32) * nI r + nI y + nI d = nI (40 * r + y + d) := by rw [show (40 : Int32) = nI 40 from rfl, pk_mul, nI_add, nI_add]
    obtain ⟨h', i1, i2, i3, i4⟩ := ih (k + 1) f (sI h 88 (40 * r + y + d) (hI h 88 (40 * q + x + d))) (by omega) (by omega)
    refine ⟨h', ?_, (Fr.sI Fr.rf (Or.inl rfl)).tr i2, fun a ha j => by rw [i3 a ha j, hI_sI, if_neg ha], fun t => ?_⟩
    · unfold l_X12_copy_121
      rw [if_neg (nI_ge (by omega) (by omega)), if_neg (by decide), Option.bind_some, e0, e1, e2, if_pos (ixb_n (by omega) (by decide)), if_pos (ixb_n (by omega) (by decide)), nI_clamp (by omega), nI_clamp (by omega), nI_1]
      exact i1
    · rw [i4 t]
      by_cases c1 : t = 40 * r + y + d
      · subst c1
        rw [if_neg (by omega), hI_sI, if_pos rfl, if_pos rfl, if_pos (by omega)]
        congr 1
        omega
      · by_cases c2 : 40 * r + y ≤ t ∧ t < 40 * r + y + d
        · rw [if_pos c2, if_pos (by omega), hI_sI, if_pos rfl, if_neg (hd _ _ (by omega) (by omega))]
        · rw [if_neg c2, if_neg (by omega), hI_sI, if_pos rfl, if_neg c1]
theorem Msh.cpy {Z : SZ} {h h' : HS} {q r x y m : Nat} (hZ : Msh Z h) (hq : q < 4) (hr : r < 4) (ht : Z.1 q = true) (ht2 : Z.1 r = true) (hx : x + m ≤ Z.2.2.1 q) (hy : y + m ≤ Z.2.2.1 r) (i3 : ∀ a, a ≠ 88 → ∀ j, hI h' a j = hI h a j) (i4 : ∀ t, hI h' 88 t = if 40 * r + y ≤ t ∧ t < 40 * r + y + m then hI h 88 (40 * q + x + (t - (40 * r + y))) else hI h 88 t) : Msh (Z.1, Z.2.1, Z.2.2.1, fun p k => if p = r then va_cpy (Z.2.2.2 q) (Z.2.2.2 p) x y m k else Z.2.2.2 p k) h' := by
  intro p hp
  obtain ⟨g1, g2⟩ := hZ p hp
  refine ⟨by rw [i3 _ (by decide)]; exact g1, fun z => ?_⟩
  obtain ⟨b1, b2, b3, b4⟩ := g2 z
  obtain ⟨-, -, c3, c4⟩ := (hZ q hq).2 ht
  obtain ⟨-, -, d3, d4⟩ := (hZ r hr).2 ht2
  refine ⟨by rw [i3 _ (by decide)]; exact b1, by rw [i3 _ (by decide)]; exact b2, b3, fun k hk => ?_⟩
  have hk' : k < Z.2.2.1 p := hk
  rw [i4]
  by_cases e : p = r
  · subst e
    simp only [if_true]
    unfold va_cpy
    by_cases c : y ≤ k ∧ k < y + m
    · rw [if_pos c, if_pos (by omega), ← c4 _ (by omega)]
      congr 1
      omega
    · rw [if_neg c, if_neg (by omega)]
      exact b4 k hk
  · simp only [if_neg e]
    rw [if_neg (by omega)]
    exact b4 k hk
theorem M_copy {Z : SZ} {h : HS} (hZ : Msh Z h) (p i o j n : Int32) : ∃ h', f_X12_copy p i o j n h = some (a_copy Z p i o j n, h') ∧ Msh (u_copy Z p i o j n) h' ∧ Fr 8 h h' := by
  rcases sh_case p with ⟨q, hq, rfl, hz⟩ | hz
  · rcases sh_case o with ⟨r, hr, rfl, hz2⟩ | hz2
    · have hx := ixb_n (i := q) (n := 4) (by omega) (by decide)
      have hx2 := ixb_n (i := r) (n := 4) (by omega) (by decide)
      have hc : (nI q).toNatClampNeg = q := nI_clamp (by omega)
      have hc2 : (nI r).toNatClampNeg = r := nI_clamp (by omega)
      obtain ⟨g1, g2⟩ := hZ q hq
      obtain ⟨k1, k2⟩ := hZ r hr
      cases ht : Z.1 q
      · have ok : okCopy Z (nI q) i (nI r) j n = -11 := by simp [okCopy, hz, hz2, hc, ht]
        have g3 : hI h 85 q = 0 := by simpa [ht] using g1
        refine ⟨h, ?_, by rw [u_copy, ok]; exact hZ, Fr.rf⟩
        unfold f_X12_copy a_copy
        rw [ok]
        simp only [M_isSheet, hz, hz2, Option.bind_some, if_true, hx, hc, g3]
        rfl
      · have g3 : ¬ hI h 85 q = 0 := by rw [g1, ht]; decide
        obtain ⟨a1, a2, a3, a4⟩ := g2 ht
        cases ht2 : Z.1 r
        · have ok : okCopy Z (nI q) i (nI r) j n = -11 := by simp [okCopy, hz, hz2, hc, hc2, ht2]
          have k3 : hI h 85 r = 0 := by simpa [ht2] using k1
          refine ⟨h, ?_, by rw [u_copy, ok]; exact hZ, Fr.rf⟩
          unfold f_X12_copy a_copy
          rw [ok]
          simp only [M_isSheet, hz, hz2, Option.bind_some, if_true, hx, hx2, hc, hc2, if_neg g3, k3]
          rfl
        · have k3 : ¬ hI h 85 r = 0 := by rw [k1, ht2]; decide
          obtain ⟨b1, b2, b3, b4⟩ := k2 ht2
          by_cases hs : Z.2.1 q = Z.2.1 r
          · cases hb : hasB (Z.2.2.1 q) i n && hasB (Z.2.2.1 r) j n
            · have ok : okCopy Z (nI q) i (nI r) j n = -12 := by simp [okCopy, hz, hz2, hc, hc2, ht, ht2, hs] at hb ⊢; exact hb
              refine ⟨h, ?_, by rw [u_copy, ok]; exact hZ, Fr.rf⟩
              unfold f_X12_copy a_copy
              rw [ok]
              simp only [M_isSheet, hz, hz2, Option.bind_some, if_true, hx, hx2, hc, hc2, if_neg g3, if_neg k3, a1, b1, hs, a2, b2]
              have hn1 := nI_Z (n := Z.2.2.1 q) (by omega)
              have hn2 := nI_Z (n := Z.2.2.1 r) (by omega)
              simp only [i32_lt0, i32_le0, z_0]
              by_cases c1 : n.toInt < 0
              · rw [if_pos c1]; rfl
              rw [if_neg c1]
              by_cases c2 : i.toInt < 0
              · rw [if_pos c2]; rfl
              rw [if_neg c2]
              by_cases c3 : j.toInt < 0
              · rw [if_pos c3]; rfl
              rw [if_neg c3]
              have hnn := i32_lo n
              rw [i32_subZ (by rw [hn1]; omega) (by rw [hn1]; omega), i32_subZ (by rw [hn2]; omega) (by rw [hn2]; omega), hn1, hn2]
              by_cases c4 : (Z.2.2.1 q : Int) - n.toInt < i.toInt
              · rw [if_pos c4]; rfl
              rw [if_neg c4]
              have c5 : ¬ j.toInt ≤ (Z.2.2.1 r : Int) - n.toInt := by
                intro c5
                have : (hasB (Z.2.2.1 q) i n && hasB (Z.2.2.1 r) j n) = true := by
                  simp only [hasB, Bool.and_eq_true, decide_eq_true_eq]; omega
                rw [this] at hb; cases hb
              rw [if_neg c5]; rfl
            · have hb' := hb
              rw [Bool.and_eq_true] at hb'
              have ok : okCopy Z (nI q) i (nI r) j n = 1 := by simp [okCopy, hz, hz2, hc, hc2, ht, ht2, hs, hb'.1, hb'.2]
              obtain ⟨x, m, x1, rfl, rfl⟩ := hasB_t hb'.1 a3
              obtain ⟨y, m2, y1, rfl, hm⟩ := hasB_t hb'.2 b3
              have : m = m2 := (nI_eq (by omega) (by omega)).mp hm
              subst this
              have cx : (nI x).toNatClampNeg = x := nI_clamp (by omega)
              have cy : (nI y).toNatClampNeg = y := nI_clamp (by omega)
              have cm : (nI m).toNatClampNeg = m := nI_clamp (by omega)
              have p1 := nI_pos (n := m) (by omega)
              have p2 := nI_pos (n := x) (by omega)
              have p3 := nI_pos (n := y) (by omega)
              have p4 : ¬ nI (Z.2.2.1 q) - nI m < nI x := by rw [pk_sub (by omega)]; exact nI_nlt (by omega) (by omega)
              have p5 : nI y ≤ nI (Z.2.2.1 r) - nI m := by rw [pk_sub (by omega)]; exact nI_le (by omega) (by omega)
              have pre : ∀ X : Option HS, (f_X12_copy (nI q) (nI x) (nI r) (nI y) (nI m) h = Option.bind X (fun w => some (nI m, w))) → ∀ h', X = some h' → f_X12_copy (nI q) (nI x) (nI r) (nI y) (nI m) h = some (a_copy Z (nI q) (nI x) (nI r) (nI y) (nI m), h') := by
                intro X e h' eX
                rw [e, eX, a_copy, if_pos ok]; rfl
              have up : (∀ u k, k < u → u < m → 40 * q + x + u ≠ 40 * r + y + k) → (f_X12_copy (nI q) (nI x) (nI r) (nI y) (nI m) h = Option.bind (l_X12_copy_121 (nI q) (nI x) (nI r) (nI y) (nI m) 0 1000 0 h) (fun w => some (nI m, w))) → ∃ h', f_X12_copy (nI q) (nI x) (nI r) (nI y) (nI m) h = some (a_copy Z (nI q) (nI x) (nI r) (nI y) (nI m), h') ∧ Msh (u_copy Z (nI q) (nI x) (nI r) (nI y) (nI m)) h' ∧ Fr 8 h h' := by
                intro hd e
                obtain ⟨h', i1, i2, i3, i4⟩ := L_up (q := q) (r := r) (x := x) (y := y) (m := m) (by omega) (by omega) hd m 0 1000 h (by omega) (by omega)
                exact ⟨h', pre _ e h' i1, by rw [u_copy, if_pos ok, hc, hc2, cx, cy, cm]; exact hZ.cpy hq hr ht ht2 x1 y1 i3 (by simpa using i4), i2⟩
              have eqf : f_X12_copy (nI q) (nI x) (nI r) (nI y) (nI m) h = if nI q = nI r then Option.bind (if nI y ≤ nI x then (some (0 : Int32)) else (some (1 : Int32))) (fun q41 => (Option.bind (l_X12_copy_121 (nI q) (nI x) (nI r) (nI y) (nI m) q41 1000 (0 : Int32) h) (fun q44 => (some (nI m, q44))))) else (Option.bind (l_X12_copy_121 (nI q) (nI x) (nI r) (nI y) (nI m) (0 : Int32) 1000 (0 : Int32) h) (fun q36 => (some (nI m, q36)))) := by
                unfold f_X12_copy
                simp only [M_isSheet, hz, hz2, Option.bind_some, if_true, hx, hx2, hc, hc2, if_neg g3, if_neg k3, a1, b1, hs, a2, b2, if_neg p1, if_neg p2, if_neg p3, if_neg p4, if_pos p5]
              by_cases e : nI q = nI r
              · have e' : q = r := (nI_eq (by omega) (by omega)).mp e
                by_cases c : nI y ≤ nI x
                · have c' := (nI_leI (by omega) (by omega)).mp c
                  exact up (fun u k _ _ => by omega) (by rw [eqf, if_pos e, if_pos c]; rfl)
                · have c' : ¬ y ≤ x := fun z => c (nI_le z (by omega))
                  obtain ⟨h', i1, i2, i3, i4⟩ := L_down (q := q) (r := r) (x := x) (y := y) (m := m) (by omega) (by omega) (fun u k _ _ => by omega) m 0 1000 h (by omega) (by omega)
                  exact ⟨h', pre _ (by rw [eqf, if_pos e, if_neg c]; rfl) h' i1, by rw [u_copy, if_pos ok, hc, hc2, cx, cy, cm]; exact hZ.cpy hq hr ht ht2 x1 y1 i3 i4, i2⟩
              · have e' : q ≠ r := fun z => e (by rw [z])
                exact up (fun u k _ _ => by omega) (by rw [eqf, if_neg e])
          · have ok : okCopy Z (nI q) i (nI r) j n = -13 := by simp [okCopy, hz, hz2, hc, hc2, ht, ht2, hs]
            refine ⟨h, ?_, by rw [u_copy, ok]; exact hZ, Fr.rf⟩
            unfold f_X12_copy a_copy
            rw [ok]
            simp only [M_isSheet, hz, hz2, Option.bind_some, if_true, hx, hx2, hc, hc2, if_neg g3, if_neg k3, a1, b1, hs]
            rfl
    · have ok : okCopy Z (nI q) i o j n = -2 := by simp [okCopy, hz2]
      refine ⟨h, ?_, by rw [u_copy, ok]; exact hZ, Fr.rf⟩
      unfold f_X12_copy a_copy
      rw [ok]
      simp [M_isSheet, hz, hz2]
  · have ok : okCopy Z p i o j n = -2 := by simp [okCopy, hz]
    refine ⟨h, ?_, by rw [u_copy, ok]; exact hZ, Fr.rf⟩
    unfold f_X12_copy a_copy
    rw [ok]
    simp [M_isSheet, hz]
