/-! ===== setAll ===== -/
def waysI (S H T : TB) (e : Int32) (i t : Nat) : Int32 := if T.2 3 t = 1 then a_wn S H e i (T.2 1 t).toNatClampNeg (T.2 2 t) else allI H (T.2 1 t).toNatClampNeg - a_wn S H e i (T.2 1 t).toNatClampNeg (T.2 2 t)
def saG (S H T : TB) (e : Int32) (i : Nat) : Nat → Int64 → Nat → Int64
  | 0, c, _ => c
  | t + 1, c, n => if n = 0 then c else if T.2 0 t = nI i then saG S H T e i t (c * (waysI S H T e i t).toInt64) (n - 1) else saG S H T e i t c n
theorem nI_m (m : Nat) : nI (m + 1) + (-1 : Int32) = nI m := by
  rw [← Int32.sub_eq_add_neg]
  exact nI_pred m
theorem nI_m2 (m : Nat) : nI m + (-1 : Int32) = nI m - (1 : Int32) := by rw [Int32.sub_eq_add_neg]
theorem neg1 : nI 0 - (1 : Int32) < 0 := by decide
def a_setAll (S H T : TB) (s n p : Int32) : Int64 := if inZ s.toInt 0 (S.1 - 1) = true then (if inZ n.toInt 1 8 = true then (if inZ p.toInt 0 1 = true then saG S H T (1 - p) s.toNatClampNeg T.1 1 n.toNatClampNeg else noL) else noL) else noL
theorem part_e {p : Int32} (h : inZ p.toInt 0 1 = true) : 0 ≤ ((1 : Int32) - p).toInt ∧ ((1 : Int32) - p).toInt ≤ 1 := by
  obtain ⟨h1, h2⟩ := inZ_t.mp h
  rw [i32_subZ (by rw [one_Z]; omega) (by rw [one_Z]; omega), one_Z]
  omega
theorem L_msa {S H T : TB} {h : HS} (hS : Mst S h) (hW : Wst S) (hH : Mha H h) (hWH : Wha H) (hT0 : Mtr T h) (hWT : Wtr S H T) {p : Int32} (hp : inZ p.toInt 0 1 = true) {i : Nat} (hi : i < S.1) : ∀ (t f n : Nat) (c : Int64), t ≤ T.1 → t < f → n ≤ 8 → l_X12_setAll_45 (nI i) p h f c (nI n) (nI t - (1 : Int32)) = some (saG S H T (1 - p) i t c n) := by
  have h8 := hS.2.1
  have h60 := hT0.2.1
  have xi := ixb_n (i := i) (n := 8) (by omega) (by decide)
  have ci : (nI i).toNatClampNeg = i := nI_clamp (by omega)
  obtain ⟨r0, r1, r2, -⟩ := hS.2.2 i hi
  obtain ⟨w0, w1, w2, -⟩ := hW i hi
  intro t
  induction t with
  | zero =>
    intro f n c ht hf hn
    obtain ⟨f, rfl⟩ : ∃ f', f = f' + 1 := ⟨f - 1, by omega⟩
    rw [l_X12_setAll_45, if_pos neg1, saG]
  | succ t ih =>
    intro f n c ht hf hn
    obtain ⟨f, rfl⟩ : ∃ f', f = f' + 1 := ⟨f - 1, by omega⟩
    have hpos : ¬ nI t < 0 := nI_pos (by omega)
    rw [nI_pred, l_X12_setAll_45, if_neg hpos, saG]
    by_cases n0 : n = 0
    · subst n0
      rw [if_pos rfl, if_pos (show nI 0 ≤ 0 by decide)]
    · obtain ⟨m, rfl⟩ : ∃ m, n = m + 1 := ⟨n - 1, by omega⟩
      have xt := ixb_n (i := t) (n := 60) (by omega) (by decide)
      have ct : (nI t).toNatClampNeg = t := nI_clamp (by omega)
      obtain ⟨t0, t1, t2, t3, t4⟩ := hT0.2.2 t (by omega)
      obtain ⟨-, ⟨j, hj, ej⟩, k2, k3, -⟩ := hWT t (by omega)
      have h6 := hH.2.1
      have cj : (nI j).toNatClampNeg = j := nI_clamp (by omega)
      rw [if_neg n0, if_neg (nI_nle (by omega) (by omega)), if_pos xt, ct, t0]
      by_cases e : T.2 0 t = nI i
      · have hwn := M_winsOf hH hWH hj w0 w1 w2 (part_e hp) k2
        rw [if_pos e, if_pos e, if_pos xi, if_pos xi, if_pos xi, if_pos xt, if_pos xt, ci, r0, r1, r2, t1, t2, ej, hwn, Option.bind_some, if_pos xt, if_pos xt, t3, M_allOf hH hj, Option.bind_some, nI_m, nI_m2]
        have hwd : nI (cntW (S.2 0 i).toInt (S.2 2 i).toInt ((1 : Int32) - p).toInt ((T.2 2 t).toInt / 100 + (H.2 0 j).toInt - (S.2 1 i).toInt / 100) ((T.2 2 t).toInt % 100 + (H.2 1 j).toInt - (S.2 1 i).toInt % 100) (H.2 2 j).toInt.toNat) = a_wn S H (1 - p) i j (T.2 2 t) := rfl
        rw [hwd, Nat.add_sub_cancel]
        unfold waysI
        rw [ej, cj]
        by_cases e1 : T.2 3 t = 1
        · rw [if_pos e1, if_pos e1]
          exact ih f m _ (by omega) (by omega) (by omega)
        · rw [if_neg e1, if_neg e1]
          exact ih f m _ (by omega) (by omega) (by omega)
      · rw [if_neg e, if_neg e, nI_m2]
        exact ih f (m + 1) c (by omega) (by omega) hn
theorem M_setAll {S H T : TB} {h : HS} (hS : Mst S h) (hW : Wst S) (hH : Mha H h) (hWH : Wha H) (hT0 : Mtr T h) (hWT : Wtr S H T) (s n p : Int32) : f_X12_setAll s n p h = some (a_setAll S H T s n p) := by
  unfold f_X12_setAll a_setAll
  rw [M_isStall hS, Option.bind_some, f_in_eq, Int32.toInt_toInt64, show (1 : Int64).toInt = 1 from rfl, show (8 : Int64).toInt = 8 from rfl, Option.bind_some, M_isPart, Option.bind_some, hT0.1]
  rcases ix_case s S.1 with ⟨i, hi, rfl, hz⟩ | hz
  · rcases n18 n with ⟨m, hm, hm8, rfl, hn⟩ | hn
    · cases hp : inZ p.toInt 0 1
      · rw [hz, hn]; rfl
      · have h8 := hS.2.1
        have h60 := hT0.2.1
        have ci : (nI i).toNatClampNeg = i := nI_clamp (by omega)
        have cm : (nI m).toNatClampNeg = m := nI_clamp (by omega)
        have := L_msa hS hW hH hWH hT0 hWT hp hi T.1 1000 m 1 (by omega) (by omega) hm8
        rw [hz, hn, this, ci, cm]
        rfl
    · rw [hz, hn]; rfl
  · rw [hz]; rfl
theorem X_ways {S H T : TB} {tg : Nat → Nat} {h : HS} {i t : Nat} {e : Int32} (hW : Wst S) (hWH : Wha H) (hi : i < S.1) (hG : Xgr (wonZ (S.2 0 i).toInt (S.2 2 i).toInt e.toInt) (S.2 1 i) h) (hH : Xha H tg h) (hT0 : Xtr T h) (hWT : Wtr S H T) (ht : t < T.1) : f_X11_waysOfTry (nI t) h = some (waysI S H T e i t) := by
  have h6 := hH.1
  obtain ⟨-, ⟨j, hj, ej⟩, k2, k3, -⟩ := hWT t ht
  have q1 : f_X11_tryField (nI t) (1 : Int32) h = some (T.2 1 t) := tryField_eq hT0 (f := 1) ht (by decide)
  have q2 : f_X11_tryField (nI t) (2 : Int32) h = some (T.2 2 t) := tryField_eq hT0 (f := 2) ht (by decide)
  have q3 : f_X11_tryField (nI t) (3 : Int32) h = some (T.2 3 t) := tryField_eq hT0 (f := 3) ht (by decide)
  have cj : (nI j).toNatClampNeg = j := nI_clamp (by omega)
  rcases X_handAt hH (nI j) with ⟨j', b, hj', e', hzh, hf2, ob⟩ | ⟨hzh, hf2⟩
  · have : j = j' := (nI_eq (by omega) (by omega)).mp e'
    subst this
    have hwn : f_X2_winning b (T.2 2 t) h = some (a_wn S H e i j (T.2 2 t)) := X_winning hW hWH hi hj hG ob k2
    have b4 : hI h b 4 = allI H j := ob.2.2.2.2.2.2
    unfold f_X11_waysOfTry waysI
    rw [q1, Option.bind_some, ej, hf2, Option.bind_some, om_some, q2, Option.bind_some, hwn, Option.bind_some, q3, Option.bind_some, if_pos ob.2.1, b4, cj]
    split <;> rfl
  · exfalso
    rw [inZ_f, nI_Z (by omega)] at hzh
    omega
theorem L_xsa {S H T : TB} {tg : Nat → Nat} {h : HS} {i : Nat} {e : Int32} (hW : Wst S) (hWH : Wha H) (hi : i < S.1) (hG : Xgr (wonZ (S.2 0 i).toInt (S.2 2 i).toInt e.toInt) (S.2 1 i) h) (hH : Xha H tg h) (hT0 : Xtr T h) (hWT : Wtr S H T) : ∀ (t f n : Nat) (c : Int64), t ≤ T.1 → t < f → n ≤ 8 → l_X11_setAll_59 (nI i) h f c (nI n) (nI t - (1 : Int32)) = some (saG S H T e i t c n) := by
  have h60 := hT0.2.1
  intro t
  induction t with
  | zero =>
    intro f n c ht hf hn
    obtain ⟨f, rfl⟩ : ∃ f', f = f' + 1 := ⟨f - 1, by omega⟩
    rw [l_X11_setAll_59, if_pos neg1, saG]
  | succ t ih =>
    intro f n c ht hf hn
    obtain ⟨f, rfl⟩ : ∃ f', f = f' + 1 := ⟨f - 1, by omega⟩
    have hpos : ¬ nI t < 0 := nI_pos (by omega)
    rw [nI_pred, l_X11_setAll_59, if_neg hpos, saG]
    by_cases n0 : n = 0
    · subst n0
      rw [if_pos rfl, if_pos (show nI 0 ≤ 0 by decide)]
    · obtain ⟨m, rfl⟩ : ∃ m, n = m + 1 := ⟨n - 1, by omega⟩
      have q0 : f_X11_tryField (nI t) (0 : Int32) h = some (T.2 0 t) := tryField_eq hT0 (f := 0) (by omega) (by decide)
      rw [if_neg n0, if_neg (nI_nle (by omega) (by omega)), q0, Option.bind_some]
      by_cases e1 : T.2 0 t = nI i
      · rw [if_pos e1, if_pos e1, X_ways hW hWH hi hG hH hT0 hWT (by omega), Option.bind_some, nI_m, nI_m2, Nat.add_sub_cancel]
        exact ih f m _ (by omega) (by omega) (by omega)
      · rw [if_neg e1, if_neg e1, nI_m2]
        exact ih f (m + 1) c (by omega) (by omega) hn
