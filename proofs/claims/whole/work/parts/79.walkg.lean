/-! ===== walk: two tables of what fails have the same least ===== -/
theorem bw_h {N : Nat} {v : Int32} (w : 0 ≤ v.toInt ∧ v.toInt ≤ 5) (hle : N ≤ (2 * v.toInt.toNat + 1) * (2 * v.toInt.toNat + 1)) : (nI N).toInt ≤ ((2 * v + 1) * (2 * v + 1)).toInt := by
  have e2 : ((2 * v + 1) * (2 * v + 1)).toInt = (((2 * v.toInt.toNat + 1) * (2 * v.toInt.toNat + 1) : Nat) : Int) := by
    rcases v6 w with e | e | e | e | e | e <;> subst e <;> decide
  have h121 : (2 * v.toInt.toNat + 1) * (2 * v.toInt.toNat + 1) ≤ 11 * 11 := Nat.mul_le_mul (by omega) (by omega)
  rw [e2, nI_Z (by omega)]
  exact Int.ofNat_le.mpr hle
theorem bw_all {S H : TB} (hWH : Wha H) {i j : Nat} (hj : j < H.1) : (bw S H i j).toInt ≤ (allI H j).toInt := by
  obtain ⟨-, -, w⟩ := hWH j hj
  obtain ⟨x, y, hx, hy, q⟩ := gW_in (S := S) hWH (e := S.2 6 i) (i := i) hj
  unfold bw
  rw [q]
  exact bw_h w (cntW_le _ _ _ _ _ _)
theorem fA_Z {x w all : Int32} (hx : 0 ≤ x.toInt ∧ x.toInt ≤ 1000000) (hw : 0 ≤ w.toInt ∧ w.toInt ≤ all.toInt) (ha : 1 ≤ all.toInt ∧ all.toInt ≤ 121) : (fA x w all).toInt = x.toInt * w.toInt / all.toInt ∧ 0 ≤ (fA x w all).toInt ∧ (fA x w all).toInt ≤ x.toInt := by
  have p0 : 0 ≤ x.toInt * w.toInt := Int.mul_nonneg hx.1 hw.1
  have p1 : x.toInt * w.toInt ≤ 1000000 * 121 := Int.mul_le_mul hx.2 (by omega) hw.1 (by omega)
  have pm : (x.toInt64 * w.toInt64).toInt = x.toInt * w.toInt := by
    rw [Int64.toInt_mul, Int32.toInt_toInt64, Int32.toInt_toInt64]
    exact Int.bmod_eq_of_le (by omega) (by omega)
  have pa : x.toInt * w.toInt ≤ x.toInt * all.toInt := Int.mul_le_mul_of_nonneg_left hw.2 hx.1
  have d0 : 0 ≤ x.toInt * w.toInt / all.toInt := Int.ediv_nonneg p0 (by omega)
  have d1 : x.toInt * w.toInt / all.toInt ≤ x.toInt := Int.ediv_le_of_le_mul (by omega) pa
  have e : (fA x w all).toInt = x.toInt * w.toInt / all.toInt := by
    unfold fA
    rw [Int64.toInt_toInt32, Int64.toInt_div, pm, Int32.toInt_toInt64, Int.tdiv_eq_ediv_of_nonneg p0]
    generalize x.toInt * w.toInt / all.toInt = D at *
    rw [Int.bmod_eq_of_le (n := D) (m := 2 ^ 64) (by omega) (by omega)]
    exact Int.bmod_eq_of_le (by omega) (by omega)
  rw [e]
  exact ⟨rfl, d0, d1⟩
theorem fA_mono {x y w all : Int32} (hx : 0 ≤ x.toInt) (hxy : x.toInt ≤ y.toInt) (hy : y.toInt ≤ 1000000) (hw : 0 ≤ w.toInt ∧ w.toInt ≤ all.toInt) (ha : 1 ≤ all.toInt ∧ all.toInt ≤ 121) : (fA x w all).toInt ≤ (fA y w all).toInt := by
  rw [(fA_Z (x := x) ⟨hx, by omega⟩ hw ha).1, (fA_Z (x := y) ⟨by omega, hy⟩ hw ha).1]
  exact Int.ediv_le_ediv (by omega) (Int.mul_le_mul_of_nonneg_right hxy hw.1)
/-- the least of what stood and of each try -/
def mnG (T : Nat → Int32) (f : Nat → Int32 → Int32) (p : Nat → Nat) (c : Nat) : Nat → Nat → Int32 → Int32
  | 0, _, v => v
  | d + 1, s, v => mnG T f p c d (s + 1) (if p s ≤ c then (if v ≤ f s (T (c - p s)) then v else f s (T (c - p s))) else v)
theorem mnG_congr {T U : Nat → Int32} {f : Nat → Int32 → Int32} {p : Nat → Nat} {c : Nat} (hTU : ∀ i, i < c → T i = U i) : ∀ (d s : Nat) (v : Int32), (∀ i, i < s + d → 1 ≤ p i) → mnG T f p c d s v = mnG U f p c d s v := by
  intro d
  induction d with
  | zero => intro s v _; rfl
  | succ d ih =>
    intro s v hp
    rw [mnG, mnG]
    by_cases h : p s ≤ c
    · have h1 := hp s (by omega)
      rw [if_pos h, if_pos h, hTU (c - p s) (by omega)]
      exact ih _ _ (fun i hi => hp i (by omega))
    · rw [if_neg h, if_neg h]
      exact ih _ _ (fun i hi => hp i (by omega))
theorem mnG_spec {T : Nat → Int32} {f : Nat → Int32 → Int32} {p : Nat → Nat} {c : Nat} : ∀ (d s : Nat) (v : Int32), (mnG T f p c d s v).toInt ≤ v.toInt ∧ (∀ i, s ≤ i → i < s + d → p i ≤ c → (mnG T f p c d s v).toInt ≤ (f i (T (c - p i))).toInt) ∧ (mnG T f p c d s v = v ∨ ∃ i, i < s + d ∧ p i ≤ c ∧ mnG T f p c d s v = f i (T (c - p i))) := by
  intro d
  induction d with
  | zero => intro s v; exact ⟨Int.le_refl _, fun i h1 h2 => by omega, Or.inl rfl⟩
  | succ d ih =>
    intro s v
    rw [mnG]
    by_cases h : p s ≤ c
    · rw [if_pos h]
      by_cases h2 : v ≤ f s (T (c - p s))
      · rw [if_pos h2]
        rw [i32_le0] at h2
        obtain ⟨a1, a2, a3⟩ := ih (s + 1) v
        refine ⟨a1, fun i g1 g2 g3 => ?_, ?_⟩
        · by_cases e : i = s
          · subst e; exact Int.le_trans a1 h2
          · exact a2 i (by omega) (by omega) g3
        · rcases a3 with a3 | ⟨i, b1, b2, b3⟩
          · exact Or.inl a3
          · exact Or.inr ⟨i, by omega, b2, b3⟩
      · rw [if_neg h2]
        rw [i32_le0] at h2
        obtain ⟨a1, a2, a3⟩ := ih (s + 1) (f s (T (c - p s)))
        refine ⟨by omega, fun i g1 g2 g3 => ?_, ?_⟩
        · by_cases e : i = s
          · subst e; exact a1
          · exact a2 i (by omega) (by omega) g3
        · rcases a3 with a3 | ⟨i, b1, b2, b3⟩
          · exact Or.inr ⟨s, by omega, h, a3⟩
          · exact Or.inr ⟨i, by omega, b2, b3⟩
    · rw [if_neg h]
      obtain ⟨a1, a2, a3⟩ := ih (s + 1) v
      refine ⟨a1, fun i g1 g2 g3 => ?_, ?_⟩
      · by_cases e : i = s
        · subst e; exact absurd g3 h
        · exact a2 i (by omega) (by omega) g3
      · rcases a3 with a3 | ⟨i, b1, b2, b3⟩
        · exact Or.inl a3
        · exact Or.inr ⟨i, by omega, b2, b3⟩
/-- the reference's table of the first c, and the least of it -/
def gTab (f : Nat → Int32 → Int32) (p : Nat → Nat) (n : Nat) (a : Int32) : Nat → Nat → Int32
  | 0, _ => 0
  | c + 1, i => if i = c then mnG (gTab f p n a c) f p c n 0 a else gTab f p n a c i
def gLst (f : Nat → Int32 → Int32) (p : Nat → Nat) (n : Nat) (a : Int32) : Nat → Int32
  | 0 => a
  | c + 1 => if gLst f p n a c ≤ mnG (gTab f p n a c) f p c n 0 a then gLst f p n a c else mnG (gTab f p n a c) f p c n 0 a
theorem gTab_st {f : Nat → Int32 → Int32} {p : Nat → Nat} {n : Nat} {a : Int32} : ∀ (d c i : Nat), i < c → gTab f p n a (c + d) i = gTab f p n a c i := by
  intro d
  induction d with
  | zero => intro c i h; rfl
  | succ d ih =>
    intro c i h
    rw [show c + (d + 1) = (c + d) + 1 by omega, gTab, if_neg (by omega), ih c i h]
theorem gTab_at {f : Nat → Int32 → Int32} {p : Nat → Nat} {n : Nat} {a : Int32} (hp : ∀ i, i < n → 1 ≤ p i) {c i : Nat} (h : i < c) : gTab f p n a c i = mnG (gTab f p n a c) f p i n 0 a := by
  have e : gTab f p n a c i = mnG (gTab f p n a i) f p i n 0 a := by
    have := gTab_st (f := f) (p := p) (n := n) (a := a) (c - (i + 1)) (i + 1) i (by omega)
    rw [show i + 1 + (c - (i + 1)) = c by omega] at this
    rw [this, gTab, if_pos rfl]
  rw [e]
  refine mnG_congr (fun k hk => ?_) n 0 a (fun k hk => hp k (by omega))
  have := gTab_st (f := f) (p := p) (n := n) (a := a) (c - i) i k hk
  rw [show i + (c - i) = c by omega] at this
  exact this.symm
theorem gLst_le {f : Nat → Int32 → Int32} {p : Nat → Nat} {n : Nat} {a : Int32} : ∀ c, (gLst f p n a c).toInt ≤ a.toInt := by
  intro c
  induction c with
  | zero => exact Int.le_refl _
  | succ c ih =>
    rw [gLst]
    split
    · exact ih
    · exact (mnG_spec n 0 a).1
theorem gLst_spec {f : Nat → Int32 → Int32} {p : Nat → Nat} {n : Nat} {a : Int32} : ∀ c, (∀ i, i < c → (gLst f p n a c).toInt ≤ (gTab f p n a c i).toInt) ∧ (gLst f p n a c = a ∨ ∃ i, i < c ∧ gLst f p n a c = gTab f p n a c i) := by
  intro c
  induction c with
  | zero => exact ⟨fun i h => by omega, Or.inl rfl⟩
  | succ c ih =>
    obtain ⟨i1, i2⟩ := ih
    rw [gLst]
    by_cases h : gLst f p n a c ≤ mnG (gTab f p n a c) f p c n 0 a
    · rw [if_pos h]
      rw [i32_le0] at h
      refine ⟨fun i hi => ?_, ?_⟩
      · rw [gTab]
        by_cases e : i = c
        · rw [if_pos e]; exact h
        · rw [if_neg e]; exact i1 i (by omega)
      · rcases i2 with i2 | ⟨i, h1, h2⟩
        · exact Or.inl i2
        · exact Or.inr ⟨i, by omega, by rw [gTab, if_neg (by omega)]; exact h2⟩
    · rw [if_neg h]
      rw [i32_le0] at h
      refine ⟨fun i hi => ?_, Or.inr ⟨c, by omega, by rw [gTab, if_pos rfl]⟩⟩
      rw [gTab]
      by_cases e : i = c
      · rw [if_pos e]; exact Int.le_refl _
      · rw [if_neg e]; have := i1 i (by omega); omega
/-- two tables, one least -/
theorem walk_min {n : Nat} {p : Nat → Nat} {f : Nat → Int → Int} {M : Int} (hp : ∀ s, s < n → 1 ≤ p s) (hf0 : ∀ s x, s < n → 0 ≤ x → x ≤ M → 0 ≤ f s x ∧ f s x ≤ x) (hm : ∀ s x y, s < n → 0 ≤ x → x ≤ y → y ≤ M → f s x ≤ f s y) {F G : Nat → Int} {a L : Int} {C : Nat} (ha : 0 ≤ a ∧ a ≤ M) (hF0 : F 0 = a)
    (hF : ∀ c, 1 ≤ c → c ≤ C → F c ≤ F (c - 1) ∧ (∀ s, s < n → p s ≤ c → F c ≤ f s (F (c - p s))) ∧ (F c = F (c - 1) ∨ ∃ s, s < n ∧ p s ≤ c ∧ F c = f s (F (c - p s))))
    (hG : ∀ c, c ≤ C → G c ≤ a ∧ (∀ s, s < n → p s ≤ c → G c ≤ f s (G (c - p s))) ∧ (G c = a ∨ ∃ s, s < n ∧ p s ≤ c ∧ G c = f s (G (c - p s))))
    (hL : L ≤ a ∧ (∀ c, c ≤ C → L ≤ G c) ∧ (L = a ∨ ∃ c, c ≤ C ∧ L = G c)) : F C = L := by
  have g0 : C ≥ 0 → G 0 = a := by
    intro _
    obtain ⟨-, -, h⟩ := hG 0 (Nat.zero_le _)
    rcases h with h | ⟨s, h1, h2, -⟩
    · exact h
    · have := hp s h1; omega
  have g0 := g0 (Nat.zero_le _)
  have hGb : ∀ k c, c ≤ k → c ≤ C → 0 ≤ G c ∧ G c ≤ M := by
    intro k
    induction k with
    | zero =>
      intro c h1 h2
      have : c = 0 := by omega
      subst this
      rw [g0]; exact ha
    | succ k ih =>
      intro c h1 h2
      obtain ⟨q1, -, q3⟩ := hG c h2
      rcases q3 with q3 | ⟨s, r1, r2, r3⟩
      · rw [q3]; exact ha
      · have := hp s r1
        have b := ih (c - p s) (by omega) (by omega)
        have := hf0 s _ r1 b.1 b.2
        omega
  have key : ∀ k c, c ≤ k → c ≤ C → (∀ i, i ≤ c → F c ≤ G i) ∧ ∃ i, i ≤ c ∧ F c = G i := by
    intro k
    induction k with
    | zero =>
      intro c h1 h2
      have : c = 0 := by omega
      subst this
      refine ⟨fun i hi => ?_, 0, Nat.le_refl _, by rw [hF0, g0]⟩
      have : i = 0 := by omega
      subst this
      rw [hF0, g0]; exact Int.le_refl _
    | succ k ih =>
      intro c h1 h2
      by_cases hc0 : c = 0
      · exact ih c (by omega) h2
      obtain ⟨f1, f2, f3⟩ := hF c (by omega) h2
      obtain ⟨p1, p2⟩ := ih (c - 1) (by omega) (by omega)
      have low : ∀ i, i ≤ c → F c ≤ G i := by
        intro i hi
        by_cases e : i = c
        · subst e
          obtain ⟨-, -, q3⟩ := hG i h2
          rcases q3 with q3 | ⟨s, r1, r2, r3⟩
          · have := p1 0 (by omega); omega
          · have hp1 := hp s r1
            obtain ⟨w1, i', w2, w3⟩ := ih (i - p s) (by omega) (by omega)
            have b1 := hGb C i' (by omega) (by omega)
            have b2 := hGb C (i - p s) (by omega) (by omega)
            have m := hm s (F (i - p s)) (G (i - p s)) r1 (by omega) (w1 _ (Nat.le_refl _)) b2.2
            have := f2 s r1 r2
            omega
        · have := p1 i (by omega); omega
      refine ⟨low, ?_⟩
      rcases f3 with f3 | ⟨s, r1, r2, r3⟩
      · obtain ⟨i, w2, w3⟩ := p2
        exact ⟨i, by omega, by rw [f3, w3]⟩
      · have hp1 := hp s r1
        obtain ⟨-, i', w2, w3⟩ := ih (c - p s) (by omega) (by omega)
        have b1 := hGb C i' (by omega) (by omega)
        have l := low (i' + p s) (by omega)
        obtain ⟨-, q2, -⟩ := hG (i' + p s) (by omega)
        have q := q2 s r1 (by omega)
        rw [show i' + p s - p s = i' by omega, ← w3, ← r3] at q
        exact ⟨i' + p s, by omega, by omega⟩
  obtain ⟨k1, i, k2, k3⟩ := key C C (Nat.le_refl _) (Nat.le_refl _)
  obtain ⟨l1, l2, l3⟩ := hL
  have a1 := l2 i k2
  rcases l3 with l3 | ⟨c, m1, m2⟩
  · have := k1 0 (Nat.zero_le _); omega
  · have := k1 c m1; omega
noncomputable def wkf (S H : TB) (j s : Nat) (x : Int32) : Int32 := fA x (allI H j - bw S H s j) (allI H j)
def wkp (S : TB) (s : Nat) : Nat := (S.2 3 s).toInt.toNat
noncomputable def a_goes (S H : TB) (j : Nat) (a : Int32) (C : Nat) : Int32 := gLst (wkf S H j) (wkp S) S.1 a (C + 1)
theorem wkp_1 {S : TB} (hW : Wst S) {s : Nat} (hs : s < S.1) : 1 ≤ wkp S s ∧ wkp S s ≤ 99 ∧ S.2 3 s = nI (wkp S s) := by
  obtain ⟨-, -, -, w3, -, -, -⟩ := hW s hs
  unfold wkp
  refine ⟨by omega, by omega, ?_⟩
  rw [i32_eqZ, nI_Z (by omega)]
  omega
theorem wk_w {S H : TB} (hWH : Wha H) {s j : Nat} (hj : j < H.1) : 0 ≤ (allI H j - bw S H s j).toInt ∧ (allI H j - bw S H s j).toInt ≤ (allI H j).toInt := by
  have h1 := bw_all (S := S) hWH (i := s) hj
  have h2 := bw_Z (S := S) hWH (i := s) hj
  have h3 := allI_Z hWH hj
  rw [i32_subZ (by omega) (by omega)]
  omega
/-- the class's table has the reference's least -/
theorem goes_eq {S H : TB} (hW : Wst S) (hWH : Wha H) {j : Nat} (hj : j < H.1) {a : Int32} (ha : 0 ≤ a.toInt ∧ a.toInt ≤ 1000000) {C : Nat} {T : Nat → Int32} (h0 : T 0 = a) (hT : ∀ c, 1 ≤ c → c ≤ C → T c = mnG T (wkf S H j) (wkp S) c S.1 0 (T (c - 1))) : T C = a_goes S H j a C := by
  have hwp : ∀ i, i < S.1 → 1 ≤ wkp S i := fun i hi => (wkp_1 hW hi).1
  have haz := allI_Z hWH hj
  have hex : ∀ x : Int, -2147483648 ≤ x → x < 2147483648 → (Int32.ofInt x).toInt = x := fun x h1 h2 => by
    exact Int32.toInt_ofInt_of_le h1 h2
  have hfn : ∀ s x, (wkf S H j s x).toInt = (fun s (x : Int) => (wkf S H j s (Int32.ofInt x)).toInt) s x.toInt := fun s x => by
    show _ = (wkf S H j s (Int32.ofInt x.toInt)).toInt
    rw [Int32.ofInt_toInt]
  obtain ⟨g1, g2⟩ := gLst_spec (f := wkf S H j) (p := wkp S) (n := S.1) (a := a) (C + 1)
  rw [i32_eqZ]
  refine walk_min (n := S.1) (p := wkp S) (f := fun s (x : Int) => (wkf S H j s (Int32.ofInt x)).toInt) (M := 1000000) hwp (fun s x hs h1 h2 => ?_) (fun s x y hs h1 h2 h3 => ?_) (F := fun i => (T i).toInt) (G := fun i => (gTab (wkf S H j) (wkp S) S.1 a (C + 1) i).toInt) ha (by show (T 0).toInt = _; rw [h0]) (fun c c1 c2 => ?_) (fun c c2 => ?_) ⟨gLst_le _, fun c hc => g1 c (by omega), ?_⟩
  · have := fA_Z (x := Int32.ofInt x) (by rw [hex x (by omega) (by omega)]; omega) (wk_w (S := S) (s := s) hWH hj) haz
    rw [hex x (by omega) (by omega)] at this
    exact this.2
  · exact fA_mono (by rw [hex x (by omega) (by omega)]; omega) (by rw [hex x (by omega) (by omega), hex y (by omega) (by omega)]; omega) (by rw [hex y (by omega) (by omega)]; omega) (wk_w (S := S) (s := s) hWH hj) haz
  · obtain ⟨m1, m2, m3⟩ := mnG_spec (T := T) (f := wkf S H j) (p := wkp S) (c := c) S.1 0 (T (c - 1))
    rw [← hT c c1 c2] at m1 m2 m3
    refine ⟨m1, fun s hs hps => ?_, ?_⟩
    · have := m2 s (Nat.zero_le _) (by omega) hps
      rw [hfn] at this
      exact this
    · rcases m3 with m3 | ⟨i, q1, q2, q3⟩
      · exact Or.inl (by show (T c).toInt = (T (c - 1)).toInt; rw [← m3])
      · refine Or.inr ⟨i, by omega, q2, ?_⟩
        show (T c).toInt = _
        rw [q3]
        exact hfn _ _
  · have e := gTab_at (f := wkf S H j) (p := wkp S) (n := S.1) (a := a) hwp (c := C + 1) (i := c) (by omega)
    obtain ⟨m1, m2, m3⟩ := mnG_spec (T := gTab (wkf S H j) (wkp S) S.1 a (C + 1)) (f := wkf S H j) (p := wkp S) (c := c) S.1 0 a
    rw [← e] at m1 m2 m3
    refine ⟨m1, fun s hs hps => ?_, ?_⟩
    · have := m2 s (Nat.zero_le _) (by omega) hps
      rw [hfn] at this
      exact this
    · rcases m3 with m3 | ⟨i, q1, q2, q3⟩
      · exact Or.inl (by show (gTab (wkf S H j) (wkp S) S.1 a (C + 1) c).toInt = _; rw [m3])
      · refine Or.inr ⟨i, by omega, q2, ?_⟩
        show (gTab (wkf S H j) (wkp S) S.1 a (C + 1) c).toInt = _
        rw [q3]
        exact hfn _ _
  · rcases g2 with g2 | ⟨i, q1, q2⟩
    · exact Or.inl (by show (gLst _ _ _ _ _).toInt = _; rw [g2])
    · exact Or.inr ⟨i, by omega, by show (gLst _ _ _ _ _).toInt = _; rw [q2]⟩
noncomputable def fstW (S H : TB) (j C : Nat) (least : Int32) : Nat → Nat → Int32
  | 0, _ => -1
  | d + 1, k => if wkp S k ≤ C then (if a_goes S H j (wkf S H j k 1000000) (C - wkp S k) = least then nI k else fstW S H j C least d (k + 1)) else fstW S H j C least d (k + 1)
noncomputable def a_walk (S H : TB) (j c w : Int32) : Int32 := if inZ j.toInt 0 (H.1 - 1) = true then (if inZ c.toInt 0 200 = true then (if inZ w.toInt 0 1 = true then (if w = 0 then a_goes S H j.toNatClampNeg 1000000 c.toNatClampNeg else if a_goes S H j.toNatClampNeg 1000000 c.toNatClampNeg = 1000000 then -1 else fstW S H j.toNatClampNeg c.toNatClampNeg (a_goes S H j.toNatClampNeg 1000000 c.toNatClampNeg) S.1 0) else -2) else -2) else -2
