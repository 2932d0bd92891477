/-! ===== year ===== -/
def sumY (g : Nat → Int32) (set : Int32) : Nat → Nat → Int32 → Int32
  | 0, _, c => c
  | d + 1, k, c => sumY g set d (k + 1) (c + if bitB set k = true then g k else 0)
theorem sumY_0 {g : Nat → Int32} {set : Int32} : ∀ (d k : Nat) (c : Int32), (∀ i, i < k + d → bitB set i = false) → sumY g set d k c = c := by
  intro d
  induction d with
  | zero => intro k c _; rfl
  | succ d ih =>
    intro k c h
    rw [sumY, h k (by omega), if_neg Bool.false_ne_true, show c + (0 : Int32) = c from Int32.add_zero c]
    exact ih _ _ (fun i hi => h i (by omega))
theorem bitB_00 {i : Nat} (h : i < 8) : bitB 0 i = false := by
  have : i = 0 ∨ i = 1 ∨ i = 2 ∨ i = 3 ∨ i = 4 ∨ i = 5 ∨ i = 6 ∨ i = 7 := by omega
  rcases this with e | e | e | e | e | e | e | e <;> subst e <;> decide
def yrS (H : Int32) (k : Nat) (f n : Int32) (q : Int32 × Int32 × Int32) : Int32 × Int32 × Int32 := if H < n then q else if f < q.2.1 then q else if f = q.2.1 then (if n < q.2.2 then (nI k, f, n) else q) else (nI k, f, n)
def yrG (H : Int32) (fd nd : Nat → Int32) : Nat → Nat → Int32 × Int32 × Int32 → Int32 × Int32 × Int32
  | 0, _, q => q
  | d + 1, k, q => yrG H fd nd d (k + 1) (yrS H k (fd k) (nd k) q)
def yfd (S : TB) (k : Nat) : Int32 := sumY (seenI S) (nI k) S.1 0 0
def ynd (S : TB) (X : XT) (p k : Nat) : Int32 := sumY (a_hrs S X p) (nI k) S.1 0 0
def a_year (S : TB) (X : XT) (p : Nat) (H w : Int32) : Int32 := if inZ H.toInt 0 199 = true then (if inZ w.toInt 0 2 = true then (if w = 0 then (yrG H (yfd S) (ynd S X p) (2 ^ S.1 - 1) 1 (0, 0, 0)).1 else if w = 1 then (yrG H (yfd S) (ynd S X p) (2 ^ S.1 - 1) 1 (0, 0, 0)).2.1 else (yrG H (yfd S) (ynd S X p) (2 ^ S.1 - 1) 1 (0, 0, 0)).2.2) else -2) else -2
theorem L_my85 {S : TB} {X : XT} {p : Nat} {h : HS} (hS : Mst S h) (h81 : ∀ i, i < S.1 → hI h 81 i = a_hrs S X p i) (y1 y2 y3 y4 y5 set : Int32) : ∀ (d k f : Nat) (c1 c2 : Int32), k + d = S.1 → d < f → l_X12_year_85 y1 y2 y3 y4 y5 set h f c1 c2 (nI k) = some (sumY (seenI S) set d k c1, sumY (a_hrs S X p) set d k c2) := by
  have h8 := hS.2.1
  intro d
  induction d with
  | zero =>
    intro k f c1 c2 hk hf
    obtain ⟨f, rfl⟩ : ∃ f', f = f' + 1 := ⟨f - 1, by omega⟩
    rw [l_X12_year_85, hS.1, if_pos (nI_le (by omega) (by omega))]
    rfl
  | succ d ih =>
    intro k f c1 c2 hk hf
    obtain ⟨f, rfl⟩ : ∃ f', f = f' + 1 := ⟨f - 1, by omega⟩
    have hx := ixb_n (i := k) (n := 8) (by omega) (by decide)
    have hc : (nI k).toNatClampNeg = k := nI_clamp (by omega)
    rw [l_X12_year_85, hS.1, if_neg (nI_ge (by omega) (by omega)), M_seen hS (by omega), Option.bind_some, nI_1, sumY, sumY, hc, h81 k (by omega)]
    cases hb : bitB set k
    · have b := bitB_f hb
      rw [if_neg b, Option.bind_some, if_neg b, if_neg Bool.false_ne_true, if_neg Bool.false_ne_true]
      exact ih (k + 1) f _ _ (by omega) (by omega)
    · have b := bitB_t hb
      rw [if_pos b, Option.bind_some, if_pos b, if_pos hx, if_pos rfl, if_pos rfl]
      exact ih (k + 1) f _ _ (by omega) (by omega)
theorem L_my65 {S : TB} {X : XT} {p : Nat} {h : HS} (hS : Mst S h) (h81 : ∀ i, i < S.1 → hI h 81 i = a_hrs S X p i) (H w : Int32) : ∀ (d k f : Nat) (q : Int32 × Int32 × Int32), k + d = 2 ^ S.1 → d < f → l_X12_year_65 H w h f q.1 q.2.1 q.2.2 (nI k) = some (yrG H (yfd S) (ynd S X p) d k q) := by
  have h8 := hS.2.1
  have h2 : 2 ^ S.1 ≤ 2 ^ 8 := Nat.pow_le_pow_right (by decide) h8
  intro d
  induction d with
  | zero =>
    intro k f q hk hf
    obtain ⟨f, rfl⟩ : ∃ f', f = f' + 1 := ⟨f - 1, by omega⟩
    rw [l_X12_year_65, hS.1, shl6 h8, if_pos (nI_le (by omega) (by omega))]
    rfl
  | succ d ih =>
    intro k f q hk hf
    obtain ⟨f, rfl⟩ : ∃ f', f = f' + 1 := ⟨f - 1, by omega⟩
    have s1 := L_my85 hS h81 H w q.1 q.2.1 q.2.2 (nI k) S.1 0 1000 0 0 (by omega) (by omega)
    have s1' : l_X12_year_85 H w q.1 q.2.1 q.2.2 (nI k) h 1000 (0 : Int32) (0 : Int32) (0 : Int32) = some (yfd S k, ynd S X p k) := s1
    rw [l_X12_year_65, hS.1, shl6 h8, if_neg (nI_ge (by omega) (by omega)), s1', Option.bind_some, nI_1, yrG]
    unfold yrS
    by_cases c1 : H < ynd S X p k
    · rw [if_pos c1, if_pos c1]; exact ih _ _ _ (by omega) (by omega)
    · rw [if_neg c1, if_neg c1]
      by_cases c2 : yfd S k < q.2.1
      · rw [if_pos c2, if_pos c2]; exact ih _ _ _ (by omega) (by omega)
      · rw [if_neg c2, if_neg c2]
        by_cases c3 : yfd S k = q.2.1
        · rw [if_pos c3, if_pos c3]
          by_cases c4 : ynd S X p k < q.2.2
          · rw [if_pos c4, if_pos c4]; exact ih _ _ (nI k, yfd S k, ynd S X p k) (by omega) (by omega)
          · rw [if_neg c4, if_neg c4]; exact ih _ _ _ (by omega) (by omega)
        · rw [if_neg c3, if_neg c3]; exact ih _ _ (nI k, yfd S k, ynd S X p k) (by omega) (by omega)
theorem L_my29 {S : TB} {X : XT} {p : Nat} (hW : Wtx X) (hp : p < X.1) (H w : Int32) : ∀ (d k f : Nat) (h : HS), k + d = S.1 → d < f → Mst S h → Mtx X h → hI h 60 4 = nI p → (∀ i, i < k → hI h 81 i = a_hrs S X p i) → ∃ h', l_X12_year_29 H w f (nI k) h = some h' ∧ (∀ i, i < S.1 → hI h' 81 i = a_hrs S X p i) ∧ Fr 0 h h' := by
  intro d
  induction d with
  | zero =>
    intro k f h hk hf hS hX h4 hb
    obtain ⟨f, rfl⟩ : ∃ f', f = f' + 1 := ⟨f - 1, by omega⟩
    have h8 := hS.2.1
    refine ⟨h, ?_, fun i hi => hb i (by omega), Fr.rf⟩
    rw [l_X12_year_29, hS.1, if_pos (nI_le (by omega) (by omega))]
  | succ d ih =>
    intro k f h hk hf hS hX h4 hb
    obtain ⟨f, rfl⟩ : ∃ f', f = f' + 1 := ⟨f - 1, by omega⟩
    have h8 := hS.2.1
    have hx := ixb_n (i := k) (n := 8) (by omega) (by decide)
    have hc : (nI k).toNatClampNeg = k := nI_clamp (by omega)
    obtain ⟨h1, s1, s2⟩ := M_hours hS hX hW hp h4 (show k < S.1 by omega)
    have F1 : Fr 0 h (sI h1 81 k (a_hrs S X p k)) := Fr.sI s2.kr (Or.inl rfl)
    obtain ⟨h', u1, u2, u3⟩ := ih (k + 1) f (sI h1 81 k (a_hrs S X p k)) (by omega) (by omega) (hS.fr F1 (by decide)) (hX.fr F1 (by decide)) (by rw [hI_sI, if_neg (by decide), s2.i (by unfold KR; omega)]; exact h4) (fun i hi => by
      rw [hI_sI, if_pos rfl]
      by_cases e : i = k
      · rw [if_pos e, e]
      · rw [if_neg e, s2.o (by decide)]
        exact hb i (by omega))
    refine ⟨h', ?_, u2, F1.tr u3⟩
    rw [l_X12_year_29, hS.1, if_neg (nI_ge (by omega) (by omega)), s1, Option.bind_some, if_pos hx, hc, nI_1]
    exact u1
theorem M_year {S : TB} {X : XT} {p : Nat} {h : HS} (hS : Mst S h) (hX : Mtx X h) (hW : Wtx X) (hp : p < X.1) (h4 : hI h 60 4 = nI p) (H w : Int32) : ∃ h', f_X12_year H w h = some (a_year S X p H w, h') ∧ Fr 0 h h' := by
  have e0 : (0 : Int64).toInt = 0 := rfl
  have e2 : (2 : Int64).toInt = 2 := rfl
  have e199 : (199 : Int64).toInt = 199 := rfl
  unfold f_X12_year a_year
  rw [f_in_eq, f_in_eq, Int32.toInt_toInt64, Int32.toInt_toInt64, e0, e2, e199, Option.bind_some, Option.bind_some]
  cases hH : inZ H.toInt 0 199
  · exact ⟨h, rfl, Fr.rf⟩
  cases hw : inZ w.toInt 0 2
  · exact ⟨h, rfl, Fr.rf⟩
  have h8 := hS.2.1
  obtain ⟨h', s1, s2, s3⟩ := L_my29 (S := S) hW hp H w S.1 0 1000 h (by omega) (by omega) hS hX h4 (fun i hi => by omega)
  have s1' : l_X12_year_29 H w 1000 (0 : Int32) h = some h' := s1
  have h2p : 1 ≤ 2 ^ S.1 := Nat.one_le_two_pow
  have h2 : 2 ^ S.1 ≤ 2 ^ 8 := Nat.pow_le_pow_right (by decide) h8
  have u1 := L_my65 (hS.fr s3 (by decide)) s2 H w (2 ^ S.1) 0 1000 (0, -1, 0) (by omega) (by omega)
  have st : yrG H (yfd S) (ynd S X p) (2 ^ S.1) 0 (0, -1, 0) = yrG H (yfd S) (ynd S X p) (2 ^ S.1 - 1) 1 (0, 0, 0) := by
    obtain ⟨m, hm⟩ : ∃ m, 2 ^ S.1 = m + 1 := ⟨2 ^ S.1 - 1, by omega⟩
    rw [hm, yrG, Nat.add_sub_cancel]
    have f0 : yfd S 0 = 0 := sumY_0 S.1 0 0 (fun i hi => bitB_00 (by omega))
    have n0 : ynd S X p 0 = 0 := sumY_0 S.1 0 0 (fun i hi => bitB_00 (by omega))
    have es : yrS H 0 (yfd S 0) (ynd S X p 0) (0, -1, 0) = (0, 0, 0) := by
      rw [f0, n0]
      unfold yrS
      rw [if_neg (by rw [i32_lt0, z_0]; have := (inZ_t.mp hH).1; omega), if_neg (by decide), if_neg (by decide)]
      rfl
    rw [es]
  rw [st] at u1
  have u1' : l_X12_year_65 H w h' 1000 (0 : Int32) (-1 : Int32) (0 : Int32) (0 : Int32) = some (yrG H (yfd S) (ynd S X p) (2 ^ S.1 - 1) 1 (0, 0, 0)) := u1
  refine ⟨h', ?_, s3⟩
  rw [if_pos rfl, if_pos rfl, if_pos rfl, if_pos rfl, s1', Option.bind_some, u1', Option.bind_some]
  by_cases w0 : w = 0
  · rw [if_pos w0, if_pos w0]
  · rw [if_neg w0, if_neg w0]
    by_cases w1 : w = 1
    · rw [if_pos w1, if_pos w1]
    · rw [if_neg w1, if_neg w1]
theorem L_xyh {S : TB} {X : XT} {p : Nat} {tg : Nat → Nat} {el : Nat → Nat} {h : HS} (hl : XL tg h 33 1 S.1 el) (h54 : ∀ i, i < S.1 → hI h 54 i = a_hrs S X p i) (set : Int32) : ∀ (d k f : Nat) (c : Int32), k + d = S.1 → d < f → l_X11_hoursOfLooks_4 set h f c (nI k) = some (sumY (a_hrs S X p) set d k c) := by
  have h8 := hl.2.2.1
  intro d
  induction d with
  | zero =>
    intro k f c hk hf
    obtain ⟨f, rfl⟩ : ∃ f', f = f' + 1 := ⟨f - 1, by omega⟩
    rw [l_X11_hoursOfLooks_4, if_pos hl.1, hl.size, Option.bind_some, if_pos (nI_le (by omega) (by omega))]
    rfl
  | succ d ih =>
    intro k f c hk hf
    obtain ⟨f, rfl⟩ : ∃ f', f = f' + 1 := ⟨f - 1, by omega⟩
    have hx := ixb_n (i := k) (n := 8) (by omega) (by decide)
    have hc : (nI k).toNatClampNeg = k := nI_clamp (by omega)
    have h88 : ¬ (8 : Int32) ≤ nI k := by rw [show (8 : Int32) = nI 8 from rfl]; exact nI_ge (by omega) (by decide)
    rw [l_X11_hoursOfLooks_4, if_pos hl.1, hl.size, Option.bind_some, if_neg (nI_ge (by omega) (by omega)), if_neg h88, isOf_eq, Option.bind_some, nI_1, sumY, hc, h54 k (by omega)]
    cases hb : bitB set k
    · rw [if_neg Bool.false_ne_true, if_neg Bool.false_ne_true]
      exact ih (k + 1) f _ (by omega) (by omega)
    · rw [if_pos rfl, if_pos rfl, if_pos hx]
      exact ih (k + 1) f _ (by omega) (by omega)
theorem L_xyg {S : TB} {tg : Nat → Nat} {el : Nat → Nat} {h : HS} (hW : Wst S) (hl : XL tg h 33 1 S.1 el) (ho : ∀ i, i < S.1 → Ost S tg h i (el i)) (set : Int32) : ∀ (d k f : Nat) (c : Int32), k + d = S.1 → d < f → l_X11_gaffsOf_4 set h f c (nI k) = some (sumY (seenI S) set d k c) := by
  have h8 := hl.2.2.1
  intro d
  induction d with
  | zero =>
    intro k f c hk hf
    obtain ⟨f, rfl⟩ : ∃ f', f = f' + 1 := ⟨f - 1, by omega⟩
    rw [l_X11_gaffsOf_4, if_pos hl.1, hl.size, Option.bind_some, if_pos (nI_le (by omega) (by omega))]
    rfl
  | succ d ih =>
    intro k f c hk hf
    obtain ⟨f, rfl⟩ : ∃ f', f = f' + 1 := ⟨f - 1, by omega⟩
    have hk' : k < S.1 := by omega
    have oa := ho k hk'
    have hst : isSt (hT h (el k)) = true := by rw [oa.2.1]; exact kcl_st _
    rw [l_X11_gaffsOf_4, if_pos hl.1, hl.size, Option.bind_some, if_neg (nI_ge (by omega) (by omega)), isOf_eq, Option.bind_some, nI_1, sumY]
    cases hb : bitB set k
    · rw [if_neg Bool.false_ne_true, if_neg Bool.false_ne_true]
      exact ih (k + 1) f _ (by omega) (by omega)
    · rw [if_pos rfl, if_pos rfl, hl.get hk', Option.bind_some, om_some, if_pos hst, oa.seen hW hk', Option.bind_some]
      exact ih (k + 1) f _ (by omega) (by omega)
theorem yrX {H f n : Int32} {k : Nat} {q : Int32 × Int32 × Int32} {L : Int32 × Int32 × Int32 → Option (Int32 × Int32 × Int32)} : (if q.2.1 < f then (if H < n then L q else L (nI k, f, n)) else (if f = q.2.1 then (Option.bind (if q.2.2 ≤ n then (some (0 : Int32)) else (some (1 : Int32))) (fun q76 => (if H < n then L q else (if q76 = 0 then L q else L (nI k, f, n))))) else (if H < n then L q else L q))) = L (yrS H k f n q) := by
  unfold yrS
  by_cases c1 : H < n
  · rw [if_pos c1]
    by_cases c2 : q.2.1 < f
    · simp [c1, c2]
    · by_cases c3 : f = q.2.1
      · by_cases c4 : q.2.2 ≤ n <;> simp [c1, c2, c3, c4]
      · simp [c1, c2, c3]
  · rw [if_neg c1]
    by_cases c2 : q.2.1 < f
    · have c2' := c2
      rw [i32_lt0] at c2'
      have n1 : ¬ f < q.2.1 := by rw [i32_lt0]; omega
      have n2 : ¬ f = q.2.1 := fun z => by rw [z] at c2'; omega
      rw [if_pos c2, if_neg c1, if_neg n1, if_neg n2]
    · have c2' := c2
      rw [i32_lt0] at c2'
      rw [if_neg c2]
      by_cases c3 : f = q.2.1
      · have n1 : ¬ f < q.2.1 := by rw [c3, i32_lt0]; omega
        rw [if_pos c3, if_neg n1, if_pos c3]
        by_cases c4 : q.2.2 ≤ n
        · have n4 : ¬ n < q.2.2 := by rw [i32_le0] at c4; rw [i32_lt0]; omega
          rw [if_pos c4, Option.bind_some, if_neg c1, if_pos rfl, if_neg n4, if_neg c1]
        · have n4 : n < q.2.2 := by rw [i32_le0] at c4; rw [i32_lt0]; omega
          rw [if_neg c4, Option.bind_some, if_neg c1, if_neg (by decide), if_pos n4, if_neg c1]
      · have n1 : f < q.2.1 := by rw [i32_eqZ] at c3; rw [i32_lt0]; omega
        rw [if_neg c3, if_neg c1, if_pos n1, if_neg c1]
theorem L_xy89 {S : TB} {X : XT} {p : Nat} {tg : Nat → Nat} {el : Nat → Nat} {h : HS} (hW : Wst S) (hl : XL tg h 33 1 S.1 el) (ho : ∀ i, i < S.1 → Ost S tg h i (el i)) (h54 : ∀ i, i < S.1 → hI h 54 i = a_hrs S X p i) (H w : Int32) : ∀ (d k f : Nat) (q : Int32 × Int32 × Int32), k + d = 2 ^ S.1 → d < f → l_X11_year_89 H w (nI (2 ^ S.1 - 1)) h f q.1 q.2.1 q.2.2 (nI k) = some (yrG H (yfd S) (ynd S X p) d k q) := by
  have h8 := hl.2.2.1
  have h2 : 2 ^ S.1 ≤ 2 ^ 8 := Nat.pow_le_pow_right (by decide) h8
  intro d
  induction d with
  | zero =>
    intro k f q hk hf
    obtain ⟨f, rfl⟩ : ∃ f', f = f' + 1 := ⟨f - 1, by omega⟩
    have h2p : 1 ≤ 2 ^ S.1 := Nat.one_le_two_pow
    rw [l_X11_year_89, if_pos (nI_lt (by omega) (by omega))]
    rfl
  | succ d ih =>
    intro k f q hk hf
    obtain ⟨f, rfl⟩ : ∃ f', f = f' + 1 := ⟨f - 1, by omega⟩
    have s1 := L_xyh hl h54 (nI k) S.1 0 1000 0 (by omega) (by omega)
    have s1' : f_X11_hoursOfLooks (nI k) h = some (ynd S X p k) := by
      unfold f_X11_hoursOfLooks
      rw [show l_X11_hoursOfLooks_4 (nI k) h 1000 (0 : Int32) (0 : Int32) = some (ynd S X p k) from s1]
      rfl
    have s2 := L_xyg hW hl ho (nI k) S.1 0 1000 0 (by omega) (by omega)
    have s2' : f_X11_gaffsOf (nI k) h = some (yfd S k) := by
      unfold f_X11_gaffsOf
      rw [show l_X11_gaffsOf_4 (nI k) h 1000 (0 : Int32) (0 : Int32) = some (yfd S k) from s2]
      rfl
    rw [l_X11_year_89, if_neg (nI_nlt (by omega) (by omega)), s1', Option.bind_some, s2', Option.bind_some, nI_1, yrG]
    exact (yrX (L := fun r => l_X11_year_89 H w (nI (2 ^ S.1 - 1)) h f r.1 r.2.1 r.2.2 (nI (k + 1)))).trans (ih (k + 1) f (yrS H k (yfd S k) (ynd S X p k) q) (by omega) (by omega))
def AY (tg : Nat → Nat) (b : Nat) : Prop := AR tg b ∨ b = 54
theorem L_xy25 {S : TB} {X : XT} {p : Nat} {tg : Nat → Nat} {el : Nat → Nat} (hWX : Wtx X) (hp : p < X.1) (H w : Int32) : ∀ (d k f : Nat) (h : HS), k + d = S.1 → d < f → LY TX h → XL tg h 33 1 S.1 el → (∀ i, i < S.1 → Ost S tg h i (el i)) → Xtx X tg h → Wx tg h → hI h 32 3 = nI p → (∀ i, i < k → hI h 54 i = a_hrs S X p i) → ∃ h', l_X11_year_25 H w f (nI k) h = some h' ∧ (∀ i, i < S.1 → hI h' 54 i = a_hrs S X p i) ∧ XL tg h' 33 1 S.1 el ∧ (∀ i, i < S.1 → Ost S tg h' i (el i)) ∧ Wx tg h' ∧ Fx (AY tg) h h' := by
  intro d
  induction d with
  | zero =>
    intro k f h hk hf hY hl ho hX hw h3 hb
    obtain ⟨f, rfl⟩ : ∃ f', f = f' + 1 := ⟨f - 1, by omega⟩
    have h8 := hl.2.2.1
    refine ⟨h, ?_, fun i hi => hb i (by omega), hl, ho, hw, Fx.rf⟩
    rw [l_X11_year_25, if_pos hl.1, hl.size, Option.bind_some, if_pos (nI_le (by omega) (by omega))]
  | succ d ih =>
    intro k f h hk hf hY hl ho hX hw h3 hb
    obtain ⟨f, rfl⟩ : ∃ f', f = f' + 1 := ⟨f - 1, by omega⟩
    have h8 := hl.2.2.1
    have h89 := hw.2.2
    have hk' : k < S.1 := by omega
    have oa := ho k hk'
    have hst : isSt (hT h (el k)) = true := by rw [oa.2.1]; exact kcl_st _
    have hx := ixb_n (i := k) (n := 8) (by omega) (by decide)
    have hc : (nI k).toNatClampNeg = k := nI_clamp (by omega)
    have h88 : ¬ (8 : Int32) ≤ nI k := by rw [show (8 : Int32) = nI 8 from rfl]; exact nI_ge (by omega) (by decide)
    obtain ⟨h1, s1, s2, s3, s4⟩ := X_hours hY hX hWX hw hp h3 oa
    have F1 : Fx (AY tg) h (sI h1 54 k (a_hrs S X p k)) := Fx.sI (s4.mono (fun _ _ q => Or.inl q)) (Or.inl (Or.inr rfl))
    have nA : ∀ b, b < 56 → b ≠ 50 → b ≠ 54 → ¬ AY tg b := fun b h1 h2 h3 z => by
      rcases z with z | z
      · exact nAR hw h1 h2 z
      · exact h3 z
    have nT : ∀ b, tg b ≠ 0 → ¬ (50 ≤ tg b ∧ tg b < 56) → ¬ AY tg b := fun b h1 h2 z => by
      rcases z with (z | z) | z
      · have := hw.1 b h1; omega
      · exact h2 z
      · have := hw.1 b h1; omega
    have hl1 := hl.fx F1 (by omega) (fun _ _ => rfl) hw (by decide) (nA _ (by decide) (by decide) (by decide)) (fun b hb => nT b (by omega) (by omega))
    have ho1 : ∀ i, i < S.1 → Ost S tg (sI h1 54 k (a_hrs S X p k)) i (el i) := fun i hi => (ho i hi).fx hw F1 (fun _ _ => rfl) (nT _ (by have := (ho i hi).1; omega) (by have := (ho i hi).1; omega))
    have q54 := (s4.2 54 (by omega) (nAR hw (by decide) (by decide))).1
    obtain ⟨h', u1, u2, u3, u4, u5, u6⟩ := ih (k + 1) f (sI h1 54 k (a_hrs S X p k)) (by omega) (by omega) (LY.pr hY okX F1.1) hl1 ho1 (hX.ar hw F1 (fun b z => by rcases z with z | z; exact Or.inl z; exact Or.inr (by omega))) (show Wx tg (sI h1 54 k (a_hrs S X p k)) from s2) (by rw [(F1.2 32 (by omega) (nA _ (by decide) (by decide) (by decide))).1]; exact h3) (fun i hi => by
      rw [hI_sI, if_pos rfl]
      by_cases e : i = k
      · rw [if_pos e, e]
      · rw [if_neg e, q54]
        exact hb i (by omega))
    refine ⟨h', ?_, u2, u3, u4, u5, F1.tr u6⟩
    rw [l_X11_year_25, if_pos hl.1, hl.size, Option.bind_some, if_neg (nI_ge (by omega) (by omega)), if_neg h88, hl.get hk', Option.bind_some, om_some, if_pos hst, s1, Option.bind_some, if_pos hx, hc, nI_1]
    exact u1
theorem X_year {S : TB} {X : XT} {tg : Nat → Nat} {p : Nat} {h : HS} (hY : LY TX h) (hS : Xst S tg h) (hW : Wst S) (hX : Xtx X tg h) (hWX : Wtx X) (hw : Wx tg h) (hp : p < X.1) (h3 : hI h 32 3 = nI p) (H w : Int32) : ∃ h', f_X11_year H w h = some (a_year S X p H w, h') ∧ Wx tg h' ∧ Fx (AY tg) h h' := by
  have e2 : (2 : Int32).toInt = 2 := rfl
  have e199 : (199 : Int32).toInt = 199 := rfl
  obtain ⟨el, hl, ho⟩ := hS
  have h8 := hl.2.2.1
  unfold f_X11_year a_year
  rw [f_isIn_eq, f_isIn_eq, z_0, e2, e199, Option.bind_some, Option.bind_some]
  cases hH : inZ H.toInt 0 199
  · exact ⟨h, rfl, hw, Fx.rf⟩
  cases hw2 : inZ w.toInt 0 2
  · exact ⟨h, rfl, hw, Fx.rf⟩
  obtain ⟨h', s1, s2, s3, s4, s5, s6⟩ := L_xy25 (S := S) hWX hp H w S.1 0 1000 h (by omega) (by omega) hY hl ho hX hw h3 (fun i hi => by omega)
  have s1' : l_X11_year_25 H w 1000 (0 : Int32) h = some h' := s1
  have h2p : 1 ≤ 2 ^ S.1 := Nat.one_le_two_pow
  have h2 : 2 ^ S.1 ≤ 2 ^ 8 := Nat.pow_le_pow_right (by decide) h8
  have hall : f_X11_allStalls h' = some (nI (2 ^ S.1 - 1)) := by
    unfold f_X11_allStalls
    obtain ⟨m, hm⟩ : ∃ m, 2 ^ S.1 = m + 1 := ⟨2 ^ S.1 - 1, by omega⟩
    rw [if_pos s3.1, s3.size, Option.bind_some, shl6 h8, hm, nI_pred, Nat.add_sub_cancel]
  have u1 := L_xy89 hW s3 s4 s2 H w (2 ^ S.1 - 1) 1 1000 (0, 0, 0) (by omega) (by omega)
  have u1' : l_X11_year_89 H w (nI (2 ^ S.1 - 1)) h' 1000 (0 : Int32) (0 : Int32) (0 : Int32) (1 : Int32) = some (yrG H (yfd S) (ynd S X p) (2 ^ S.1 - 1) 1 (0, 0, 0)) := u1
  refine ⟨h', ?_, s5, s6⟩
  rw [if_pos rfl, if_pos rfl, if_pos rfl, if_pos rfl, s1', Option.bind_some, hall, Option.bind_some, u1', Option.bind_some]
  by_cases w0 : w = 0
  · rw [if_pos w0, if_pos w0]
  · rw [if_neg w0, if_neg w0]
    by_cases w1 : w = 1
    · rw [if_pos w1, if_pos w1]
    · rw [if_neg w1, if_neg w1]
