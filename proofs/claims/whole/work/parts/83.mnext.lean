/-! ===== texts: the reference reads a token ===== -/
/-- only these fields of the reference's own cell are changed -/
def Fk (K : Nat → Prop) (h h' : HS) : Prop := hN h' = hN h ∧ hS h' = hS h ∧ hT h' = hT h ∧ hLn h' = hLn h ∧ hR h' = hR h ∧ ∀ a k, ¬ (a = 60 ∧ K k) → hI h' a k = hI h a k ∧ hL h' a k = hL h a k
theorem Fk.rf {K : Nat → Prop} {h : HS} : Fk K h h := ⟨rfl, rfl, rfl, rfl, rfl, fun _ _ _ => ⟨rfl, rfl⟩⟩
theorem Fk.tr {K : Nat → Prop} {h h1 h2 : HS} (e : Fk K h h1) (f : Fk K h1 h2) : Fk K h h2 := ⟨f.1.trans e.1, f.2.1.trans e.2.1, f.2.2.1.trans e.2.2.1, f.2.2.2.1.trans e.2.2.2.1, f.2.2.2.2.1.trans e.2.2.2.2.1, fun a k z => ⟨(f.2.2.2.2.2 a k z).1.trans (e.2.2.2.2.2 a k z).1, (f.2.2.2.2.2 a k z).2.trans (e.2.2.2.2.2 a k z).2⟩⟩
theorem Fk.mono {K L : Nat → Prop} {h h' : HS} (e : Fk K h h') (q : ∀ k, K k → L k) : Fk L h h' := ⟨e.1, e.2.1, e.2.2.1, e.2.2.2.1, e.2.2.2.2.1, fun a k z => e.2.2.2.2.2 a k (fun y => z ⟨y.1, q k y.2⟩)⟩
theorem Fk.sI {K : Nat → Prop} {h h1 : HS} {k : Nat} {v : Int32} (e : Fk K h h1) (q : K k) : Fk K h (sI h1 60 k v) := ⟨e.1, e.2.1, e.2.2.1, e.2.2.2.1, e.2.2.2.2.1, fun a j z => by
  obtain ⟨e1, e2⟩ := e.2.2.2.2.2 a j z
  refine ⟨?_, e2⟩
  rw [hI_sI]
  split
  · split
    · rename_i c1 c2
      exact absurd ⟨c1, by rw [c2]; exact q⟩ z
    · exact e1
  · exact e1⟩
theorem Fk.sL {K : Nat → Prop} {h h1 : HS} {k : Nat} {v : Int64} (e : Fk K h h1) (q : K k) : Fk K h (sL h1 60 k v) := ⟨e.1, e.2.1, e.2.2.1, e.2.2.2.1, e.2.2.2.2.1, fun a j z => by
  obtain ⟨e1, e2⟩ := e.2.2.2.2.2 a j z
  refine ⟨e1, ?_⟩
  rw [hL_sL]
  split
  · split
    · rename_i c1 c2
      exact absurd ⟨c1, by rw [c2]; exact q⟩ z
    · exact e2
  · exact e2⟩
theorem Fk.i {K : Nat → Prop} {h h' : HS} (e : Fk K h h') {k : Nat} (z : ¬ K k) : hI h' 60 k = hI h 60 k := (e.2.2.2.2.2 60 k (fun y => z y.2)).1
theorem Fk.l {K : Nat → Prop} {h h' : HS} (e : Fk K h h') {k : Nat} (z : ¬ K k) : hL h' 60 k = hL h 60 k := (e.2.2.2.2.2 60 k (fun y => z y.2)).2
theorem Fk.o {K : Nat → Prop} {h h' : HS} (e : Fk K h h') {a k : Nat} (z : a ≠ 60) : hI h' a k = hI h a k := (e.2.2.2.2.2 a k (fun y => z y.1)).1
/-- the text that is read: its bytes lie at row x -/
def Mby (b : Nat → Int32) (n x : Nat) (h : HS) : Prop := hI h 60 26 = nI (160 * x) ∧ hI h 60 27 = nI n ∧ x < 6 ∧ n ≤ 160 ∧ ∀ k, k < n → hI h 61 (160 * x + k) = b k
def Wby (b : Nat → Int32) (n : Nat) : Prop := ∀ k, k < n → 0 ≤ (b k).toInt ∧ (b k).toInt ≤ 255
theorem Mby.fk {K : Nat → Prop} {b : Nat → Int32} {n x : Nat} {h h' : HS} (hB : Mby b n x h) (F : Fk K h h') (h26 : ¬ K 26) (h27 : ¬ K 27) : Mby b n x h' := by
  obtain ⟨b1, b2, b3, b4, b5⟩ := hB
  refine ⟨by rw [F.i h26]; exact b1, by rw [F.i h27]; exact b2, b3, b4, fun k hk => ?_⟩
  rw [F.o (by decide)]
  exact b5 k hk
theorem M_byteAt {b : Nat → Int32} {n x : Nat} {h : HS} (hB : Mby b n x h) {p : Nat} (hp : p ≤ 1000) : f_X12_byteAt (nI p) h = some (if p < n then b p else -1) := by
  obtain ⟨b1, b2, b3, b4, b5⟩ := hB
  unfold f_X12_byteAt
  rw [b2]
  by_cases c : p < n
  · have hx := ixb_n (i := 160 * x + p) (n := 960) (by omega) (by decide)
    have hc : (nI (160 * x + p)).toNatClampNeg = 160 * x + p := nI_clamp (by omega)
    rw [if_neg (nI_ge c (by omega)), if_pos c, b1, nI_add, if_pos hx, hc, b5 p c]
  · rw [if_pos (nI_le (by omega) (by omega)), if_neg c]
theorem bl_m1 {c : Int32} (h : 0 ≤ c.toInt) : ¬ c = -1 := fun z => by rw [z] at h; exact absurd h (by decide)
theorem L_mnx0 {b : Nat → Int32} {n x : Nat} : ∀ (d p f : Nat) (h : HS), n - p = d → d < f → p ≤ n → Mby b n x h → hI h 60 31 = nI p → ∃ h', l_X12_next_0 f h = some h' ∧ hI h' 60 31 = nI (rE isBl b n p) ∧ Fk (fun k => k = 31) h h' := by
  intro d
  induction d with
  | zero =>
    intro p f h hd hf hp hB h31
    obtain ⟨f, rfl⟩ : ∃ f', f = f' + 1 := ⟨f - 1, by omega⟩
    have h4 := hB.2.2.2.1
    have e : rE isBl b n p = p := rE_n (fun z => by omega)
    refine ⟨h, ?_, by rw [e]; exact h31, Fk.rf⟩
    have hby := M_byteAt hB (p := p) (by omega)
    rw [if_neg (by omega)] at hby
    rw [l_X12_next_0, h31, hby, Option.bind_some, if_neg (by decide), Option.bind_some, if_neg (by decide)]
  | succ d ih =>
    intro p f h hd hf hp hB h31
    obtain ⟨f, rfl⟩ : ∃ f', f = f' + 1 := ⟨f - 1, by omega⟩
    have h4 := hB.2.2.2.1
    have hby := M_byteAt hB (p := p) (by omega)
    rw [if_pos (show p < n by omega)] at hby
    have F1 : Fk (fun k => k = 31) h (sI h 60 31 (nI (p + 1))) := Fk.sI Fk.rf rfl
    by_cases c : isBl (b p) = true
    · obtain ⟨h', s1, s2, s3⟩ := ih (p + 1) f (sI h 60 31 (nI (p + 1))) (by omega) (by omega) (by omega) (hB.fk F1 (by decide) (by decide)) (by rw [hI_sI, if_pos rfl, if_pos rfl])
      refine ⟨h', ?_, by rw [rE_y (show p < n by omega) c]; exact s2, F1.tr s3⟩
      rw [l_X12_next_0, h31, hby, Option.bind_some]
      by_cases c1 : b p = 32
      · rw [if_pos c1, nI_1]; exact s1
      · have c2 : b p = 10 := by
          simp only [isBl, Bool.or_eq_true, decide_eq_true_eq] at c
          rcases c with c | c
          · exact absurd c c1
          · exact c
        rw [if_neg c1, Option.bind_some, if_pos c2, nI_1]; exact s1
    · have e : rE isBl b n p = p := rE_n (fun z => c z.2)
      refine ⟨h, ?_, by rw [e]; exact h31, Fk.rf⟩
      simp only [isBl, Bool.or_eq_true, decide_eq_true_eq] at c
      rw [l_X12_next_0, h31, hby, Option.bind_some, if_neg (fun z => c (Or.inl z)), Option.bind_some, if_neg (fun z => c (Or.inr z))]
theorem L_mnx107 {b : Nat → Int32} {n x : Nat} (hWb : Wby b n) : ∀ (d p k f : Nat) (a : Int64) (h : HS), n - p = d → d < f → p ≤ n → k ≤ p → Mby b n x h → hI h 60 31 = nI p → hL h 60 30 = a → ∃ h', l_X12_next_107 f (nI k) h = some h' ∧ hI h' 60 31 = nI (rE isLt b n p) ∧ hL h' 60 30 = wdM b (rE isLt b n p - p) p k a ∧ Fk (fun k => k = 30 ∨ k = 31) h h' ∧ (∀ j, j ≠ 31 → hI h' 60 j = hI h 60 j) := by
  intro d
  induction d with
  | zero =>
    intro p k f a h hd hf hp hk hB h31 h30
    obtain ⟨f, rfl⟩ : ∃ f', f = f' + 1 := ⟨f - 1, by omega⟩
    have h4 := hB.2.2.2.1
    have e : rE isLt b n p = p := rE_n (fun z => by omega)
    refine ⟨h, ?_, by rw [e]; exact h31, by rw [e, Nat.sub_self, wdM]; exact h30, Fk.rf, fun _ _ => rfl⟩
    have hby := M_byteAt hB (p := p) (by omega)
    rw [if_neg (by omega)] at hby
    rw [l_X12_next_107, h31, hby, Option.bind_some, f_in_eq]
    rfl
  | succ d ih =>
    intro p k f a h hd hf hp hk hB h31 h30
    obtain ⟨f, rfl⟩ : ∃ f', f = f' + 1 := ⟨f - 1, by omega⟩
    have h4 := hB.2.2.2.1
    have hby := M_byteAt hB (p := p) (by omega)
    rw [if_pos (show p < n by omega)] at hby
    have ein : f_X12_in (b p).toInt64 (97 : Int64) (122 : Int64) = some (isLt (b p)) := by
      rw [f_in_eq, Int32.toInt_toInt64]; rfl
    by_cases c : isLt (b p) = true
    · obtain ⟨v, hv⟩ : ∃ v, v = (if k < 8 then (27 : Int64) * a + (b p).toInt64 - (96 : Int64) else -1) := ⟨_, rfl⟩
      have F1 : Fk (fun k => k = 30 ∨ k = 31) h (sI (sL h 60 30 v) 60 31 (nI (p + 1))) := Fk.sI (Fk.sL Fk.rf (Or.inl rfl)) (Or.inr rfl)
      obtain ⟨h', s1, s2, s3, s4, s5⟩ := ih (p + 1) (k + 1) f v (sI (sL h 60 30 v) 60 31 (nI (p + 1))) (by omega) (by omega) (by omega) (by omega) (hB.fk F1 (by omega) (by omega)) (by rw [hI_sI, if_pos rfl, if_pos rfl]) (by rw [hL_sI, hL_sL, if_pos rfl, if_pos rfl])
      have ege := (rE_spec (P := isLt) (b := b) (n := n) _ (p + 1) rfl).1
      have ee := rE_y (P := isLt) (b := b) (n := n) (show p < n by omega) c
      refine ⟨h', ?_, by rw [ee]; exact s2, ?_, F1.tr s4, fun j hj => by rw [s5 j hj, hI_sI, if_pos rfl, if_neg hj, hI_sL]⟩
      · have e31 : ∀ v, hI (sL h 60 30 v) 60 31 = nI p := fun v => by rw [hI_sL]; exact h31
        rw [l_X12_next_107, h31, hby, Option.bind_some, ein, Option.bind_some, if_pos c, h30]
        by_cases c8 : k < 8
        · rw [if_pos c8] at hv
          rw [if_neg (by rw [show (8 : Int32) = nI 8 from rfl]; exact nI_ge c8 (by decide)), Option.bind_some, Option.bind_some, ← hv, e31, nI_1, nI_1]
          exact s1
        · rw [if_neg c8] at hv
          rw [if_pos (by rw [show (8 : Int32) = nI 8 from rfl]; exact nI_le (by omega) (by omega)), Option.bind_some, ← hv, e31, nI_1, nI_1]
          exact s1
      · rw [s3, ee, show rE isLt b n (p + 1) - p = (rE isLt b n (p + 1) - (p + 1)) + 1 by omega, wdM, ← hv]
    · have e : rE isLt b n p = p := rE_n (fun z => c z.2)
      refine ⟨h, ?_, by rw [e]; exact h31, by rw [e, Nat.sub_self, wdM]; exact h30, Fk.rf, fun _ _ => rfl⟩
      rw [l_X12_next_107, h31, hby, Option.bind_some, ein, Option.bind_some, if_neg c]
theorem L_mnx211 {b : Nat → Int32} {n x : Nat} (hWb : Wby b n) : ∀ (d p k f : Nat) (a : Int64) (h : HS), n - p = d → d < f → p ≤ n → k ≤ p → Mby b n x h → hI h 60 31 = nI p → hL h 60 30 = a → ∃ h', l_X12_next_211 f (nI k) h = some (nI (k + (rE isDg b n p - p)), h') ∧ hI h' 60 31 = nI (rE isDg b n p) ∧ hL h' 60 30 = nmM b (rE isDg b n p - p) p k a ∧ Fk (fun k => k = 30 ∨ k = 31) h h' ∧ (∀ j, j ≠ 31 → hI h' 60 j = hI h 60 j) := by
  intro d
  induction d with
  | zero =>
    intro p k f a h hd hf hp hk hB h31 h30
    obtain ⟨f, rfl⟩ : ∃ f', f = f' + 1 := ⟨f - 1, by omega⟩
    have h4 := hB.2.2.2.1
    have e : rE isDg b n p = p := rE_n (fun z => by omega)
    refine ⟨h, ?_, by rw [e]; exact h31, by rw [e, Nat.sub_self, nmM]; exact h30, Fk.rf, fun _ _ => rfl⟩
    have hby := M_byteAt hB (p := p) (by omega)
    rw [if_neg (by omega)] at hby
    rw [l_X12_next_211, h31, hby, Option.bind_some, f_in_eq, e, Nat.sub_self]
    rfl
  | succ d ih =>
    intro p k f a h hd hf hp hk hB h31 h30
    obtain ⟨f, rfl⟩ : ∃ f', f = f' + 1 := ⟨f - 1, by omega⟩
    have h4 := hB.2.2.2.1
    have hby := M_byteAt hB (p := p) (by omega)
    rw [if_pos (show p < n by omega)] at hby
    have ein : f_X12_in (b p).toInt64 (48 : Int64) (57 : Int64) = some (isDg (b p)) := by
      rw [f_in_eq, Int32.toInt_toInt64]; rfl
    by_cases c : isDg (b p) = true
    · obtain ⟨v, hv⟩ : ∃ v, v = (if k < 4 then (10 : Int64) * a + (b p).toInt64 - (48 : Int64) else a) := ⟨_, rfl⟩
      have F1 : Fk (fun k => k = 30 ∨ k = 31) h (sI (sL h 60 30 v) 60 31 (nI (p + 1))) := Fk.sI (Fk.sL Fk.rf (Or.inl rfl)) (Or.inr rfl)
      obtain ⟨h', s1, s2, s3, s4, s5⟩ := ih (p + 1) (k + 1) f v (sI (sL h 60 30 v) 60 31 (nI (p + 1))) (by omega) (by omega) (by omega) (by omega) (hB.fk F1 (by omega) (by omega)) (by rw [hI_sI, if_pos rfl, if_pos rfl]) (by rw [hL_sI, hL_sL, if_pos rfl, if_pos rfl])
      have ege := (rE_spec (P := isDg) (b := b) (n := n) _ (p + 1) rfl).1
      have ee := rE_y (P := isDg) (b := b) (n := n) (show p < n by omega) c
      refine ⟨h', ?_, by rw [ee]; exact s2, ?_, F1.tr s4, fun j hj => by rw [s5 j hj, hI_sI, if_pos rfl, if_neg hj, hI_sL]⟩
      · have e31 : ∀ v, hI (sL h 60 30 v) 60 31 = nI p := fun v => by rw [hI_sL]; exact h31
        have ek : k + 1 + (rE isDg b n (p + 1) - (p + 1)) = k + (rE isDg b n p - p) := by rw [ee]; omega
        rw [ek] at s1
        rw [l_X12_next_211, h31, hby, Option.bind_some, ein, Option.bind_some, if_pos c, h30]
        by_cases c8 : k < 4
        · rw [if_pos c8] at hv
          rw [if_neg (by rw [show (4 : Int32) = nI 4 from rfl]; exact nI_ge c8 (by decide)), Option.bind_some, Option.bind_some, ← hv, e31, nI_1, nI_1]
          exact s1
        · rw [if_neg c8] at hv
          rw [if_pos (by rw [show (4 : Int32) = nI 4 from rfl]; exact nI_le (by omega) (by omega)), Option.bind_some, ← hv, e31, nI_1, nI_1]
          exact s1
      · rw [s3, ee, show rE isDg b n (p + 1) - p = (rE isDg b n (p + 1) - (p + 1)) + 1 by omega, nmM, ← hv]
    · have e : rE isDg b n p = p := rE_n (fun z => c z.2)
      refine ⟨h, ?_, by rw [e]; exact h31, by rw [e, Nat.sub_self, nmM]; exact h30, Fk.rf, fun _ _ => rfl⟩
      rw [l_X12_next_211, h31, hby, Option.bind_some, ein, Option.bind_some, if_neg c, e, Nat.sub_self]
      rfl
/-- a token of the reference, as its sort and worth, against the class's number for it -/
def RT (k : Int32) (w : Int64) (c : Int32) : Prop := (k = 0 ∧ c = 10300) ∨ (k = 4 ∧ c = 10301) ∨ (k = 1 ∧ c = wcode w) ∨ (k = 2 ∧ (0 ≤ c.toInt ∧ c.toInt ≤ 9999) ∧ w.toInt = c.toInt) ∨ (k = 3 ∧ ∃ s : Int32, isSg s = true ∧ c = 10000 + s ∧ w = s.toInt64)
theorem sg_if {c : Int32} {A B : Option HS} : (if c = (40 : Int32) then A else (if c = (41 : Int32) then A else (if c = (59 : Int32) then A else (if c = (43 : Int32) then A else (if c = (45 : Int32) then A else (if c = (42 : Int32) then A else (if c = (60 : Int32) then A else (if c = (61 : Int32) then A else B)))))))) = if isSg c = true then A else B := by
  have e : isSg c = true ↔ (c = 40 ∨ c = 41 ∨ c = 59 ∨ c = 43 ∨ c = 45 ∨ c = 42 ∨ c = 60 ∨ c = 61) := by
    simp only [isSg, Bool.or_eq_true, decide_eq_true_eq]
    constructor
    · intro h
      rcases h with ((((((h | h) | h) | h) | h) | h) | h) | h <;> subst h <;> decide
    · intro h
      rcases h with h | h | h | h | h | h | h | h <;> subst h <;> decide
  by_cases hs : isSg c = true
  · rw [if_pos hs]
    rcases e.mp hs with h | h | h | h | h | h | h | h <;> subst h <;> simp
  · rw [if_neg hs]
    have hn := fun z => hs (e.mpr z)
    rw [if_neg (fun z => hn (Or.inl z)), if_neg (fun z => hn (Or.inr (Or.inl z))), if_neg (fun z => hn (Or.inr (Or.inr (Or.inl z)))), if_neg (fun z => hn (Or.inr (Or.inr (Or.inr (Or.inl z))))), if_neg (fun z => hn (Or.inr (Or.inr (Or.inr (Or.inr (Or.inl z)))))), if_neg (fun z => hn (Or.inr (Or.inr (Or.inr (Or.inr (Or.inr (Or.inl z))))))), if_neg (fun z => hn (Or.inr (Or.inr (Or.inr (Or.inr (Or.inr (Or.inr (Or.inl z)))))))), if_neg (fun z => hn (Or.inr (Or.inr (Or.inr (Or.inr (Or.inr (Or.inr (Or.inr z))))))))]
def K4 (k : Nat) : Prop := 28 ≤ k ∧ k ≤ 31
theorem M_next0 {b : Nat → Int32} {n x : Nat} {h : HS} (hB : Mby b n x h) (hWb : Wby b n) {p : Nat} (hp : p ≤ n) (h31 : hI h 60 31 = nI p) : ∃ h', f_X12_next h = some h' ∧ RT (hI h' 60 28) (hL h' 60 30) (lx b n p).1 ∧ hI h' 60 29 = nI (lx b n p).2.1 ∧ ((lx b n p).1 ≠ 10301 → hI h' 60 31 = nI (lx b n p).2.2) ∧ Fk K4 h h' := by
  have h4 := hB.2.2.2.1
  obtain ⟨h1, s1, s2, s3⟩ := L_mnx0 (n - p) p 1000 h rfl (by omega) hp hB h31
  unfold lx
  obtain ⟨a1, a2, a3, a4, a5⟩ := rE_spec (P := isBl) (b := b) (n := n) _ p rfl
  have hqn := a2 hp
  generalize rE isBl b n p = q at *
  have F0 : Fk K4 h h1 := s3.mono (fun k hk => by unfold K4; omega)
  have F1 : Fk K4 h (sI h1 60 29 (nI q)) := F0.sI (by unfold K4; omega)
  have hB1 : Mby b n x (sI h1 60 29 (nI q)) := hB.fk F1 (by unfold K4; omega) (by unfold K4; omega)
  have hby := M_byteAt hB1 (p := q) (by omega)
  have e31 : hI (sI h1 60 29 (nI q)) 60 31 = nI q := by rw [hI_sI, if_pos rfl, if_neg (by decide)]; exact s2
  have e27 : hI h1 60 27 = nI n := by rw [F0.i (by unfold K4; omega)]; exact hB.2.1
  unfold f_X12_next
  rw [s1, Option.bind_some, s2, e31, hby, Option.bind_some]
  unfold lq
  by_cases c : q < n
  · obtain ⟨w1, w2⟩ := hWb q c
    have hge : (0 : Int32) ≤ b q := by rw [i32_le0, z_0]; exact w1
    rw [if_pos c, if_pos c, if_pos hge, f_in_eq, Int32.toInt_toInt64, show (97 : Int64).toInt = 97 from rfl, show (122 : Int64).toInt = 122 from rfl, show inZ (b q).toInt 97 122 = isLt (b q) from rfl, Option.bind_some]
    by_cases c1 : isLt (b q) = true
    · rw [if_pos c1, if_pos c1]
      have F2 : Fk K4 h (sL (sI (sI (sI h1 60 29 (nI q)) 60 28 4) 60 28 1) 60 30 0) := Fk.sL (Fk.sI (F1.sI (by unfold K4; omega)) (by unfold K4; omega)) (by unfold K4; omega)
      obtain ⟨h2, u1, u2, u3, u4, u5⟩ := L_mnx107 hWb (n - q) q 0 1000 0 (sL (sI (sI (sI h1 60 29 (nI q)) 60 28 4) 60 28 1) 60 30 0) rfl (by omega) (by omega) (by omega) (hB.fk F2 (by unfold K4; omega) (by unfold K4; omega)) (by rw [hI_sL, hI_sI, if_pos rfl, if_neg (by decide), hI_sI, if_pos rfl, if_neg (by decide)]; exact e31) (by rw [hL_sL, if_pos rfl, if_pos rfl])
      refine ⟨h2, ?_, ?_, ?_, fun _ => u2, F2.tr (u4.mono (fun k hk => by unfold K4; omega))⟩
      · rw [show l_X12_next_107 1000 (0 : Int32) (sL (sI (sI (sI h1 60 29 (nI q)) 60 28 4) 60 28 1) 60 30 0) = some h2 from u1, Option.bind_some]
      · refine Or.inr (Or.inr (Or.inl ⟨?_, ?_⟩))
        · rw [u5 28 (by decide), hI_sL, hI_sI, if_pos rfl, if_pos rfl]
        · show wcode _ = _
          rw [u3]
      · show hI h2 60 29 = nI q
        rw [u5 29 (by decide), hI_sL, hI_sI, if_pos rfl, if_neg (by decide), hI_sI, if_pos rfl, if_neg (by decide), hI_sI, if_pos rfl, if_pos rfl]
    · rw [if_neg c1, if_neg c1, f_in_eq, Int32.toInt_toInt64, show (48 : Int64).toInt = 48 from rfl, show (57 : Int64).toInt = 57 from rfl, show inZ (b q).toInt 48 57 = isDg (b q) from rfl, Option.bind_some]
      by_cases c2 : isDg (b q) = true
      · rw [if_pos c2, if_pos c2]
        have F2 : Fk K4 h (sL (sI (sI (sI h1 60 29 (nI q)) 60 28 4) 60 28 2) 60 30 0) := Fk.sL (Fk.sI (F1.sI (by unfold K4; omega)) (by unfold K4; omega)) (by unfold K4; omega)
        obtain ⟨h2, u1, u2, u3, u4, u5⟩ := L_mnx211 hWb (n - q) q 0 1000 0 (sL (sI (sI (sI h1 60 29 (nI q)) 60 28 4) 60 28 2) 60 30 0) rfl (by omega) (by omega) (by omega) (hB.fk F2 (by unfold K4; omega) (by unfold K4; omega)) (by rw [hI_sL, hI_sI, if_pos rfl, if_neg (by decide), hI_sI, if_pos rfl, if_neg (by decide)]; exact e31) (by rw [hL_sL, if_pos rfl, if_pos rfl])
        rw [Nat.zero_add] at u1
        have F3 := F2.tr (u4.mono (L := K4) (fun k hk => by unfold K4; omega))
        have e29 : hI h2 60 29 = nI q := by rw [u5 29 (by decide), hI_sL, hI_sI, if_pos rfl, if_neg (by decide), hI_sI, if_pos rfl, if_neg (by decide), hI_sI, if_pos rfl, if_pos rfl]
        obtain ⟨r1, r2, r3, r4, r5⟩ := rE_spec (P := isDg) (b := b) (n := n) _ q rfl
        have r2' := r2 (by omega)
        rw [show l_X12_next_211 1000 (0 : Int32) (sL (sI (sI (sI h1 60 29 (nI q)) 60 28 4) 60 28 2) 60 30 0) = some (nI (rE isDg b n q - q), h2) from u1, Option.bind_some]
        by_cases c4 : rE isDg b n q - q ≤ 4
        · have cc : nI (rE isDg b n q - q) ≤ (4 : Int32) := by rw [show (4 : Int32) = nI 4 from rfl]; exact nI_le c4 (by decide)
          obtain ⟨m1, m2, m3⟩ := nm_0 (b := b) c4 (fun r g1 g2 => r4 r g1 (by omega))
          refine ⟨sI h2 60 28 2, ?_, ?_, ?_, fun _ => ?_, F3.sI (by unfold K4; omega)⟩
          · rw [if_pos cc]
          · refine Or.inr (Or.inr (Or.inr (Or.inl ⟨?_, ?_, ?_⟩)))
            · rw [hI_sI, if_pos rfl, if_pos rfl]
            · show 0 ≤ (if _ then _ else _ : Int32).toInt ∧ (if _ then _ else _ : Int32).toInt ≤ 9999
              rw [if_pos c4]; exact ⟨m2, m3⟩
            · show _ = (if _ then _ else _ : Int32).toInt
              rw [if_pos c4, hL_sI, u3]; exact m1
          · show hI (sI h2 60 28 2) 60 29 = nI q
            rw [hI_sI, if_pos rfl, if_neg (by decide)]; exact e29
          · show hI (sI h2 60 28 2) 60 31 = nI (rE isDg b n q)
            rw [hI_sI, if_pos rfl, if_neg (by decide)]; exact u2
        · have cc : ¬ nI (rE isDg b n q - q) ≤ (4 : Int32) := by rw [show (4 : Int32) = nI 4 from rfl]; exact nI_ge (by omega) (by omega)
          refine ⟨sI h2 60 28 4, ?_, ?_, ?_, fun _ => ?_, F3.sI (by unfold K4; omega)⟩
          · rw [if_neg cc]
          · refine Or.inr (Or.inl ⟨?_, ?_⟩)
            · rw [hI_sI, if_pos rfl, if_pos rfl]
            · exact if_neg c4
          · show hI (sI h2 60 28 4) 60 29 = nI q
            rw [hI_sI, if_pos rfl, if_neg (by decide)]; exact e29
          · show hI (sI h2 60 28 4) 60 31 = nI (rE isDg b n q)
            rw [hI_sI, if_pos rfl, if_neg (by decide)]; exact u2
      · rw [if_neg c2, if_neg c2, sg_if]
        by_cases c3 : isSg (b q) = true
        · rw [if_pos c3, if_pos c3]
          refine ⟨_, rfl, ?_, ?_, fun _ => ?_, ?_⟩
          · refine Or.inr (Or.inr (Or.inr (Or.inr ⟨?_, b q, c3, rfl, ?_⟩)))
            · simp (config := { decide := true }) only [hI_sI, hI_sL, hI_sR, hL_sI, hL_sL, hL_sR, hR_sI, hR_sL, hR_sR, hT_sI, hT_sL, hT_sR, hLn_sI, hLn_sL, hLn_sR, hN_sI, hN_sL, hN_sR, if_true, if_false]
            · simp (config := { decide := true }) only [hI_sI, hI_sL, hI_sR, hL_sI, hL_sL, hL_sR, hR_sI, hR_sL, hR_sR, hT_sI, hT_sL, hT_sR, hLn_sI, hLn_sL, hLn_sR, hN_sI, hN_sL, hN_sR, if_true, if_false]
          · simp (config := { decide := true }) only [hI_sI, hI_sL, hI_sR, hL_sI, hL_sL, hL_sR, hR_sI, hR_sL, hR_sR, hT_sI, hT_sL, hT_sR, hLn_sI, hLn_sL, hLn_sR, hN_sI, hN_sL, hN_sR, if_true, if_false]
          · simp (config := { decide := true }) only [hI_sI, hI_sL, hI_sR, hL_sI, hL_sL, hL_sR, hR_sI, hR_sL, hR_sR, hT_sI, hT_sL, hT_sR, hLn_sI, hLn_sL, hLn_sR, hN_sI, hN_sL, hN_sR, if_true, if_false, s2]
            exact nI_1 q
          · exact Fk.sI (Fk.sL (Fk.sI (Fk.sI F1 (by unfold K4; omega)) (by unfold K4; omega)) (by unfold K4; omega)) (by unfold K4; omega)
        · rw [if_neg c3, if_neg c3]
          refine ⟨_, rfl, Or.inr (Or.inl ⟨?_, rfl⟩), ?_, fun z => absurd rfl z, ?_⟩
          · simp (config := { decide := true }) only [hI_sI, hI_sL, hI_sR, hL_sI, hL_sL, hL_sR, hR_sI, hR_sL, hR_sR, hT_sI, hT_sL, hT_sR, hLn_sI, hLn_sL, hLn_sR, hN_sI, hN_sL, hN_sR, if_true, if_false]
          · simp (config := { decide := true }) only [hI_sI, hI_sL, hI_sR, hL_sI, hL_sL, hL_sR, hR_sI, hR_sL, hR_sR, hT_sI, hT_sL, hT_sR, hLn_sI, hLn_sL, hLn_sR, hN_sI, hN_sL, hN_sR, if_true, if_false]
          · exact Fk.sI F1 (by unfold K4; omega)
  · rw [if_neg c, if_neg c, if_neg (by decide)]
    have hq : q = n := by omega
    refine ⟨_, rfl, Or.inl ⟨?_, rfl⟩, ?_, fun _ => ?_, ?_⟩
    · simp (config := { decide := true }) only [hI_sI, hI_sL, hI_sR, hL_sI, hL_sL, hL_sR, hR_sI, hR_sL, hR_sR, hT_sI, hT_sL, hT_sR, hLn_sI, hLn_sL, hLn_sR, hN_sI, hN_sL, hN_sR, if_true, if_false]
    · simp (config := { decide := true }) only [hI_sI, hI_sL, hI_sR, hL_sI, hL_sL, hL_sR, hR_sI, hR_sL, hR_sR, hT_sI, hT_sL, hT_sR, hLn_sI, hLn_sL, hLn_sR, hN_sI, hN_sL, hN_sR, if_true, if_false]
      exact e27
    · simp (config := { decide := true }) only [hI_sI, hI_sL, hI_sR, hL_sI, hL_sL, hL_sR, hR_sI, hR_sL, hR_sR, hT_sI, hT_sL, hT_sR, hLn_sI, hLn_sL, hLn_sR, hN_sI, hN_sL, hN_sR, if_true, if_false, s2, hq]
    · exact Fk.sI (Fk.sI (Fk.sI F1 (by unfold K4; omega)) (by unfold K4; omega)) (by unfold K4; omega)
