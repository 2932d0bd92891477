/-! ===== find ===== -/
def bitB (set : Int32) (i : Nat) : Bool := decide (((set >>> (nI i &&& 31)) &&& (1 : Int32)) = (1 : Int32))
theorem bitB_t {set : Int32} {i : Nat} (h : bitB set i = true) : ((set >>> (nI i &&& 31)) &&& (1 : Int32)) = (1 : Int32) := of_decide_eq_true h
theorem bitB_f {set : Int32} {i : Nat} (h : bitB set i = false) : ¬ ((set >>> (nI i &&& 31)) &&& (1 : Int32)) = (1 : Int32) := of_decide_eq_false h
theorem isOf_eq (set : Int32) (i : Nat) : f_X11_isOf set (nI i) = some (bitB set i) := by
  unfold f_X11_isOf bitB
  split
  · rename_i c; rw [decide_eq_true c]
  · rename_i c; rw [decide_eq_false c]
def hrsG (D : DT) (set : Int32) : Nat → Nat → Int32 → Int32
  | 0, _, c => c
  | d + 1, k, c => hrsG D set d (k + 1) (c + if bitB set k = true then nI (D.2.1 k) else 0)
theorem L_mhrs {D : DT} {h : HS} (hD : Mte D h) (y1 y2 y3 y4 set : Int32) : ∀ (d k f : Nat) (c : Int32), k + d = D.1 → d < f → l_X12_find_53 y1 y2 y3 y4 set h f c (nI k) = some (hrsG D set d k c) := by
  obtain ⟨t1, t2, t3⟩ := hD
  intro d
  induction d with
  | zero =>
    intro k f c hk hf
    obtain ⟨f, rfl⟩ : ∃ f', f = f' + 1 := ⟨f - 1, by omega⟩
    rw [l_X12_find_53, t1, if_pos (nI_le (by omega) (by omega))]
    rfl
  | succ d ih =>
    intro k f c hk hf
    obtain ⟨f, rfl⟩ : ∃ f', f = f' + 1 := ⟨f - 1, by omega⟩
    have hx := ixb_n (i := k) (n := 6) (by omega) (by decide)
    have hc : (nI k).toNatClampNeg = k := nI_clamp (by omega)
    rw [l_X12_find_53, t1, if_neg (nI_ge (by omega) (by omega)), hrsG]
    cases hb : bitB set k
    · rw [if_neg (bitB_f hb), nI_1]
      exact ih (k + 1) f _ (by omega) (by omega)
    · rw [if_pos (bitB_t hb), if_pos hx, hc, (t3 k (by omega)).1, nI_1]
      exact ih (k + 1) f _ (by omega) (by omega)
theorem L_xhrs {D : DT} {h : HS} (hD : Xte D h) (set : Int32) : ∀ (d k f : Nat) (c : Int32), k + d = D.1 → d < f → l_X11_hoursOfTests_4 set h f c (nI k) = some (hrsG D set d k c) := by
  obtain ⟨t1, t2, t3⟩ := hD
  intro d
  induction d with
  | zero =>
    intro k f c hk hf
    obtain ⟨f, rfl⟩ : ∃ f', f = f' + 1 := ⟨f - 1, by omega⟩
    rw [l_X11_hoursOfTests_4, t1, if_pos (nI_le (by omega) (by omega))]
    rfl
  | succ d ih =>
    intro k f c hk hf
    obtain ⟨f, rfl⟩ : ∃ f', f = f' + 1 := ⟨f - 1, by omega⟩
    have hx := ixb_n (i := k) (n := 6) (by omega) (by decide)
    have hc : (nI k).toNatClampNeg = k := nI_clamp (by omega)
    have h6 : ¬ (6 : Int32) ≤ nI k := by rw [show (6 : Int32) = nI 6 from rfl]; exact nI_ge (by omega) (by decide)
    rw [l_X11_hoursOfTests_4, t1, if_neg (nI_ge (by omega) (by omega)), if_neg h6, isOf_eq, Option.bind_some, hrsG]
    cases hb : bitB set k
    · rw [if_neg (by decide), nI_1]
      exact ih (k + 1) f _ (by omega) (by omega)
    · rw [if_pos rfl, if_pos hx, hc, (t3 k (by omega)).1, nI_1]
      exact ih (k + 1) f _ (by omega) (by omega)
def parG (D : DT) (set : Int32) (a b : Nat) : Nat → Nat → Bool
  | 0, _ => false
  | d + 1, k => bif bitB set k then (bif decide (dgt (D.2.2 k) a = dgt (D.2.2 k) b) then parG D set a b d (k + 1) else true) else parG D set a b d (k + 1)
theorem dgt_lt (A k : Nat) : dgt A k < 10 := Nat.mod_lt _ (by decide)
theorem L_xpark {D : DT} {h : HS} (hD : Xte D h) (hW : Wte D) (set : Int32) {a b : Nat} (ha : a < 6) (hb : b < 6) : ∀ (d k f : Nat), k + d = D.1 → d < f → l_X11_arePartedKinds_3 (nI a) (nI b) set h f (nI k) = some (if parG D set a b d k = true then Sum.inl true else Sum.inr ()) := by
  obtain ⟨t1, t2, t3⟩ := hD
  intro d
  induction d with
  | zero =>
    intro k f hk hf
    obtain ⟨f, rfl⟩ : ∃ f', f = f' + 1 := ⟨f - 1, by omega⟩
    rw [l_X11_arePartedKinds_3, t1, if_pos (nI_le (by omega) (by omega))]
    rfl
  | succ d ih =>
    intro k f hk hf
    obtain ⟨f, rfl⟩ : ∃ f', f = f' + 1 := ⟨f - 1, by omega⟩
    have hx := ixb_n (i := k) (n := 6) (by omega) (by decide)
    have hc : (nI k).toNatClampNeg = k := nI_clamp (by omega)
    have h6 : ¬ (6 : Int32) ≤ nI k := by rw [show (6 : Int32) = nI 6 from rfl]; exact nI_ge (by omega) (by decide)
    have hA := (hW k (by omega)).2.1
    have l1 := dgt_lt (D.2.2 k) a
    have l2 := dgt_lt (D.2.2 k) b
    rw [l_X11_arePartedKinds_3, t1, if_neg (nI_ge (by omega) (by omega)), if_neg h6, if_pos hx, isOf_eq, Option.bind_some, hc, (t3 k (by omega)).2, answerOf_nI (by omega) ha, answerOf_nI (by omega) hb, Option.bind_some, Option.bind_some, parG, nI_1]
    cases hbb : bitB set k
    · rw [if_neg (by decide), cond_false]
      exact ih (k + 1) f (by omega) (by omega)
    · rw [if_pos rfl, cond_true]
      by_cases e : dgt (D.2.2 k) a = dgt (D.2.2 k) b
      · rw [decide_eq_true e, cond_true, if_pos (by rw [e])]
        exact ih (k + 1) f (by omega) (by omega)
      · rw [if_neg (fun z => e ((nI_eq (by omega) (by omega)).mp z)), decide_eq_false e, cond_false, if_pos rfl]
theorem X_parK {D : DT} {h : HS} (hD : Xte D h) (hW : Wte D) (set : Int32) {a b : Nat} (ha : a < 6) (hb : b < 6) : f_X11_arePartedKinds (nI a) (nI b) set h = some (parG D set a b D.1 0) := by
  have t2 := hD.2.1
  have := L_xpark hD hW set ha hb D.1 0 1000 (by omega) (by omega)
  unfold f_X11_arePartedKinds
  rw [show l_X11_arePartedKinds_3 (nI a) (nI b) set h 1000 (0 : Int32) = _ from this, Option.bind_some]
  cases parG D set a b D.1 0 <;> rfl
theorem L_mpar1 {D : DT} {h : HS} (h44 : hI h 60 44 = nI D.1) (h6 : D.1 ≤ 6) (y1 y2 y3 : Int32) : ∀ (d k f : Nat), k + d = D.1 → d < f → l_X12_isParted_25 y1 y2 y3 h f (1 : Int32) (nI k) = some 1 := by
  intro d
  induction d with
  | zero =>
    intro k f hk hf
    obtain ⟨f, rfl⟩ : ∃ f', f = f' + 1 := ⟨f - 1, by omega⟩
    rw [l_X12_isParted_25, h44, if_pos (nI_le (by omega) (by omega))]
  | succ d ih =>
    intro k f hk hf
    obtain ⟨f, rfl⟩ : ∃ f', f = f' + 1 := ⟨f - 1, by omega⟩
    rw [l_X12_isParted_25, h44, if_neg (nI_ge (by omega) (by omega)), if_neg (by decide), nI_1]
    exact ih (k + 1) f (by omega) (by omega)
theorem L_mpar {S : TB} {D : DT} {h : HS} (hS : Mst S h) (hD : Mte D h) (set : Int32) {i j a b : Nat} (hi : i < S.1) (hj : j < S.1) (ha : a < 6) (hb : b < 6) (ea : S.2 0 i = nI a) (eb : S.2 0 j = nI b) : ∀ (d k f : Nat), k + d = D.1 → d < f → l_X12_isParted_25 (nI i) (nI j) set h f (0 : Int32) (nI k) = some (if parG D set a b d k = true then 1 else 0) := by
  have hD0 := hD
  obtain ⟨t1, t2, t3⟩ := hD
  have h8 := hS.2.1
  intro d
  induction d with
  | zero =>
    intro k f hk hf
    obtain ⟨f, rfl⟩ : ∃ f', f = f' + 1 := ⟨f - 1, by omega⟩
    rw [l_X12_isParted_25, t1, if_pos (nI_le (by omega) (by omega))]
    rfl
  | succ d ih =>
    intro k f hk hf
    obtain ⟨f, rfl⟩ : ∃ f', f = f' + 1 := ⟨f - 1, by omega⟩
    have xi := ixb_n (i := i) (n := 8) (by omega) (by decide)
    have xj := ixb_n (i := j) (n := 8) (by omega) (by decide)
    have ci : (nI i).toNatClampNeg = i := nI_clamp (by omega)
    have cj : (nI j).toNatClampNeg = j := nI_clamp (by omega)
    have m6 : (6 : Int32) * nI k = nI (6 * k) := pk_mul 6 k
    have xa := ixb_n (i := 6 * k + a) (n := 36) (by omega) (by decide)
    have xb := ixb_n (i := 6 * k + b) (n := 36) (by omega) (by decide)
    have ca : (nI (6 * k + a)).toNatClampNeg = 6 * k + a := nI_clamp (by omega)
    have cb : (nI (6 * k + b)).toNatClampNeg = 6 * k + b := nI_clamp (by omega)
    have l1 := dgt_lt (D.2.2 k) a
    have l2 := dgt_lt (D.2.2 k) b
    rw [l_X12_isParted_25, t1, if_neg (nI_ge (by omega) (by omega)), if_pos rfl, parG]
    cases hbb : bitB set k
    · rw [if_neg (bitB_f hbb), nI_1, cond_false]
      exact ih (k + 1) f (by omega) (by omega)
    · rw [if_pos (bitB_t hbb), if_pos xi, ci, (hS.2.2 i hi).1, ea, m6, nI_add, if_pos xa, if_pos xj, cj, (hS.2.2 j hj).1, eb, nI_add, if_pos xb, ca, cb, (t3 k (by omega)).2 a ha, (t3 k (by omega)).2 b hb, nI_1, cond_true]
      by_cases e : dgt (D.2.2 k) a = dgt (D.2.2 k) b
      · rw [decide_eq_true e, cond_true, if_pos (by rw [e])]
        exact ih (k + 1) f (by omega) (by omega)
      · rw [if_neg (fun z => e ((nI_eq (by omega) (by omega)).mp z)), decide_eq_false e, cond_false, if_pos rfl]
        exact L_mpar1 t1 t2 _ _ _ d (k + 1) f (by omega) (by omega)
def prI (S : TB) (D : DT) (set : Int32) (i j : Nat) : Bool := decide (S.2 0 i = S.2 0 j) || parG D set (S.2 0 i).toNatClampNeg (S.2 0 j).toNatClampNeg D.1 0
theorem kindN {S : TB} (hW : Wst S) {i : Nat} (hi : i < S.1) : ∃ a, a < 6 ∧ S.2 0 i = nI a ∧ (S.2 0 i).toNatClampNeg = a := by
  obtain ⟨⟨w1, w2⟩, -⟩ := hW i hi
  have e : S.2 0 i = nI (S.2 0 i).toInt.toNat := by rw [i32_eqZ, nI_Z (by omega)]; omega
  refine ⟨(S.2 0 i).toInt.toNat, by omega, e, ?_⟩
  rw [e, nI_clamp (by omega), ← e]
theorem parG_sym (D : DT) (set : Int32) (a b : Nat) : ∀ (d k : Nat), parG D set a b d k = parG D set b a d k := by
  intro d
  induction d with
  | zero => intro k; rfl
  | succ d ih =>
    intro k
    rw [parG, parG, ih]
    have : decide (dgt (D.2.2 k) a = dgt (D.2.2 k) b) = decide (dgt (D.2.2 k) b = dgt (D.2.2 k) a) := by
      rw [decide_eq_decide]; exact ⟨Eq.symm, Eq.symm⟩
    rw [this]
theorem prI_sym (S : TB) (D : DT) (set : Int32) (i j : Nat) : prI S D set i j = prI S D set j i := by
  unfold prI
  rw [parG_sym]
  have : decide (S.2 0 i = S.2 0 j) = decide (S.2 0 j = S.2 0 i) := by
    rw [decide_eq_decide]; exact ⟨Eq.symm, Eq.symm⟩
  rw [this]
theorem M_isParted {S : TB} {D : DT} {h : HS} (hS : Mst S h) (hW : Wst S) (hD : Mte D h) (set : Int32) {i j : Nat} (hi : i < S.1) (hj : j < S.1) : f_X12_isParted (nI i) (nI j) set h = some (prI S D set i j) := by
  obtain ⟨a, ha, ea, ca⟩ := kindN hW hi
  obtain ⟨b, hb, eb, cb⟩ := kindN hW hj
  have h8 := hS.2.1
  have t2 := hD.2.1
  have xi := ixb_n (i := i) (n := 8) (by omega) (by decide)
  have xj := ixb_n (i := j) (n := 8) (by omega) (by decide)
  have ci : (nI i).toNatClampNeg = i := nI_clamp (by omega)
  have cj : (nI j).toNatClampNeg = j := nI_clamp (by omega)
  unfold f_X12_isParted prI
  rw [if_pos xi, if_pos xj, ci, cj, (hS.2.2 i hi).1, (hS.2.2 j hj).1, ca, cb]
  by_cases e : S.2 0 i = S.2 0 j
  · rw [if_pos e, decide_eq_true e, Option.bind_some]
    have := L_mpar1 hD.1 t2 (nI i) (nI j) set D.1 0 1000 (by omega) (by omega)
    rw [show l_X12_isParted_25 (nI i) (nI j) set h 1000 (1 : Int32) (0 : Int32) = some 1 from this]
    rfl
  · rw [if_neg e, decide_eq_false e, Option.bind_some]
    have := L_mpar hS hD set hi hj ha hb ea eb D.1 0 1000 (by omega) (by omega)
    rw [show l_X12_isParted_25 (nI i) (nI j) set h 1000 (0 : Int32) (0 : Int32) = _ from this]
    cases parG D set a b D.1 0 <;> rfl
/-- two of them asked for and not told apart -/
def okP (S : TB) (D : DT) (w set : Int32) (i j : Nat) : Prop := bitB w i = true → bitB w j = true → prI S D set i j = true
theorem L_mparts1 {S : TB} {D : DT} {h : HS} (hS : Mst S h) (hW : Wst S) (hD : Mte D h) (w set : Int32) {i : Nat} (hi : i < S.1) : ∀ (d k f : Nat), k + d = i → d < f → ∃ r, l_X12_parts_13 w set (nI i) h f (nI k) = some r ∧ (r = Sum.inr () ∧ (∀ j, k ≤ j → j < i → okP S D w set i j) ∨ r = Sum.inl false ∧ ∃ j, k ≤ j ∧ j < i ∧ ¬ okP S D w set i j) := by
  have h8 := hS.2.1
  intro d
  induction d with
  | zero =>
    intro k f hk hf
    obtain ⟨f, rfl⟩ : ∃ f', f = f' + 1 := ⟨f - 1, by omega⟩
    refine ⟨_, ?_, Or.inl ⟨rfl, fun j h1 h2 => absurd h2 (by omega)⟩⟩
    rw [l_X12_parts_13, if_pos (nI_le (by omega) (by omega))]
  | succ d ih =>
    intro k f hk hf
    obtain ⟨f, rfl⟩ : ∃ f', f = f' + 1 := ⟨f - 1, by omega⟩
    obtain ⟨r, r1, r2⟩ := ih (k + 1) f (by omega) (by omega)
    have go : okP S D w set i k → l_X12_parts_13 w set (nI i) h (f + 1) (nI k) = l_X12_parts_13 w set (nI i) h f (nI (k + 1)) → ∃ r, l_X12_parts_13 w set (nI i) h (f + 1) (nI k) = some r ∧ (r = Sum.inr () ∧ (∀ j, k ≤ j → j < i → okP S D w set i j) ∨ r = Sum.inl false ∧ ∃ j, k ≤ j ∧ j < i ∧ ¬ okP S D w set i j) := by
      intro ok e
      refine ⟨r, by rw [e, r1], ?_⟩
      rcases r2 with ⟨q1, q2⟩ | ⟨q1, j, q2, q3, q4⟩
      · refine Or.inl ⟨q1, fun j j1 j2 => ?_⟩
        by_cases e : j = k
        · subst e; exact ok
        · exact q2 j (by omega) j2
      · exact Or.inr ⟨q1, j, by omega, q3, q4⟩
    cases b1 : bitB w i
    · refine go (fun z => absurd (b1.symm.trans z) (by decide)) ?_
      rw [l_X12_parts_13, if_neg (nI_ge (by omega) (by omega)), if_neg (bitB_f b1), nI_1]
    cases b2 : bitB w k
    · refine go (fun _ z => absurd (b2.symm.trans z) (by decide)) ?_
      rw [l_X12_parts_13, if_neg (nI_ge (by omega) (by omega)), if_pos (bitB_t b1), if_neg (bitB_f b2), nI_1]
    cases b3 : prI S D set i k
    · refine ⟨Sum.inl false, ?_, Or.inr ⟨rfl, k, by omega, by omega, fun z => absurd (b3.symm.trans (z b1 b2)) (by decide)⟩⟩
      rw [l_X12_parts_13, if_neg (nI_ge (by omega) (by omega)), if_pos (bitB_t b1), if_pos (bitB_t b2), M_isParted hS hW hD set hi (by omega), b3]
      rfl
    · refine go (fun _ _ => b3) ?_
      rw [l_X12_parts_13, if_neg (nI_ge (by omega) (by omega)), if_pos (bitB_t b1), if_pos (bitB_t b2), M_isParted hS hW hD set hi (by omega), b3, Option.bind_some, if_pos rfl, nI_1]
theorem L_mparts {S : TB} {D : DT} {h : HS} (hS : Mst S h) (hW : Wst S) (hD : Mte D h) (w set : Int32) : ∀ (d k f : Nat), k + d = S.1 → d < f → ∃ r, l_X12_parts_2 w set h f (nI k) = some r ∧ (r = Sum.inr () ∧ (∀ i j, k ≤ i → i < S.1 → j < i → okP S D w set i j) ∨ r = Sum.inl false ∧ ∃ i j, i < S.1 ∧ j < i ∧ ¬ okP S D w set i j) := by
  have h8 := hS.2.1
  intro d
  induction d with
  | zero =>
    intro k f hk hf
    obtain ⟨f, rfl⟩ : ∃ f', f = f' + 1 := ⟨f - 1, by omega⟩
    refine ⟨_, ?_, Or.inl ⟨rfl, fun i j h1 h2 => absurd h2 (by omega)⟩⟩
    rw [l_X12_parts_2, hS.1, if_pos (nI_le (by omega) (by omega))]
  | succ d ih =>
    intro k f hk hf
    obtain ⟨f, rfl⟩ : ∃ f', f = f' + 1 := ⟨f - 1, by omega⟩
    obtain ⟨r0, s1, s2⟩ := L_mparts1 hS hW hD w set (i := k) (by omega) k 0 1000 (by omega) (by omega)
    have s1' : l_X12_parts_13 w set (nI k) h 1000 (0 : Int32) = some r0 := s1
    rcases s2 with ⟨rfl, q2⟩ | ⟨rfl, j, -, q3, q4⟩
    · obtain ⟨r, r1, r2⟩ := ih (k + 1) f (by omega) (by omega)
      refine ⟨r, ?_, ?_⟩
      · rw [l_X12_parts_2, hS.1, if_neg (nI_ge (by omega) (by omega)), s1', Option.bind_some, Sum.elim_inr, nI_1, r1]
      · rcases r2 with ⟨u1, u2⟩ | u
        · refine Or.inl ⟨u1, fun i j i1 i2 i3 => ?_⟩
          by_cases e : i = k
          · subst e; exact q2 j (by omega) i3
          · exact u2 i j (by omega) i2 i3
        · exact Or.inr u
    · refine ⟨Sum.inl false, ?_, Or.inr ⟨rfl, k, j, by omega, q3, q4⟩⟩
      rw [l_X12_parts_2, hS.1, if_neg (nI_ge (by omega) (by omega)), s1', Option.bind_some, Sum.elim_inl]
/-- all told apart -/
def allP (S : TB) (D : DT) (w set : Int32) : Prop := ∀ i j, i < S.1 → j < i → okP S D w set i j
theorem M_parts {S : TB} {D : DT} {h : HS} (hS : Mst S h) (hW : Wst S) (hD : Mte D h) (w set : Int32) : ∃ v, f_X12_parts w set h = some v ∧ (v = true ↔ allP S D w set) := by
  have h8 := hS.2.1
  obtain ⟨r, s1, s2⟩ := L_mparts hS hW hD w set S.1 0 1000 (by omega) (by omega)
  have s1' : l_X12_parts_2 w set h 1000 (0 : Int32) = some r := s1
  rcases s2 with ⟨rfl, q⟩ | ⟨rfl, i, j, q1, q2, q3⟩
  · refine ⟨true, ?_, ⟨fun _ i j i1 i2 => q i j (by omega) i1 i2, fun _ => rfl⟩⟩
    unfold f_X12_parts
    rw [s1']
    rfl
  · refine ⟨false, ?_, ⟨fun z => absurd z (by decide), fun z => absurd (z i j q1 q2) q3⟩⟩
    unfold f_X12_parts
    rw [s1']
    rfl
