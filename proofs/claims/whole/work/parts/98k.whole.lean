/-! ===== the launch's constants ===== -/
theorem nI_bv (x : Int32) : nI x.toBitVec.toNat = x := by
  apply Int32.toBitVec_inj.mp
  show BitVec.ofNat 32 x.toBitVec.toNat = x.toBitVec
  simp
theorem ev_eq {args : Array Value} {s : State} {t : Term} {z : Int32} (h : (Cond.eq t (.int z)).before args s = true) : t.eval args s none [] s = some (.int z) := by
  cases hv : t.eval args s none [] s with
  | none => simp [Cond.before, Cond.holds, Cond.value, hv] at h
  | some w =>
    have hz : (Term.int z).eval args s none [] s = some (.int z) := rfl
    simp only [Cond.before, Cond.holds, Cond.value, hv, hz] at h
    cases w <;> simp_all
theorem sw_3 (j : Nat) (hj : j < 13) (i : Nat) (hi : i < j) : ∃ k, inP k (.not (.eq (tmS i) (tmS j))) = true := by
  match j, hj with
  | 0, _ => exact absurd hi (Nat.not_lt_zero i)
  | 1, _ => exact ⟨_, List.all_eq_true.mp sw_3_1 i (List.mem_range.mpr hi)⟩
  | 2, _ => exact ⟨_, List.all_eq_true.mp sw_3_2 i (List.mem_range.mpr hi)⟩
  | 3, _ => exact ⟨_, List.all_eq_true.mp sw_3_3 i (List.mem_range.mpr hi)⟩
  | 4, _ => exact ⟨_, List.all_eq_true.mp sw_3_4 i (List.mem_range.mpr hi)⟩
  | 5, _ => exact ⟨_, List.all_eq_true.mp sw_3_5 i (List.mem_range.mpr hi)⟩
  | 6, _ => exact ⟨_, List.all_eq_true.mp sw_3_6 i (List.mem_range.mpr hi)⟩
  | 7, _ => exact ⟨_, List.all_eq_true.mp sw_3_7 i (List.mem_range.mpr hi)⟩
  | 8, _ => exact ⟨_, List.all_eq_true.mp sw_3_8 i (List.mem_range.mpr hi)⟩
  | 9, _ => exact ⟨_, List.all_eq_true.mp sw_3_9 i (List.mem_range.mpr hi)⟩
  | 10, _ => exact ⟨_, List.all_eq_true.mp sw_3_10 i (List.mem_range.mpr hi)⟩
  | 11, _ => exact ⟨_, List.all_eq_true.mp sw_3_11 i (List.mem_range.mpr hi)⟩
  | 12, _ => exact ⟨_, List.all_eq_true.mp sw_3_12 i (List.mem_range.mpr hi)⟩
  | n + 13, h => omega
def adf (adK adV : Nat → Nat) (aA aE b L : Nat) (xs : Nat → Int32) (a : Nat) : Nat := if 100 < a then (xs (a - 101)).toBitVec.toNat else if a < 13 then adK a else if a < 26 then adV (a - 13) else if a = 26 then aA else if a = 27 then aE else if a = 28 then b else if a = 100 then L else 0
theorem adf_K {adK adV : Nat → Nat} {aA aE b L : Nat} {xs : Nat → Int32} {i : Nat} (hi : i < 13) : adf adK adV aA aE b L xs i = adK i := by
  unfold adf; rw [if_neg (by omega), if_pos hi]
theorem adf_V {adK adV : Nat → Nat} {aA aE b L : Nat} {xs : Nat → Int32} {i : Nat} (hi : i < 13) : adf adK adV aA aE b L xs (13 + i) = adV i := by
  unfold adf; rw [if_neg (by omega), if_neg (by omega), if_pos (by omega), Nat.add_sub_cancel_left]
theorem adf_X {adK adV : Nat → Nat} {aA aE b L : Nat} {xs : Nat → Int32} {i : Nat} : nI (adf adK adV aA aE b L xs (101 + i)) = xs i := by
  unfold adf; rw [if_pos (by omega), Nat.add_sub_cancel_left, nI_bv]
def acf (c15 c16 c17 c18 c19 : ClassId) (k : Nat) : ClassId := if k = 15 then c15 else if k = 16 then c16 else if k = 17 then c17 else if k = 18 then c18 else c19
theorem cl_of {s : State} {args : Array Value} (hg : ∀ w ∈ gT, w.before args s = true) (T : ∀ {k : Nat} {w : Cond}, inT k w = true → w.before args s = true) : ∃ D : va_G, ∀ (c : Nat) (q : vw_C), vwCl[c]? = some q → u_Kn s q.1 q.2.1 q.2.2 (D.1 c) (D.2 c) := by
  obtain ⟨k0, i0, K0⟩ := u_known hg wi0 (T sv_nJx4a65c)
  obtain ⟨k1, i1, K1⟩ := u_known hg wi1 (T sv_nX0)
  obtain ⟨k2, i2, K2⟩ := u_known hg wi2 (T sv_nX1)
  obtain ⟨k3, i3, K3⟩ := u_known hg wi3 (T sv_nX2)
  obtain ⟨k4, i4, K4⟩ := u_known hg wi4 (T sv_nX3)
  obtain ⟨k5, i5, K5⟩ := u_known hg wi5 (T sv_nX4)
  obtain ⟨k6, i6, K6⟩ := u_known hg wi6 (T sv_nX5)
  obtain ⟨k7, i7, K7⟩ := u_known hg wi7 (T sv_nX6)
  obtain ⟨k8, i8, K8⟩ := u_known hg wi8 (T sv_nX7)
  obtain ⟨k9, i9, K9⟩ := u_known hg wi9 (T sv_nX8)
  obtain ⟨k10, i10, K10⟩ := u_known hg wi10 (T sv_nX9)
  obtain ⟨k11, i11, K11⟩ := u_known hg wi11 (T sv_nX10)
  obtain ⟨k12, i12, K12⟩ := u_known hg wi12 (T sv_nX11)
  obtain ⟨k13, i13, K13⟩ := u_known hg wi13 (T sv_nX12)
  refine ⟨(fun c => match c with | 0 => k0 | 1 => k1 | 2 => k2 | 3 => k3 | 4 => k4 | 5 => k5 | 6 => k6 | 7 => k7 | 8 => k8 | 9 => k9 | 10 => k10 | 11 => k11 | 12 => k12 | _ => k13, fun c => match c with | 0 => i0 | 1 => i1 | 2 => i2 | 3 => i3 | 4 => i4 | 5 => i5 | 6 => i6 | 7 => i7 | 8 => i8 | 9 => i9 | 10 => i10 | 11 => i11 | 12 => i12 | _ => i13), fun c q hq => ?_⟩
  match c, hq with
  | 0, hq => cases hq; exact K0
  | 1, hq => cases hq; exact K1
  | 2, hq => cases hq; exact K2
  | 3, hq => cases hq; exact K3
  | 4, hq => cases hq; exact K4
  | 5, hq => cases hq; exact K5
  | 6, hq => cases hq; exact K6
  | 7, hq => cases hq; exact K7
  | 8, hq => cases hq; exact K8
  | 9, hq => cases hq; exact K9
  | 10, hq => cases hq; exact K10
  | 11, hq => cases hq; exact K11
  | 12, hq => cases hq; exact K12
  | 13, hq => cases hq; exact K13
  | n + 14, hq => simp [vwCl] at hq
theorem KS_of {p : Program} {s : State} {m : MethodId} {meth : Method} {c : Code} {b L : Nat} {xs : Nat → Int32} (C0 : lw_At p s m meth c b L xs) : ∃ G : GE, G.1 = s.heap.size ∧ G.2.1 28 = b ∧ G.2.1 100 = L ∧ KS G s := by
  obtain ⟨-, -, -, -, -, hts, hX, hbl, -, hgv⟩ := id C0
  have hA : ∀ a : Nat, a < s.heap.size → ¬ (fun q : Nat => s.heap.size ≤ q) a := fun a h => Nat.not_le.mpr h
  have P : ∀ {k : Nat} {w : Cond}, inP k w = true → w.before #[Value.ref b] s = true := fun {k w} h => flat_of_before _ hgv _ (List.mem_of_getElem? (of_decide_eq_true h))
  have T : ∀ {k : Nat} {w : Cond}, inT k w = true → w.before #[Value.ref b] s = true := fun {k w} h => hts _ (List.mem_append_right _ (List.mem_of_getElem? (of_decide_eq_true h)))
  have hg : ∀ w ∈ gT, w.before #[Value.ref b] s = true := fun w h => hts w (List.mem_filter.mp h).1
  obtain ⟨D, hD⟩ := cl_of hg T
  have w1 : ∀ i : Nat, i < 13 → _ := fun i hi => List.all_eq_true.mp sw_1 i (List.mem_range.mpr hi)
  simp only [Bool.and_eq_true] at w1
  obtain ⟨adK, adV, hS, hSe⟩ := vk_Sof (s := s) (args := #[Value.ref b]) (N := 13) (tm := tmS) (len := strLen) (byt := strByt) (A := fun q : Nat => s.heap.size ≤ q) (by decide) (fun i hi => P (w1 i hi).1.1.1) (fun i hi => P (w1 i hi).1.1.2) (fun i hi => P (w1 i hi).1.2) (fun i hi => P (w1 i hi).2) (fun i hi j hj => P (List.all_eq_true.mp (List.all_eq_true.mp sw_2 i (List.mem_range.mpr hi)) j (List.mem_range.mpr hj))) (fun i j hi hj hij => by
    rcases Nat.lt_or_gt_of_ne hij with h | h
    · obtain ⟨k, hk⟩ := sw_3 j hj i h
      exact Or.inl (P hk)
    · obtain ⟨k, hk⟩ := sw_3 i hi j h
      exact Or.inr (P hk)) hA
  obtain ⟨aA, eA, tA⟩ := va_Tof (s := s) (args := #[Value.ref b]) (tm := tmA) (ty := .int) (N := 6) (f := fun j => .int (ansL.getD j 0)) (A := fun q : Nat => s.heap.size ≤ q) (by decide) (P sv_Aa) (ev_eq (P sv_Al)) (fun j hj => ev_eq (P (List.all_eq_true.mp sw_5 j (List.mem_range.mpr hj)))) hA
  obtain ⟨aE, eE, tE⟩ := va_Tof (s := s) (args := #[Value.ref b]) (tm := tmE) (ty := .object "java/lang/Object") (N := 0) (f := fun _ => .null) (A := fun q : Nat => s.heap.size ≤ q) (by decide) (P sv_Ea) (ev_eq (P sv_El)) (fun j hj => absurd hj (Nat.not_lt_zero j)) hA
  have zA := va_Zref (T sv_lA) (T sv_iA) eA hA
  have zE := va_Zref (T sv_lE) (T sv_iE) eE hA
  have zC := va_Zof (T sv_lC) (T sv_iC) (va_eqi (P sv_CS)) hA
  have zQ := va_Zqof (T sv_lS) (T sv_iS) (P sv_SI) hA
  obtain ⟨v, zS, hv⟩ : ∃ v : Value, va_Z "jdk/internal/util/Preconditions" "SIOOBE_FORMATTER" "Ljava/util/function/BiFunction;" v (fun q : Nat => s.heap.size ≤ q) s s.heap ∧ (v = .null ∨ ∃ t : Nat, v = .ref t) := by
    rcases zQ with z | ⟨t, z⟩
    · exact ⟨_, z, Or.inl rfl⟩
    · exact ⟨_, z, Or.inr ⟨t, rfl⟩⟩
  obtain ⟨c15, a15, f15⟩ := ac_of (T sv_aI) (fun C h => by cases h)
  obtain ⟨c16, a16, f16⟩ := ac_of (T sv_aJ) (fun C h => by cases h)
  obtain ⟨c17, a17, f17⟩ := ac_of (T sv_aZ) (fun C h => by cases h)
  obtain ⟨c18, a18, f18⟩ := ao_of (T sv_oO)
  have hAO : AOa s := AOa.of (T sv_oI)
  obtain ⟨c19, a19, f19⟩ := hAO.ar
  obtain ⟨cell, x1, x2, x3, x4, x5⟩ := hX
  refine ⟨(s.heap.size, adf adK adV aA aE b L xs, v, D, acf c15 c16 c17 c18 c19), rfl, rfl, rfl, ⟨hD, ?_⟩, ?_, ?_, ?_, ⟨T sv_oO, hAO, cell, x1, x2, x3, Nat.le_of_eq x4.symm, by rw [x4]; rfl, fun j hj => ?_, hA b hbl⟩, ?_, ?_, tA, zA, tE, zE, zC, zS, hv⟩
  · intro k q hq
    match k, hq with
    | 0, hq => cases hq; exact ⟨a15, f15⟩
    | 1, hq => cases hq; exact ⟨a16, f16⟩
    | 2, hq => cases hq; exact ⟨a17, f17⟩
    | 3, hq => cases hq; exact ⟨a18, f18⟩
    | 4, hq => cases hq; exact ⟨a19, f19⟩
    | n + 5, hq => simp [tysG] at hq
  · intro q hq
    obtain ⟨i, hi⟩ := List.getElem?_of_mem hq
    have a := List.all_eq_true.mp sw_6 i (List.mem_range.mpr (List.getElem?_eq_some_iff.mp hi).1)
    rw [hi] at a
    exact va_Nw.of rfl (T a)
  · intro q hq
    obtain ⟨i, hi⟩ := List.getElem?_of_mem hq
    have a := List.all_eq_true.mp sw_7 i (List.mem_range.mpr (List.getElem?_eq_some_iff.mp hi).1)
    rw [hi] at a
    exact va_Nw.of rfl (T a)
  · intro q hq
    obtain ⟨i, hi⟩ := List.getElem?_of_mem hq
    have a := List.all_eq_true.mp sw_8 i (List.mem_range.mpr (List.getElem?_eq_some_iff.mp hi).1)
    rw [hi] at a
    exact va_Nc.of (P a)
  · rw [x5 j hj]
    exact congrArg (fun z => some (Value.int z)) adf_X.symm
  · intro i q hq
    have hi : i < 13 := (List.getElem?_eq_some_iff.mp hq).1
    have a := List.all_eq_true.mp sw_4 i (List.mem_range.mpr hi)
    have e := hSe i hi
    have g : strL.getD i ("", 0, "") = q := by rw [List.getD_eq_getElem?_getD, hq]; rfl
    unfold tmS at e
    rw [g] at a e
    refine vk_R.of (T a) (e.trans ?_)
    exact congrArg (fun z => some (Value.ref z)) (adf_K hi).symm
  · refine ⟨fun i hi => ?_, fun i j hi hj e => ?_⟩
    · have z := hS.1 i hi
      show va_O "java/lang/String" (adf adK adV aA aE b L xs i) _ s s.heap ∧ va_OF "java/lang/String" "coder" "B" (.int 0) (adf adK adV aA aE b L xs i) _ s s.heap ∧ va_OF "java/lang/String" "value" "[B" (.ref (adf adK adV aA aE b L xs (13 + i))) (adf adK adV aA aE b L xs i) _ s s.heap ∧ va_T .byte (adf adK adV aA aE b L xs (13 + i)) _ _ _ s s.heap
      rw [adf_K hi, adf_V hi]
      exact z
    · have e' : adf adK adV aA aE b L xs i = adf adK adV aA aE b L xs j := e
      rw [adf_K hi, adf_K hj] at e'
      exact hS.2 i j hi hj e'
