/-! ===== hand, set, told, wins, taken ===== -/
def okHand (x y v : Int32) : Bool := inZ x.toInt (-5) 5 && inZ y.toInt (-5) 5 && inZ v.toInt 0 5
def rowH (x y v : Int32) : Nat → Int32 := fun f => if f = 0 then x else if f = 1 then y else v
def a_hand (S : TB) (x y v : Int32) : Int32 := if okHand x y v = true then (if S.1 = 6 then -4 else nI S.1) else -2
def u_hand (S : TB) (x y v : Int32) : TB := if okHand x y v = true then (if S.1 = 6 then S else tpush S (rowH x y v)) else S
theorem okH_f {x y v : Int32} (ok : ¬ okHand x y v = true) : inZ x.toInt (-5) 5 = false ∨ (inZ x.toInt (-5) 5 = true ∧ inZ y.toInt (-5) 5 = false) ∨ (inZ x.toInt (-5) 5 = true ∧ inZ y.toInt (-5) 5 = true ∧ inZ v.toInt 0 5 = false) := by
  simp only [okHand] at ok
  revert ok
  cases inZ x.toInt (-5) 5 <;> cases inZ y.toInt (-5) 5 <;> cases inZ v.toInt 0 5 <;> simp
theorem M_hand {S : TB} {h : HS} (hS : Mha S h) (x y v : Int32) : ∃ h', f_X12_hand x y v h = some (a_hand S x y v, h') ∧ Mha (u_hand S x y v) h' ∧ Fr 2 h h' := by
  obtain ⟨hn, h8, hr⟩ := hS
  have e5 : (5 : Int64).toInt = 5 := rfl
  have e5' : (-5 : Int64).toInt = -5 := rfl
  have e0 : (0 : Int64).toInt = 0 := rfl
  by_cases ok : okHand x y v = true
  · have ok2 := ok
    simp only [okHand, Bool.and_eq_true] at ok2
    obtain ⟨⟨o1, o2⟩, o3⟩ := ok2
    by_cases h9 : S.1 = 6
    · refine ⟨h, ?_, by rw [u_hand, if_pos ok, if_pos h9]; exact ⟨hn, h8, hr⟩, Fr.rf⟩
      unfold f_X12_hand
      simp only [f_in_eq, Int32.toInt_toInt64, e5, e5', e0, o1, o2, o3, Option.bind_some, if_true, a_hand, ok, h9, hn]
      rfl
    · have hlt : S.1 < 6 := by omega
      have hx := ixb_n hlt (by decide)
      have hc : (nI S.1).toNatClampNeg = S.1 := nI_clamp (by omega)
      have h8' : ¬ nI S.1 = 6 := by rw [show (6 : Int32) = nI 6 from rfl, nI_eq (by omega) (by decide)]; omega
      refine ⟨_, by
        unfold f_X12_hand
        simp (config := { decide := true }) only [f_in_eq, Int32.toInt_toInt64, e5, e5', e0, o1, o2, o3, Option.bind_some, if_true, a_hand, ok, h9, hn, bh_eq, hI_sI, hI_sL, hI_sR, hL_sI, hL_sL, hL_sR, hR_sI, hR_sL, hR_sR, hT_sI, hT_sL, hT_sR, hLn_sI, hLn_sL, hLn_sR, hN_sI, hN_sL, hN_sR, h8', hx, hc, if_false, nI_1, nI_pred]
        rfl, ?_, ?_⟩
      · rw [u_hand, if_pos ok, if_neg h9]
        refine ⟨by simp [hI_sI, hI_sL, hI_sR, hL_sI, hL_sL, hL_sR, hR_sI, hR_sL, hR_sR, hT_sI, hT_sL, hT_sR, hLn_sI, hLn_sL, hLn_sR, hN_sI, hN_sL, hN_sR, tpush], by simp [tpush]; omega, fun i hi => ?_⟩
        simp only [tpush] at hi
        by_cases e : i = S.1
        · subst e; simp [hI_sI, hI_sL, hI_sR, hL_sI, hL_sL, hL_sR, hR_sI, hR_sL, hR_sR, hT_sI, hT_sL, hT_sR, hLn_sI, hLn_sL, hLn_sR, hN_sI, hN_sL, hN_sR, tpush, rowH]
        · have := hr i (by omega)
          simp [hI_sI, hI_sL, hI_sR, hL_sI, hL_sL, hL_sR, hR_sI, hR_sL, hR_sR, hT_sI, hT_sL, hT_sR, hLn_sI, hLn_sL, hLn_sR, hN_sI, hN_sL, hN_sR, tpush, e, this]
      · (repeat (first | exact Fr.rf | assumption | refine Fr.sI ?_ (by first | exact Or.inl rfl | exact Or.inr rfl) | refine Fr.sL ?_ (by first | exact Or.inl rfl | exact Or.inr rfl)))
  · refine ⟨h, ?_, by rw [u_hand, if_neg ok]; exact ⟨hn, h8, hr⟩, Fr.rf⟩
    unfold f_X12_hand a_hand
    simp only [f_in_eq, Int32.toInt_toInt64, e5, e5', e0, Option.bind_some]
    rw [if_neg ok]
    rcases okH_f ok with q | ⟨q1, q2⟩ | ⟨q1, q2, q3⟩
    · simp [q]
    · simp [q1, q2]
    · simp [q1, q2, q3]
def iniH (a : Nat) (x y v : Int32) (h : HS) : HS := sI (sI (sI (sI (sI h a 0 x) a 1 y) a 2 v) a 3 (2 * v + 1)) a 4 ((2 * v + 1) * (2 * v + 1))
theorem X_hand {S : TB} {tg : Nat → Nat} {h : HS} (hX : Xha S tg h) (hw : Wx tg h) (x y v : Int32) : ∃ (h' : HS) (tg' : Nat → Nat), f_X11_hand x y v h = some (a_hand S x y v, h') ∧ Xha (u_hand S x y v) tg' h' ∧ Wx tg' h' ∧ (∀ b, b < hN h → tg' b = tg b) ∧ Fx (fun b => b = 34 ∨ tg b = 2) h h' := by
  have e5 : (5 : Int32).toInt = 5 := rfl
  have e5' : (-5 : Int32).toInt = -5 := rfl
  by_cases ok : okHand x y v = true
  · have ok2 := ok
    simp only [okHand, Bool.and_eq_true] at ok2
    obtain ⟨⟨o1, o2⟩, o3⟩ := ok2
    have hX0 := hX
    obtain ⟨h6, el, hl, ho⟩ := hX
    have hz := hw.2.1 (hN h) (Nat.le_refl _)
    by_cases h9 : S.1 = 6
    · refine ⟨h, tg, ?_, by rw [u_hand, if_pos ok, if_pos h9]; exact hX0, hw, fun _ _ => rfl, Fx.rf⟩
      unfold f_X11_hand
      have h8' : ¬ nI 6 < 6 := by decide
      simp only [f_isIn_eq, e5, e5', z_0, o1, o2, o3, Option.bind_some, if_true, a_hand, ok, h9, if_pos hl.1, hl.size, if_neg h8']
    · have hlt : S.1 < 6 := by omega
      have h8' : nI S.1 < 6 := by rw [show (6 : Int32) = nI 6 from rfl]; exact nI_lt hlt (by decide)
      have F1 : Fx (fun _ => False) h (iniH (hN h) x y v (hNew h 5 0 5)) := by
        unfold iniH
        refine Fx.sI (Fx.sI (Fx.sI (Fx.sI (Fx.sI (Fx.nw Fx.rf hz) ?_) ?_) ?_) ?_) ?_ <;> exact Or.inr (Nat.le_refl _)
      have hini : f_X3_init (hN h) x y v (hNew h 5 0 5) = some (iniH (hN h) x y v (hNew h 5 0 5)) := by
        unfold f_X3_init iniH
        simp (config := { decide := true }) only [bh_eq, hT_nw, if_true, hI_sI, hI_sL, hI_sR, hL_sI, hL_sL, hL_sR, hR_sI, hR_sL, hR_sR, hT_sI, hT_sL, hT_sR, hLn_sI, hLn_sL, hLn_sR, hN_sI, hN_sL, hN_sR]
      generalize hh1 : iniH (hN h) x y v (hNew h 5 0 5) = h1 at F1 hini
      have hN1 : hN h1 = hN h + 1 := by rw [← hh1]; rfl
      have hw1 : Wx (fun b => if b = hN h then 20 + S.1 else tg b) h1 := by
        refine ⟨fun b hb => ?_, fun b hb => ?_, by rw [hN1]; have := hw.2.2; omega⟩
        · rw [hN1]
          by_cases e : b = hN h
          · have := hw.2.2; omega
          · have h5 := hw.1 b (by simpa only [if_neg e] using hb); omega
        · rw [hN1] at hb
          rw [← hh1]
          simp only [iniH, hI_sI, hI_sL, hI_sR, hL_sI, hL_sL, hL_sR, hR_sI, hR_sL, hR_sR, hT_sI, hT_sL, hT_sR, hLn_sI, hLn_sL, hLn_sR, hN_sI, hN_sL, hN_sR, hT_nw, if_neg (show ¬ b = hN h by omega)]
          exact hw.2.1 b (by omega)
      have ht1 : ∀ b, b < hN h → (fun b => if b = hN h then 20 + S.1 else tg b) b = tg b := fun b hb => if_neg (by omega)
      have hl1 := hl.fx F1 (by have := hw.2.2; omega) ht1 hw (by decide) (fun q => q) (fun _ _ q => q)
      have hTn : hT h1 (hN h) = 5 := by rw [← hh1]; simp only [iniH, hI_sI, hI_sL, hI_sR, hL_sI, hL_sL, hL_sR, hR_sI, hR_sL, hR_sR, hT_sI, hT_sL, hT_sR, hLn_sI, hLn_sL, hLn_sR, hN_sI, hN_sL, hN_sR, hT_nw, if_true]
      obtain ⟨h2, tg2, q1, q2, q3, q4, q5, q6⟩ := hl1.add hw1 (Or.inr (Or.inl rfl)) (by decide) (by omega) (a := hN h) (by rw [hTn]; rfl)
      have hN0 : hN h < hN h1 := by omega
      refine ⟨h2, tg2, ?_, ?_, q3, fun b hb => (q4 b (by omega)).trans (ht1 b hb), ?_⟩
      · unfold f_X11_hand
        simp only [f_isIn_eq, e5, e5', z_0, o1, o2, o3, Option.bind_some, if_true, a_hand, ok, if_pos hl.1, hl.size, if_pos h8', if_pos hz, bh_eq, hini, q1, q2.size, nI_pred, if_neg h9]
      · rw [u_hand, if_pos ok, if_neg h9]
        refine ⟨by show S.1 + 1 ≤ 6; omega, _, q2, fun i hi => ?_⟩
        have hi' : i < S.1 + 1 := hi
        by_cases e : i = S.1
        · subst e
          have o : Oha (tpush S (rowH x y v)) (fun b => if b = hN h then 20 + S.1 else tg b) h1 S.1 (hN h) := by
            refine ⟨if_pos rfl, hTn, ?_, ?_, ?_, ?_, ?_⟩
            all_goals (rw [← hh1]; simp [iniH, hI_sI, hI_sL, hI_sR, hL_sI, hL_sL, hL_sR, hR_sI, hR_sL, hR_sR, hT_sI, hT_sL, hT_sR, hLn_sI, hLn_sL, hLn_sR, hN_sI, hN_sL, hN_sR, tpush, rowH])
          simp only [if_true]
          exact o.fx hw1 q6 q4 (fun q => by
            rcases q with q | q
            · have := hw.2.2; omega
            · simp only [if_true] at q; omega)
        · simp only [if_neg e]
          have o := ho i (by omega)
          have o2 : Oha (tpush S (rowH x y v)) tg h i (el i) := by
            simp only [Oha, tpush, if_neg e]; exact o
          have hlt2 := (hw.1 (el i) (by have := o.1; omega)).2
          refine (o2.fx hw F1 ht1 (fun q => q)).fx hw1 q6 q4 (fun q => ?_)
          rcases q with q | q
          · have := hw.1 (el i) (by have := o.1; omega); omega
          · simp only [if_neg (show ¬ el i = hN h by omega), o.1] at q; omega
      · refine (F1.mono (fun _ _ q => q.elim)).tr ?_
        refine ⟨q6.1, fun b hb hA => q6.2 b hb (fun q => hA ?_)⟩
        rcases q with q | q
        · exact Or.inl q
        · by_cases e : b = hN h
          · simp only [if_pos e] at q; omega
          · simp only [if_neg e] at q; exact Or.inr q
  · refine ⟨h, tg, ?_, by rw [u_hand, if_neg ok]; exact hX, hw, fun _ _ => rfl, Fx.rf⟩
    unfold f_X11_hand a_hand
    rw [if_neg ok]
    simp only [f_isIn_eq, e5, e5', z_0, Option.bind_some]
    rcases okH_f ok with q | ⟨q1, q2⟩ | ⟨q1, q2, q3⟩
    · simp [q]
    · simp [q1, q2]
    · simp [q1, q2, q3]
def a_wins (S : TB) (s a b : Int32) : Int32 := if (inZ s.toInt 0 (S.1 - 1) && inZ a.toInt (-40) 40 && inZ b.toInt (-40) 40) = true then (if wonZ (S.2 0 s.toNatClampNeg).toInt (S.2 2 s.toNatClampNeg).toInt (S.2 6 s.toNatClampNeg).toInt a.toInt b.toInt = true then 1 else 0) else -2
theorem M_wins {S : TB} {h : HS} (hS : Mst S h) (hW : Wst S) (s a b : Int32) : f_X12_wins s a b h = some (a_wins S s a b) := by
  have e1 : (40 : Int64).toInt = 40 := rfl
  have e2 : (-40 : Int64).toInt = -40 := rfl
  unfold f_X12_wins a_wins
  simp only [M_isStall hS, Option.bind_some, f_in_eq, Int32.toInt_toInt64, e1, e2]
  rcases ix_case s S.1 with ⟨i, hi, rfl, hz⟩ | hz
  · have h8 := hS.2.1
    have hx := ixb_n (i := i) (n := 8) (by omega) (by decide)
    have hc : (nI i).toNatClampNeg = i := nI_clamp (by omega)
    obtain ⟨r0, r1, r2, r3, r4, r5, r6⟩ := hS.2.2 i hi
    obtain ⟨w0, w1, w2, w3, w4, w5, w6⟩ := hW i hi
    simp only [hz, if_true, hx, hc, r0, r2, r6, Bool.true_and]
    cases ha : inZ a.toInt (-40) 40
    · simp
    cases hb : inZ b.toInt (-40) 40
    · simp
    have ha' := inZ_t.mp ha
    have hb' := inZ_t.mp hb
    simp only [if_true, Bool.true_and]
    rw [M_won w0 w2 w6 (by omega) (by omega), Option.bind_some]
    split <;> simp [*]
  · simp [hz]
theorem Ost.won {S : TB} {tg : Nat → Nat} {h : HS} {i p : Nat} (o : Ost S tg h i p) (hW : Wst S) (hi : i < S.1) {e a b : Int32} (he : 0 ≤ e.toInt ∧ e.toInt ≤ 1) (ha : -1000 ≤ a.toInt ∧ a.toInt ≤ 1000) (hb : -1000 ≤ b.toInt ∧ b.toInt ≤ 1000) : f_V_pays p a b e h = some (wonZ (S.2 0 i).toInt (S.2 2 i).toInt e.toInt a.toInt b.toInt) := by
  obtain ⟨w0, w1, w2, w3, w4, w5, w6⟩ := hW i hi
  exact X_won o.2.1 o.2.2.2.2.2.1 w0 w2 he ha hb
theorem X_wins {S : TB} {tg : Nat → Nat} {h : HS} (hX : Xst S tg h) (hW : Wst S) (s a b : Int32) : f_X11_wins s a b h = some (a_wins S s a b) := by
  have e1 : (40 : Int32).toInt = 40 := rfl
  have e2 : (-40 : Int32).toInt = -40 := rfl
  unfold f_X11_wins a_wins
  rcases X_stallAt hX s with ⟨i, p, hi, rfl, hz, hf, o, -⟩ | ⟨hz, hf⟩
  · obtain ⟨el, hl, -⟩ := hX
    have h8 := hl.2.2.1
    have hc : (nI i).toNatClampNeg = i := nI_clamp (by omega)
    have hb7 : hI h p 7 = S.2 6 i := o.2.2.2.2.2.2.2.2.2
    obtain ⟨w0, w1, w2, w3, w4, w5, w6⟩ := hW i hi
    simp only [hf, hz, hc, Option.bind_some, om_some, f_isIn_eq, e1, e2, Bool.true_and, o.2.1, kcl_st, if_true, hb7]
    cases ha : inZ a.toInt (-40) 40
    · simp
    cases hb : inZ b.toInt (-40) 40
    · simp
    have ha' := inZ_t.mp ha
    have hb' := inZ_t.mp hb
    simp only [if_true, Bool.true_and]
    rw [o.won hW hi w6 (by omega) (by omega), Option.bind_some]
    unfold f_X11_asBit
    split <;> simp [*]
  · simp [hz, hf, om_none]
def under (K k : Int32) : Bool := k == 0 || K == k || (K == 3 && k == 2) || (K == 5 && k == 1)
def a_taken (S : TB) (s k : Int32) : Int32 := if inZ k.toInt 0 5 = true then (if inZ s.toInt 0 (S.1 - 1) = true then (if under (S.2 0 s.toNatClampNeg) k = true then S.2 3 s.toNatClampNeg else -13) else -11) else -2
theorem M_over (y1 : Int32) (h : HS) {K k : Int32} (hK : 0 ≤ K.toInt ∧ K.toInt ≤ 5) (hk : 0 ≤ k.toInt ∧ k.toInt ≤ 5) : ∃ x, l_X12_taken_33 y1 k h 1000 K = some x ∧ (x = k ↔ under K k = true) := by
  rcases k6 hK with q | q | q | q | q | q <;> rcases k6 hk with z | z | z | z | z | z <;> subst q <;> subst z <;> exact ⟨_, rfl, by decide⟩
theorem M_taken {S : TB} {h : HS} (hS : Mst S h) (hW : Wst S) (s k : Int32) : f_X12_taken s k h = some (a_taken S s k) := by
  have e1 : (5 : Int64).toInt = 5 := rfl
  have e2 : (0 : Int64).toInt = 0 := rfl
  unfold f_X12_taken a_taken
  simp only [M_isStall hS, Option.bind_some, f_in_eq, Int32.toInt_toInt64, e1, e2]
  cases hk : inZ k.toInt 0 5
  · simp
  have hk' := inZ_t.mp hk
  simp only [if_true]
  rcases ix_case s S.1 with ⟨i, hi, rfl, hz⟩ | hz
  · have h8 := hS.2.1
    have hx := ixb_n (i := i) (n := 8) (by omega) (by decide)
    have hc : (nI i).toNatClampNeg = i := nI_clamp (by omega)
    obtain ⟨r0, r1, r2, r3, r4, r5, r6⟩ := hS.2.2 i hi
    obtain ⟨w0, w1, w2, w3, w4, w5, w6⟩ := hW i hi
    obtain ⟨x, x1, x2⟩ := M_over (nI i) h w0 hk'
    simp only [hz, if_true, hx, hc, r0, r3, x1, Option.bind_some]
    by_cases c : x = k
    · rw [if_pos c, if_pos (x2.mp c)]
    · rw [if_neg c, if_neg (fun q => c (x2.mpr q))]
  · simp [hz]
theorem X_under {h : HS} {p : Nat} {K k : Int32} (hT0 : hT h p = kcl K) (hK : 0 ≤ K.toInt ∧ K.toInt ≤ 5) (hk : 0 ≤ k.toInt ∧ k.toInt ≤ 5) : f_X11_isUnder p k h = some (under K k) := by
  unfold f_X11_isUnder
  rw [hT0]
  rcases k6 hK with q | q | q | q | q | q <;> rcases k6 hk with z | z | z | z | z | z <;> subst q <;> subst z <;> rfl
theorem X_taken {S : TB} {tg : Nat → Nat} {h : HS} (hX : Xst S tg h) (hW : Wst S) (s k : Int32) : f_X11_taken s k h = some (a_taken S s k) := by
  have e1 : (5 : Int32).toInt = 5 := rfl
  unfold f_X11_taken a_taken
  simp only [f_isIn_eq, e1, z_0, Option.bind_some]
  cases hk : inZ k.toInt 0 5
  · simp
  have hk' := inZ_t.mp hk
  simp only [if_true]
  rcases X_stallAt hX s with ⟨i, p, hi, rfl, hz, hf, o, -⟩ | ⟨hz, hf⟩
  · obtain ⟨el, hl, -⟩ := hX
    have h8 := hl.2.2.1
    have hc : (nI i).toNatClampNeg = i := nI_clamp (by omega)
    obtain ⟨w0, w1, w2, w3, w4, w5, w6⟩ := hW i hi
    have hp : hI h p 4 = S.2 3 i := o.2.2.2.2.2.2.1
    simp only [hf, hz, hc, Option.bind_some, om_some, X_under o.2.1 w0 hk', if_true, o.2.1, kcl_st, hp]
    split <;> rfl
  · simp [hz, hf, om_none]
