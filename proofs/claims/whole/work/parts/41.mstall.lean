/-! ===== the reference: stalls and hands ===== -/
def Mst (S : TB) (h : HS) : Prop := hI h 60 14 = nI S.1 ∧ S.1 ≤ 8 ∧ ∀ i, i < S.1 → hI h 64 i = S.2 0 i ∧ hI h 65 i = S.2 1 i ∧ hI h 66 i = S.2 2 i ∧ hI h 67 i = S.2 3 i ∧ hI h 68 i = S.2 4 i ∧ hI h 69 i = S.2 5 i ∧ hI h 70 i = S.2 6 i
def Mha (S : TB) (h : HS) : Prop := hI h 60 18 = nI S.1 ∧ S.1 ≤ 6 ∧ ∀ i, i < S.1 → hI h 71 i = S.2 0 i ∧ hI h 72 i = S.2 1 i ∧ hI h 73 i = S.2 2 i
def Wst (S : TB) : Prop := ∀ i, i < S.1 → (0 ≤ (S.2 0 i).toInt ∧ (S.2 0 i).toInt ≤ 5) ∧ plB (S.2 1 i) = true ∧ (0 ≤ (S.2 2 i).toInt ∧ (S.2 2 i).toInt ≤ 9) ∧ (1 ≤ (S.2 3 i).toInt ∧ (S.2 3 i).toInt ≤ 99) ∧ (0 ≤ (S.2 4 i).toInt ∧ (S.2 4 i).toInt ≤ 999) ∧ (0 ≤ (S.2 5 i).toInt ∧ (S.2 5 i).toInt ≤ 999) ∧ (0 ≤ (S.2 6 i).toInt ∧ (S.2 6 i).toInt ≤ 1)
def Wha (S : TB) : Prop := ∀ i, i < S.1 → (-5 ≤ (S.2 0 i).toInt ∧ (S.2 0 i).toInt ≤ 5) ∧ (-5 ≤ (S.2 1 i).toInt ∧ (S.2 1 i).toInt ≤ 5) ∧ (0 ≤ (S.2 2 i).toInt ∧ (S.2 2 i).toInt ≤ 5)
theorem cnt_pred {n : Nat} (h : n ≤ 1000) : (nI n - (1 : Int32)).toInt64.toInt = (n : Int) - 1 := by
  rw [Int32.toInt_toInt64, i32_subZ (by rw [nI_Z (by omega)]; simp; omega) (by rw [nI_Z (by omega)]; simp; omega), nI_Z (by omega)]
  rfl
theorem M_isStall {S : TB} {h : HS} (hS : Mst S h) (s : Int32) : f_X12_isStall s h = some (inZ s.toInt 0 (S.1 - 1)) := by
  unfold f_X12_isStall
  rw [f_in_eq, hS.1, cnt_pred (by have := hS.2.1; omega)]
  simp
theorem M_isHand {S : TB} {h : HS} (hS : Mha S h) (s : Int32) : f_X12_isHand s h = some (inZ s.toInt 0 (S.1 - 1)) := by
  unfold f_X12_isHand
  rw [f_in_eq, hS.1, cnt_pred (by have := hS.2.1; omega)]
  simp
theorem M_isPart (s : Int32) : f_X12_isPart s = some (inZ s.toInt 0 1) := by
  unfold f_X12_isPart
  rw [f_in_eq]
  simp
theorem M_isSheet (s : Int32) : f_X12_isSheet s = some (inZ s.toInt 0 3) := by
  unfold f_X12_isSheet
  rw [f_in_eq]
  simp
def okStall (k p z c : Int32) : Bool := inZ k.toInt 0 5 && plB p && inZ z.toInt 0 9 && inZ c.toInt 1 99
def rowS (k p z c : Int32) : Nat → Int32 := fun f => if f = 0 then k else if f = 1 then p else if f = 2 then z else if f = 3 then c else 0
def a_stall (S : TB) (k p z c : Int32) : Int32 := if okStall k p z c = true then (if S.1 = 8 then -4 else nI S.1) else -2
def u_stall (S : TB) (k p z c : Int32) : TB := if okStall k p z c = true then (if S.1 = 8 then S else tpush S (rowS k p z c)) else S
theorem M_stall {S : TB} {h : HS} (hS : Mst S h) (k p z c : Int32) : ∃ h', f_X12_stall k p z c h = some (a_stall S k p z c, h') ∧ Mst (u_stall S k p z c) h' ∧ Fr 1 h h' := by
  obtain ⟨hn, h8, hr⟩ := hS
  have e5 : (5 : Int64).toInt = 5 := rfl
  have e9 : (9 : Int64).toInt = 9 := rfl
  have e0 : (0 : Int64).toInt = 0 := rfl
  have e1 : (1 : Int64).toInt = 1 := rfl
  have e99 : (99 : Int64).toInt = 99 := rfl
  by_cases ok : okStall k p z c = true
  · have ok2 := ok
    simp only [okStall, Bool.and_eq_true] at ok2
    obtain ⟨⟨⟨o1, o2⟩, o3⟩, o4⟩ := ok2
    by_cases h9 : S.1 = 8
    · refine ⟨h, ?_, by rw [u_stall, if_pos ok, if_pos h9]; exact ⟨hn, h8, hr⟩, Fr.rf⟩
      unfold f_X12_stall
      simp only [f_in_eq, f_pl12_eq, Int32.toInt_toInt64, e5, e9, e0, e1, e99, o1, o2, o3, o4, Option.bind_some, if_true, a_stall, ok, h9, hn]
      rfl
    · have hlt : S.1 < 8 := by omega
      have hx := ixb_n hlt (by decide)
      have hc : (nI S.1).toNatClampNeg = S.1 := nI_clamp (by omega)
      have h8' : ¬ nI S.1 = 8 := by rw [show (8 : Int32) = nI 8 from rfl, nI_eq (by omega) (by decide)]; omega
      refine ⟨_, by
        unfold f_X12_stall
        simp (config := { decide := true }) only [f_in_eq, f_pl12_eq, Int32.toInt_toInt64, e5, e9, e0, e1, e99, o1, o2, o3, o4, Option.bind_some, if_true, a_stall, ok, h9, hn, bh_eq, hI_sI, hI_sL, hI_sR, hL_sI, hL_sL, hL_sR, hR_sI, hR_sL, hR_sR, hT_sI, hT_sL, hT_sR, hLn_sI, hLn_sL, hLn_sR, hN_sI, hN_sL, hN_sR, h8', hx, hc, if_false, nI_1, nI_pred]
        rfl, ?_, ?_⟩
      · rw [u_stall, if_pos ok, if_neg h9]
        refine ⟨by simp [hI_sI, hI_sL, hI_sR, hL_sI, hL_sL, hL_sR, hR_sI, hR_sL, hR_sR, hT_sI, hT_sL, hT_sR, hLn_sI, hLn_sL, hLn_sR, hN_sI, hN_sL, hN_sR, tpush], by simp [tpush]; omega, fun i hi => ?_⟩
        simp only [tpush] at hi
        by_cases e : i = S.1
        · subst e; simp [hI_sI, hI_sL, hI_sR, hL_sI, hL_sL, hL_sR, hR_sI, hR_sL, hR_sR, hT_sI, hT_sL, hT_sR, hLn_sI, hLn_sL, hLn_sR, hN_sI, hN_sL, hN_sR, tpush, rowS]
        · have := hr i (by omega)
          simp [hI_sI, hI_sL, hI_sR, hL_sI, hL_sL, hL_sR, hR_sI, hR_sL, hR_sR, hT_sI, hT_sL, hT_sR, hLn_sI, hLn_sL, hLn_sR, hN_sI, hN_sL, hN_sR, tpush, e, this]
      · (repeat (first | exact Fr.rf | assumption | refine Fr.sI ?_ (by first | exact Or.inl rfl | exact Or.inr rfl) | refine Fr.sL ?_ (by first | exact Or.inl rfl | exact Or.inr rfl)))
  · refine ⟨h, ?_, by rw [u_stall, if_neg ok]; exact ⟨hn, h8, hr⟩, Fr.rf⟩
    unfold f_X12_stall a_stall
    simp only [f_in_eq, f_pl12_eq, Int32.toInt_toInt64, e5, e9, e0, e1, e99, Option.bind_some]
    rw [if_neg ok]
    simp only [okStall] at ok
    revert ok
    cases inZ k.toInt 0 5 <;> cases plB p <;> cases inZ z.toInt 0 9 <;> cases inZ c.toInt 1 99 <;> simp
