/-! ===== texts: what a text's code comes to ===== -/
def Stk (h : HS) (sa : Nat) : List Int32 → Prop
  | [] => True
  | v :: r => hI h sa r.length = v ∧ Stk h sa r
theorem Stk.set {h : HS} {sa k : Nat} {v : Int32} : ∀ {st : List Int32}, Stk h sa st → st.length ≤ k → Stk (sI h sa k v) sa st := by
  intro st
  induction st with
  | nil => intro _ _; trivial
  | cons a r ih =>
    intro hs hk
    have hk' : r.length + 1 ≤ k := hk
    exact ⟨by rw [hI_sI, if_pos rfl, if_neg (by omega)]; exact hs.1, ih hs.2 (by omega)⟩
/-- a text's object, its code and its stack -/
def Otx0 (q : List Int32 × List Int32 × List Int32) (h : HS) (a ca sa : Nat) : Prop := hT h a = 11 ∧ hR h a 0 = some ca ∧ hR h a 1 = some sa ∧ hT h ca = 15 ∧ hT h sa = 15 ∧ hLn h ca = q.1.length + q.2.1.length + q.2.2.length ∧ hLn h sa = q.1.length + q.2.1.length + q.2.2.length ∧ hI h a 2 = nI q.1.length ∧ hI h a 3 = nI (q.1.length + q.2.1.length) ∧ (∀ j, j < q.1.length + q.2.1.length + q.2.2.length → hI h ca j = (q.1 ++ q.2.1 ++ q.2.2).getD j 0) ∧ q.1.length + q.2.1.length + q.2.2.length ≤ 160 ∧ sa ≠ ca ∧ sa ≠ a ∧ sa ≠ 50
theorem stp_len (ev : Nat → Int32) (t : Int32) (st : List Int32) : (stp ev t st).length ≤ st.length + 1 := by
  unfold stp
  split
  · exact Nat.le_refl _
  split
  · cases st <;> simp [skA]
  split
  · cases st <;> simp [skA]
  · match st with
    | [] => simp [skB]
    | [_] => simp [skB]
    | _ :: _ :: r => simp only [skB, List.length_cons]; omega
theorem X_joined (t v w : Int32) : f_X9_joined t v w = some (jn t v w) := by
  unfold f_X9_joined jn
  simp only [apply_ite some]
section
variable {h : HS} {a ca sa L : Nat} {st : List Int32} {ev : Nat → Int32}
theorem X_push (ha : hT h a = 11) (hs : hR h a 1 = some sa) (hsa : hT h sa = 15) (hL : hLn h sa = L) (h160 : L ≤ 160) {k : Nat} (hk : k < L) (v : Int32) : f_X9_push a v (nI k) h = some (nI (k + 1), sI h sa k v) := by
  have hx := ixb_n (i := k) (n := L) hk (by omega)
  have hc : (nI k).toNatClampNeg = k := nI_clamp (by omega)
  unfold f_X9_push
  rw [if_neg (nI_pos (by omega)), if_pos ha, hs, om_some, om_some, if_pos hsa, hL, if_pos (nI_lt hk (by omega)), if_pos hsa, if_pos hx, hc, nI_1]
theorem X_alter0 {t : Int32} : f_X9_alter a t (nI 0) h = some (nI 0, h) := by
  unfold f_X9_alter
  rw [if_pos (by decide)]
theorem X_alter (ha : hT h a = 11) (hs : hR h a 1 = some sa) (hsa : hT h sa = 15) (hL : hLn h sa = L) (h160 : L ≤ 160) {k : Nat} (hk : k < L) (t : Int32) : f_X9_alter a t (nI (k + 1)) h = some (nI (k + 1), sI h sa k (if t = 10001 then -(hI h sa k) else if hI h sa k = 0 then 1 else 0)) := by
  have hx := ixb_n (i := k) (n := L) hk (by omega)
  have hc : (nI k).toNatClampNeg = k := nI_clamp (by omega)
  unfold f_X9_alter
  rw [if_neg (by rw [show (1 : Int32) = nI 1 from rfl]; exact nI_nlt (by omega) (by omega)), if_pos ha, hs, om_some, om_some, om_some, if_pos hsa, hL, if_pos (nI_le (by omega) (by omega)), if_pos hsa, nI_pred, if_pos hx, hc]
  by_cases c : t = 10001
  · rw [if_pos c, if_pos c, if_pos hsa, if_pos hx]
  · rw [if_neg c, if_neg c]
    by_cases c2 : hI h sa k = 0
    · rw [if_pos c2, if_pos c2, if_pos hsa, if_pos hx]
    · rw [if_neg c2, if_neg c2, if_pos hsa, if_pos hx]
theorem X_opr (ha : hT h a = 11) (hs : hR h a 1 = some sa) (hsa : hT h sa = 15) (hL : hLn h sa = L) (h160 : L ≤ 160) (hS : Stk h sa st) (hst : st.length < L) {t : Int32} (hv : ¬ isVl t = true) : ∃ h', (if t = (10001 : Int32) then (if hT h a = 11 then (Option.bind (f_X9_alter a t (nI st.length) h) (fun q4 => (some (q4.1, q4.2)))) else none) else (if t = (10212 : Int32) then (if hT h a = 11 then (Option.bind (f_X9_alter a t (nI st.length) h) (fun q30 => (some (q30.1, q30.2)))) else none) else (if (nI st.length) < (2 : Int32) then (some ((nI st.length), h)) else (if hT h a = 11 then (om (hR h a 1) none (fun b12 => (if hT h b12 = 15 then (if (nI st.length) ≤ (nI (hLn h b12)) then (om (hR h a 1) none (fun b16 => (om (hR h a 1) none (fun b18 => (if hT h b18 = 15 then (if ixb ((nI st.length) - (2 : Int32)) (hLn h b18) = true then (om (hR h a 1) none (fun b22 => (if hT h b22 = 15 then (if ixb ((nI st.length) - (1 : Int32)) (hLn h b22) = true then (Option.bind (f_X9_joined t (hI h b18 ((nI st.length) - (2 : Int32)).toNatClampNeg) (hI h b22 ((nI st.length) - (1 : Int32)).toNatClampNeg)) (fun q26 => (if hT h b16 = 15 then (if ixb ((nI st.length) - (2 : Int32)) (hLn h b16) = true then (some (((nI st.length) - (1 : Int32)), (sI h b16 ((nI st.length) - (2 : Int32)).toNatClampNeg q26))) else none) else none))) else none) else none))) else none) else none))))) else (some ((nI st.length), h))) else none))) else none)))) = some (nI (stp ev t st).length, h') ∧ Stk h' sa (stp ev t st) ∧ Fq (fun b _ => b = sa) h h' := by
  unfold stp
  rw [if_neg hv]
  by_cases c1 : t = 10001
  · rw [if_pos c1, if_pos c1, if_pos ha]
    cases st with
    | nil => exact ⟨h, by rw [show ([] : List Int32).length = 0 from rfl, X_alter0]; rfl, trivial, Fq.rf⟩
    | cons v r =>
      have hr : r.length + 1 < L := hst
      have e := X_alter ha hs hsa hL h160 (k := r.length) (by omega) t
      rw [if_pos c1, hS.1] at e
      refine ⟨sI h sa r.length (-v), ?_, ⟨by rw [hI_sI, if_pos rfl, if_pos rfl], hS.2.set (Nat.le_refl _)⟩, Fq.sI Fq.rf rfl⟩
      rw [show (v :: r).length = r.length + 1 from rfl, e]; rfl
  · rw [if_neg c1, if_neg c1]
    by_cases c2 : t = 10212
    · rw [if_pos c2, if_pos c2, if_pos ha]
      cases st with
      | nil => exact ⟨h, by rw [show ([] : List Int32).length = 0 from rfl, X_alter0]; rfl, trivial, Fq.rf⟩
      | cons v r =>
        have hr : r.length + 1 < L := hst
        have e := X_alter ha hs hsa hL h160 (k := r.length) (by omega) t
        rw [if_neg c1, hS.1] at e
        refine ⟨sI h sa r.length (if v = 0 then 1 else 0), ?_, ⟨by rw [hI_sI, if_pos rfl, if_pos rfl], hS.2.set (Nat.le_refl _)⟩, Fq.sI Fq.rf rfl⟩
        rw [show (v :: r).length = r.length + 1 from rfl, e]; rfl
    · rw [if_neg c2, if_neg c2]
      match st, hS, hst with
      | [], hS, _ => exact ⟨h, by rw [if_pos (by decide)]; rfl, trivial, Fq.rf⟩
      | [v], hS, _ => exact ⟨h, by rw [show [v].length = 1 from rfl, if_pos (by decide)]; rfl, hS, Fq.rf⟩
      | w :: v :: r, hS, hst =>
        have hr : r.length + 1 + 1 < L := hst
        have hx := ixb_n (i := r.length) (n := L) (by omega) (by omega)
        have hx1 := ixb_n (i := r.length + 1) (n := L) (by omega) (by omega)
        have hc : (nI r.length).toNatClampNeg = r.length := nI_clamp (by omega)
        have hc1 : (nI (r.length + 1)).toNatClampNeg = r.length + 1 := nI_clamp (by omega)
        have e2 : nI (r.length + 1 + 1) - (2 : Int32) = nI r.length := by
          rw [i32_eqZ, i32_subZ (by rw [nI_Z (by omega), show (2 : Int32).toInt = 2 from rfl]; omega) (by rw [nI_Z (by omega), show (2 : Int32).toInt = 2 from rfl]; omega), nI_Z (by omega), nI_Z (by omega), show (2 : Int32).toInt = 2 from rfl]
          omega
        have s1 : hI h sa (r.length + 1) = w := hS.1
        have s2 : hI h sa r.length = v := hS.2.1
        refine ⟨sI h sa r.length (jn t v w), ?_, ⟨by rw [hI_sI, if_pos rfl, if_pos rfl], hS.2.2.set (Nat.le_refl _)⟩, Fq.sI Fq.rf rfl⟩
        rw [show (w :: v :: r).length = r.length + 1 + 1 from rfl, if_neg (by rw [show (2 : Int32) = nI 2 from rfl]; exact nI_nlt (by omega) (by omega)), if_pos ha, hs, om_some, om_some, om_some, om_some, if_pos hsa, hL, if_pos (nI_le (by omega) (by omega)), if_pos hsa, e2, if_pos hx, if_pos hsa, nI_pred, if_pos hx1, hc, hc1, s1, s2, X_joined, Option.bind_some, if_pos hsa, if_pos hx]
        rfl
theorem X_step (ha : hT h a = 11) (hs : hR h a 1 = some sa) (hsa : hT h sa = 15) (hL : hLn h sa = L) (h160 : L ≤ 160) (hS : Stk h sa st) (hst : st.length < L) (h50 : hT h 50 = 15) (hl50 : hLn h 50 = 6) (hev : ∀ k, k < 6 → hI h 50 k = ev k) (t : Int32) : ∃ h', f_X9_step a t (nI st.length) 50 h = some (nI (stp ev t st).length, h') ∧ Stk h' sa (stp ev t st) ∧ Fq (fun b _ => b = sa) h h' := by
  have e1 : (10000 : Int32).toInt = 10000 := rfl
  have e2 : (10200 : Int32).toInt = 10200 := rfl
  have e3 : (10206 : Int32).toInt = 10206 := rfl
  have e6 : (6 : Int32).toInt = 6 := rfl
  have tl := i32_lo t
  have vl : isVl t = true ↔ (t.toInt < 10000 ∨ (10200 ≤ t.toInt ∧ t.toInt < 10206)) := by
    unfold isVl
    simp only [i32_lt0, i32_le0, e1, e2, e3]
    by_cases g1 : t.toInt < 10000
    · rw [if_pos g1]; simp [g1]
    · rw [if_neg g1]
      by_cases g2 : t.toInt < 10200
      · rw [if_pos g2]; simp; omega
      · rw [if_neg g2]
        by_cases g3 : 10206 ≤ t.toInt
        · rw [if_pos g3]; simp; omega
        · rw [if_neg g3]; simp; omega
  unfold f_X9_step
  by_cases c1 : (10000 : Int32) ≤ t
  · have c1' := c1
    rw [i32_le0, e1] at c1'
    have es : (t - (10200 : Int32)).toInt = t.toInt - 10200 := by rw [i32_subZ (by omega) (by omega), e2]
    rw [if_pos c1]
    by_cases c2 : t - (10200 : Int32) < 0
    · rw [if_pos c2]
      rw [i32_lt0, z_0] at c2
      exact X_opr ha hs hsa hL h160 hS hst (fun z => by rw [vl] at z; omega)
    · rw [if_neg c2]
      rw [i32_lt0, z_0] at c2
      by_cases c3 : (6 : Int32) ≤ t - (10200 : Int32)
      · rw [if_pos c3]
        rw [i32_le0, e6] at c3
        exact X_opr ha hs hsa hL h160 hS hst (fun z => by rw [vl] at z; omega)
      · rw [if_neg c3, if_pos h50, hl50, show nI 6 = (6 : Int32) from rfl, if_neg c3]
        have c3' := c3
        rw [i32_le0, e6] at c3'
        have hv : isVl t = true := by rw [vl]; omega
        have hn : ¬ t < 10000 := by rw [i32_lt0, e1]; omega
        have hk : (t - (10200 : Int32)).toNatClampNeg < 6 := by
          show (t - (10200 : Int32)).toInt.toNat < 6
          omega
        rw [if_pos (ixb_any (m := 6) (M := 6) (by rw [i32_lt0, z_0]; omega) c3 rfl), if_pos ha, hev _ hk, X_push ha hs hsa hL h160 hst]
        refine ⟨sI h sa st.length (pv ev t), ?_, ?_, Fq.sI Fq.rf rfl⟩
        · unfold stp pv
          rw [if_pos hv, if_neg hn, Option.bind_some]
          rfl
        · unfold stp
          rw [if_pos hv]
          exact ⟨by rw [hI_sI, if_pos rfl, if_pos rfl], hS.set (Nat.le_refl _)⟩
  · have c1' := c1
    rw [i32_le0, e1] at c1'
    have hv : isVl t = true := by rw [vl]; omega
    have hn : t < 10000 := by rw [i32_lt0, e1]; omega
    rw [if_neg c1, if_pos ha, X_push ha hs hsa hL h160 hst]
    refine ⟨sI h sa st.length (pv ev t), ?_, ?_, Fq.sI Fq.rf rfl⟩
    · unfold stp pv
      rw [if_pos hv, if_pos hn, Option.bind_some]
      rfl
    · unfold stp
      rw [if_pos hv]
      exact ⟨by rw [hI_sI, if_pos rfl, if_pos rfl], hS.set (Nat.le_refl _)⟩
end
theorem Otx0.fq {q : List Int32 × List Int32 × List Int32} {h h' : HS} {a ca sa : Nat} (O : Otx0 q h a ca sa) (F : Fq (fun b _ => b = sa) h h') : Otx0 q h' a ca sa := by
  obtain ⟨o1, o2, o3, o4, o5, o6, o7, o8, o9, o10, o11, o12, o13, o14⟩ := O
  obtain ⟨f1, f2, f3, f4, f5, f6⟩ := F
  exact ⟨by rw [f3]; exact o1, by rw [f5]; exact o2, by rw [f5]; exact o3, by rw [f3]; exact o4, by rw [f3]; exact o5, by rw [f4]; exact o6, by rw [f4]; exact o7, by rw [(f6 a 2 (fun z => o13 z.symm)).1]; exact o8, by rw [(f6 a 3 (fun z => o13 z.symm)).1]; exact o9, fun j hj => by rw [(f6 ca j (fun z => o12 z.symm)).1]; exact o10 j hj, o11, o12, o13, o14⟩
theorem L_xcome {q : List Int32 × List Int32 × List Int32} {ev : Nat → Int32} {a ca sa : Nat} : ∀ (d i : Nat) (st : List Int32) (fu : Nat) (h : HS), Otx0 q h a ca sa → hT h 50 = 15 → hLn h 50 = 6 → (∀ k, k < 6 → hI h 50 k = ev k) → Stk h sa st → st.length ≤ i → i + d ≤ q.1.length + q.2.1.length + q.2.2.length → d < fu → ∃ h', l_X9_comesTo_61 a 50 (nI (i + d)) fu (nI st.length) (nI i) h = some (nI (runC ev (((q.1 ++ q.2.1 ++ q.2.2).drop i).take d) st).length, h') ∧ Stk h' sa (runC ev (((q.1 ++ q.2.1 ++ q.2.2).drop i).take d) st) ∧ Fq (fun b _ => b = sa) h h' := by
  intro d
  induction d with
  | zero =>
    intro i st fu h O h50 hl50 hev hS hst hd hf
    obtain ⟨fu, rfl⟩ : ∃ f', fu = f' + 1 := ⟨fu - 1, by omega⟩
    have h160 := O.2.2.2.2.2.2.2.2.2.2.1
    refine ⟨h, ?_, hS, Fq.rf⟩
    rw [l_X9_comesTo_61, if_neg (nI_pos (by omega)), if_pos (nI_le (by omega) (by omega)), List.take_zero]
    rfl
  | succ d ih =>
    intro i st fu h O h50 hl50 hev hS hst hd hf
    obtain ⟨fu, rfl⟩ : ∃ f', fu = f' + 1 := ⟨fu - 1, by omega⟩
    have O0 := O
    obtain ⟨o1, o2, o3, o4, o5, o6, o7, o8, o9, o10, o11, o12, o13, o14⟩ := O
    have hx := ixb_n (i := i) (n := q.1.length + q.2.1.length + q.2.2.length) (by omega) (by omega)
    have hc : (nI i).toNatClampNeg = i := nI_clamp (by omega)
    have hlen : (q.1 ++ q.2.1 ++ q.2.2).length = q.1.length + q.2.1.length + q.2.2.length := by simp only [List.length_append]
    have ed : ((q.1 ++ q.2.1 ++ q.2.2).drop i).take (d + 1) = (q.1 ++ q.2.1 ++ q.2.2).getD i 0 :: ((q.1 ++ q.2.1 ++ q.2.2).drop (i + 1)).take d := by
      have hi : i < (q.1 ++ q.2.1 ++ q.2.2).length := by omega
      rw [List.drop_eq_getElem_cons hi, List.take_succ_cons]
      congr 1
      rw [List.getD_eq_getElem?_getD, List.getElem?_eq_getElem hi]
      rfl
    obtain ⟨h1, s1, s2, s3⟩ := X_step (ev := ev) o1 o3 o5 o7 o11 hS (by omega) h50 hl50 hev ((q.1 ++ q.2.1 ++ q.2.2).getD i 0)
    have hl := stp_len ev ((q.1 ++ q.2.1 ++ q.2.2).getD i 0) st
    obtain ⟨h', u1, u2, u3⟩ := ih (i + 1) (stp ev ((q.1 ++ q.2.1 ++ q.2.2).getD i 0) st) fu h1 (O0.fq s3) (by rw [s3.2.2.1]; exact h50) (by rw [s3.2.2.2.1]; exact hl50) (fun k hk => by rw [s3.i (fun z => o14 z.symm)]; exact hev k hk) s2 (by omega) (by omega) (by omega)
    rw [show i + 1 + d = i + (d + 1) by omega] at u1
    refine ⟨h', ?_, ?_, s3.tr u3⟩
    · rw [l_X9_comesTo_61, if_neg (nI_pos (by omega)), if_neg (nI_ge (by omega) (by omega)), if_pos o1, o2, om_some, om_some, if_pos o4, o6, if_neg (nI_ge (by omega) (by omega)), if_pos o4, if_pos hx, hc, o10 i (by omega), s1, Option.bind_some, nI_1, ed]
      exact u1
    · rw [ed]; exact u2
def ck3 (q : List Int32 × List Int32 × List Int32) (w : Int32) : List Int32 := if w = 0 then q.1 else if w = 1 then q.2.1 else q.2.2
theorem X_comesTo {q : List Int32 × List Int32 × List Int32} {ev : Nat → Int32} {a ca sa : Nat} {h : HS} {v : Int32} (O : Otx0 q h a ca sa) (h50 : hT h 50 = 15) (hl50 : hLn h 50 = 6) (hev : ∀ k, k < 6 → hI h 50 k = ev k) (w : Int32) (hv : runC ev (ck3 q w) [] = [v]) : ∃ h', f_X9_comesTo a w 50 h = some (v, h') ∧ Fq (fun b _ => b = sa) h h' := by
  have O0 := O
  obtain ⟨o1, o2, o3, o4, o5, o6, o7, o8, o9, o10, o11, o12, o13, o14⟩ := O
  have fin : ∀ (i d : Nat), i + d ≤ q.1.length + q.2.1.length + q.2.2.length → ((q.1 ++ q.2.1 ++ q.2.2).drop i).take d = ck3 q w → ∃ h', (Option.bind (l_X9_comesTo_61 a 50 (nI (i + d)) 1000 (0 : Int32) (nI i) h) (fun q53 => (if q53.1 ≤ 0 then (some ((0 : Int32), q53.2)) else (if hT q53.2 a = 11 then (om (hR q53.2 a 1) none (fun b58 => (if hT q53.2 b58 = 15 then (if (nI (hLn q53.2 b58)) ≤ 0 then (some ((0 : Int32), q53.2)) else (om (hR q53.2 a 1) none (fun b62 => (if hT q53.2 b62 = 15 then (if ixb (0 : Int32) (hLn q53.2 b62) = true then (some ((hI q53.2 b62 (0 : Int32).toNatClampNeg), q53.2)) else none) else none)))) else none))) else none)))) = some (v, h') ∧ Fq (fun b _ => b = sa) h h' := by
    intro i d hd hseg
    obtain ⟨h', u1, u2, u3⟩ := L_xcome (ev := ev) d i [] 1000 h O0 h50 hl50 hev trivial (Nat.zero_le _) hd (by omega)
    rw [hseg, hv] at u1 u2
    have u1' : l_X9_comesTo_61 a 50 (nI (i + d)) 1000 (0 : Int32) (nI i) h = some (nI 1, h') := u1
    obtain ⟨p1, p2, p3, p4, p5, p6, p7, p8, p9, p10, p11, p12, p13, p14⟩ := O0.fq u3
    have hd0 : d ≠ 0 := fun z => by
      rw [z, List.take_zero] at hseg
      rw [← hseg] at hv
      cases hv
    have hx := ixb_n (i := 0) (n := q.1.length + q.2.1.length + q.2.2.length) (by omega) (by omega)
    refine ⟨h', ?_, u3⟩
    rw [u1', Option.bind_some, if_neg (by show ¬ nI 1 ≤ 0; decide), if_pos p1, p3, om_some, om_some, if_pos p5, p7, if_neg (by rw [show (0 : Int32) = nI 0 from rfl]; exact nI_ge (by omega) (by omega)), if_pos p5, if_pos (show ixb (0 : Int32) (q.1.length + q.2.1.length + q.2.2.length) = true from hx)]
    have : hI h' sa 0 = v := u2.1
    exact congrArg (fun x => some (x, h')) this
  unfold f_X9_comesTo
  by_cases w0 : w = 0
  · have hs : ((q.1 ++ q.2.1 ++ q.2.2).drop 0).take q.1.length = ck3 q w := by
      unfold ck3
      rw [if_pos w0, List.drop_zero, List.append_assoc, List.take_left]
    obtain ⟨h', u1, u2⟩ := fin 0 q.1.length (by omega) hs
    rw [Nat.zero_add] at u1
    rw [if_pos w0, if_pos w0, if_pos o1, o8, Option.bind_some, Option.bind_some]
    exact ⟨h', u1, u2⟩
  · by_cases w1 : w = 1
    · have hs : ((q.1 ++ q.2.1 ++ q.2.2).drop q.1.length).take q.2.1.length = ck3 q w := by
        unfold ck3
        rw [if_neg w0, if_pos w1, List.append_assoc, List.drop_left, List.take_left]
      obtain ⟨h', u1, u2⟩ := fin q.1.length q.2.1.length (by omega) hs
      rw [if_neg w0, if_neg w0, if_pos w1, if_pos w1, if_pos o1, if_pos o1, o8, o9, Option.bind_some, Option.bind_some]
      exact ⟨h', u1, u2⟩
    · have hs : ((q.1 ++ q.2.1 ++ q.2.2).drop (q.1.length + q.2.1.length)).take q.2.2.length = ck3 q w := by
        unfold ck3
        rw [if_neg w0, if_neg w1, show q.1.length + q.2.1.length = (q.1 ++ q.2.1).length by simp, List.drop_left, List.take_of_length_le (Nat.le_refl _)]
      obtain ⟨h', u1, u2⟩ := fin (q.1.length + q.2.1.length) q.2.2.length (by omega) hs
      rw [if_neg w0, if_neg w0, if_neg w1, if_neg w1, if_pos o1, if_pos o1, o2, om_some, if_pos o4, o6, o9, Option.bind_some, Option.bind_some]
      exact ⟨h', u1, u2⟩
