/-! ===== players: bits, lots, how one is played out ===== -/
def bt (x : Int64) (w : Nat) : Bool := x.toBitVec.getLsbD w
theorem mk_eq : ∀ w, w < 41 → (1 : Int64) <<< ((nI w).toInt64 &&& 63) = lN (2 ^ w) := by decide +kernel
theorem mk_bv : ∀ w, w < 41 → (lN (2 ^ w)).toBitVec = BitVec.twoPow 64 w := by decide +kernel
theorem bt_or (x y : Int64) (w : Nat) : bt (x ||| y) w = (bt x w || bt y w) := by
  unfold bt
  rw [Int64.toBitVec_or, BitVec.getLsbD_or]
theorem bt_mk {w v : Nat} (hw : w < 41) : bt (lN (2 ^ w)) v = decide (w = v) := by
  unfold bt
  rw [mk_bv w hw, BitVec.getLsbD_twoPow, decide_eq_true (show w < 64 by omega), Bool.true_and]
theorem bt_0 (w : Nat) : bt 0 w = false := by
  unfold bt
  rw [Int64.toBitVec_zero, BitVec.getLsbD_zero]
theorem bt_and {x : Int64} {w : Nat} (hw : w < 41) : (x &&& lN (2 ^ w)) = 0 ↔ bt x w = false := by
  unfold bt
  rw [← Int64.toBitVec_inj, Int64.toBitVec_and, mk_bv w hw, BitVec.and_twoPow, Int64.toBitVec_zero]
  by_cases c : x.toBitVec.getLsbD w = true
  · rw [if_pos c, c]
    refine ⟨fun z => ?_, fun z => by cases z⟩
    have := congrArg (fun b => BitVec.getLsbD b w) z
    simp only [BitVec.getLsbD_twoPow, BitVec.getLsbD_zero] at this
    rw [decide_eq_true (show w < 64 by omega)] at this
    simp at this
  · rw [if_neg c]
    exact ⟨fun _ => by simpa using c, fun _ => rfl⟩
theorem sh_bv : ∀ w, w < 41 → (((nI w).toInt64 &&& 63).toBitVec.smod 64).toNat = w := by decide +kernel
theorem one_bv : (1 : Int64).toBitVec = BitVec.twoPow 64 0 := by decide
theorem bt_sh {y : Int64} {w : Nat} (hw : w < 41) : ((y >>> ((nI w).toInt64 &&& 63)) &&& (1 : Int64)) = (1 : Int64) ↔ bt y w = true := by
  unfold bt
  rw [← Int64.toBitVec_inj, Int64.toBitVec_and, one_bv, BitVec.and_twoPow, Int64.toBitVec_shiftRight]
  unfold BitVec.sshiftRight'
  rw [sh_bv w hw, BitVec.getLsbD_sshiftRight]
  simp only [Nat.add_zero, decide_eq_false (show ¬ 64 ≤ 0 by omega), Bool.not_false, Bool.true_and, if_pos (show w < 64 by omega)]
  by_cases c : y.toBitVec.getLsbD w = true
  · rw [if_pos c]
    exact ⟨fun _ => c, fun _ => rfl⟩
  · rw [if_neg c]
    refine ⟨fun z => ?_, fun z => absurd z c⟩
    exact absurd z (by decide)
theorem let_bt : ∀ l, l < 64 → ∀ w, w < 41 → bt (nI l).toInt64 w = (decide (w < 6) && bitB (nI l) w) := by decide +kernel
def bcN (l : Nat) : Nat := l % 2 + l / 2 % 2 + l / 4 % 2 + l / 8 % 2 + l / 16 % 2 + l / 32 % 2
theorem bc_x : ∀ l, l < 64 → f_J6_bitCount_0f7a4 (nI l) = some (nI (bcN l)) := by decide +kernel
theorem bc_m : ∀ l, l < 64 → f_X12_bitsOf (nI l) = some (nI (bcN l)) := by decide +kernel
/-- the lots in their order -/
def lotP (s : Nat) : Nat → Nat
  | 0 => s + 1
  | t + 1 => lotN (lotP s t)
theorem lotP_lt {s : Nat} (h : s ≤ 99999) : ∀ t, lotP s t < 2 ^ 32
  | 0 => by show s + 1 < 2 ^ 32; omega
  | t + 1 => by have := lotN_lt (lotP s t); show lotN (lotP s t) < 2 ^ 32; omega
def plG (price : Int32) (wb : Nat → Bool) (go : Nat → Nat → Bool) : Nat → Nat → Nat → Int32 → Nat × Nat × Int32
  | 0, t, w, c => (t, w, c)
  | d + 1, t, w, c => if c < price then (t, w, c) else if go w t = true then plG price wb go d (t + 1) (w + if wb t = true then 1 else 0) (c - price) else (t, w, c)
theorem plG_le {price : Int32} {wb : Nat → Bool} {go : Nat → Nat → Bool} : ∀ (d t w : Nat) (c : Int32), w ≤ t → (plG price wb go d t w c).2.1 ≤ (plG price wb go d t w c).1 ∧ (plG price wb go d t w c).1 ≤ t + d := by
  intro d
  induction d with
  | zero => intro t w c h; exact ⟨h, Nat.le_refl _⟩
  | succ d ih =>
    intro t w c h
    rw [plG]
    by_cases c1 : c < price
    · rw [if_pos c1]; exact ⟨h, by show t ≤ _; omega⟩
    · rw [if_neg c1]
      by_cases c2 : go w t = true
      · rw [if_pos c2]
        have := ih (t + 1) (w + if wb t = true then 1 else 0) (c - price) (by split <;> omega)
        omega
      · rw [if_neg c2]; exact ⟨h, by show t ≤ _; omega⟩
def wbS (S H : TB) (i j : Nat) (m : Int32) (s l t : Nat) : Bool := wonL S H i j m (lotP s (t + 1)) || (decide (t < 6) && bitB (nI l) t)
def goS (S : TB) (X : XT) (p i : Nat) (th : Int32) (w t : Nat) : Bool := decide (¬ vR X p (evS S i th (nI w) (nI t)) 0 = 0)
/-- one player, thrown by the seed, with these let win -/
def plS (S H : TB) (X : XT) (p i j : Nat) (m : Int32) (s : Nat) (coin : Int32) (l : Nat) : Nat × Nat × Int32 := plG (S.2 3 i) (wbS S H i j m s l) (goS S X p i (a_th S H i j m)) 40 0 0 coin
theorem L_mpl {S H : TB} {X : XT} {p i j : Nat} {m : Int32} {s l : Nat} (hW : Wst S) (hWH : Wha H) (hWX : Wtx X) (hp : p < X.1) (hi : i < S.1) (hj : j < H.1) (hm : plB m = true) (hs : s ≤ 99999) (hl : l < 64) (th : Int32) : ∀ (d t w f : Nat) (c : Int32) (h : HS), t + d = 40 → w ≤ t → d < f → Mst S h → Mha H h → Mtx X h → hI h 60 4 = nI p → hI h 60 39 = nI t → hI h 60 40 = nI w → hI h 60 41 = c → ∃ h', l_X12_plays_32 (nI i) (nI j) m (nI l) th f (lN (lotP s t)) h = some h' ∧ hI h' 60 39 = nI (plG (S.2 3 i) (wbS S H i j m s l) (goS S X p i th) d t w c).1 ∧ hI h' 60 40 = nI (plG (S.2 3 i) (wbS S H i j m s l) (goS S X p i th) d t w c).2.1 ∧ hI h' 60 41 = (plG (S.2 3 i) (wbS S H i j m s l) (goS S X p i th) d t w c).2.2 ∧ Fr 0 h h' := by
  intro d
  induction d with
  | zero =>
    intro t w f c h ht hwt hf hS hH hX h4 h39 h40 h41
    obtain ⟨f, rfl⟩ : ∃ f', f = f' + 1 := ⟨f - 1, by omega⟩
    have h8 := hS.2.1
    have hx := ixb_n (i := i) (n := 8) (by omega) (by decide)
    refine ⟨h, ?_, h39, h40, h41, Fr.rf⟩
    have : t = 40 := by omega
    subst this
    rw [l_X12_plays_32, if_pos hx, h39]
    by_cases c1 : hI h 60 41 < hI h 67 (nI i).toNatClampNeg
    · rw [if_pos c1]
    · rw [if_neg c1, if_pos (by decide)]
  | succ d ih =>
    intro t w f c h ht hwt hf hS hH hX h4 h39 h40 h41
    obtain ⟨f, rfl⟩ : ∃ f', f = f' + 1 := ⟨f - 1, by omega⟩
    have h8 := hS.2.1
    have hx := ixb_n (i := i) (n := 8) (by omega) (by decide)
    have hc : (nI i).toNatClampNeg = i := nI_clamp (by omega)
    have hpr : hI h 67 i = S.2 3 i := (hS.2.2 i hi).2.2.2.1
    rw [l_X12_plays_32, if_pos hx, hc, h41, hpr, h39, h40, plG]
    by_cases c1 : c < S.2 3 i
    · rw [if_pos c1, if_pos c1]
      exact ⟨h, rfl, h39, h40, h41, Fr.rf⟩
    · rw [if_neg c1, if_neg c1, if_neg (by rw [show (40 : Int32) = nI 40 from rfl]; exact nI_ge (by omega) (by decide))]
      obtain ⟨h1, s1, s2⟩ := M_ruleS hS hX hWX hp h4 hi th (nI w) (nI t) 0
      have k39 : hI h1 60 39 = nI t := by rw [s2.i (by unfold KR; omega)]; exact h39
      have k40 : hI h1 60 40 = nI w := by rw [s2.i (by unfold KR; omega)]; exact h40
      have k41 : hI h1 60 41 = c := by rw [s2.i (by unfold KR; omega)]; exact h41
      have hS1 := hS.fr (s2.kr (g := 0)) (by decide)
      have hH1 := hH.fr (s2.kr (g := 0)) (by decide)
      have hX1 := hX.fr (s2.kr (g := 0)) (by decide)
      rw [s1, Option.bind_some]
      by_cases c2 : vR X p (evS S i th (nI w) (nI t)) 0 = 0
      · rw [if_pos c2, if_neg (show ¬ goS S X p i th w t = true by unfold goS; simp [c2])]
        exact ⟨h1, rfl, k39, k40, k41, s2.kr⟩
      · have hlt := lotP_lt hs t
        have hlt1 := lotP_lt hs (t + 1)
        have hwb := M_wonBy hS1 hW hH1 hWH hi hj hm (lt := lotP s (t + 1)) (by omega)
        have hnext : f_X12_lotOf (lN (lotP s t)) = some (lN (lotP s (t + 1))) := lotOf_eq hlt
        rw [if_neg c2, if_pos (show goS S X p i th w t = true by unfold goS; simp [c2]), hnext, Option.bind_some, hwb, Option.bind_some]
        have hp1 : ∀ (g : HS) (a b : Int32), hI (sI (sI g 60 40 a) 60 39 b) 67 i = hI g 67 i := fun g a b => by rw [hI_sI, if_neg (by decide), hI_sI, if_neg (by decide)]
        have hpr1 : hI h1 67 i = S.2 3 i := (hS1.2.2 i hi).2.2.2.1
        have go : ∀ v : Int32, v = (if wbS S H i j m s l t = true then 1 else 0) → ∃ h', l_X12_plays_32 (nI i) (nI j) m (nI l) th f (lN (lotP s (t + 1))) (sI (sI (sI h1 60 40 (nI w + v)) 60 39 (nI t + 1)) 60 41 (c - S.2 3 i)) = some h' ∧ hI h' 60 39 = nI (plG (S.2 3 i) (wbS S H i j m s l) (goS S X p i th) d (t + 1) (w + if wbS S H i j m s l t = true then 1 else 0) (c - S.2 3 i)).1 ∧ hI h' 60 40 = nI (plG (S.2 3 i) (wbS S H i j m s l) (goS S X p i th) d (t + 1) (w + if wbS S H i j m s l t = true then 1 else 0) (c - S.2 3 i)).2.1 ∧ hI h' 60 41 = (plG (S.2 3 i) (wbS S H i j m s l) (goS S X p i th) d (t + 1) (w + if wbS S H i j m s l t = true then 1 else 0) (c - S.2 3 i)).2.2 ∧ Fr 0 h h' := by
          intro v hv
          have F1 : Fr 0 h (sI (sI (sI h1 60 40 (nI w + v)) 60 39 (nI t + 1)) 60 41 (c - S.2 3 i)) := Fr.sI (Fr.sI (Fr.sI s2.kr (Or.inl rfl)) (Or.inl rfl)) (Or.inl rfl)
          obtain ⟨h', u1, u2, u3, u4, u5⟩ := ih (t + 1) (w + if wbS S H i j m s l t = true then 1 else 0) f (c - S.2 3 i) (sI (sI (sI h1 60 40 (nI w + v)) 60 39 (nI t + 1)) 60 41 (c - S.2 3 i)) (by omega) (by split <;> omega) (by omega) (hS.fr F1 (by decide)) (hH.fr F1 (by decide)) (hX.fr F1 (by decide)) (by rw [hI_sI, if_pos rfl, if_neg (by decide), hI_sI, if_pos rfl, if_neg (by decide), hI_sI, if_pos rfl, if_neg (by decide), s2.i (by unfold KR; omega)]; exact h4) (by rw [hI_sI, if_pos rfl, if_neg (by decide), hI_sI, if_pos rfl, if_pos rfl, nI_1]) (by
            rw [hI_sI, if_pos rfl, if_neg (by decide), hI_sI, if_pos rfl, if_neg (by decide), hI_sI, if_pos rfl, if_pos rfl, hv]
            cases wbS S H i j m s l t
            · exact nI_add w 0
            · exact nI_add w 1) (by rw [hI_sI, if_pos rfl, if_pos rfl])
          exact ⟨h', u1, u2, u3, u4, F1.tr u5⟩
        have r39 : ∀ v : Int32, hI (sI h1 60 40 v) 60 39 = nI t := fun v => by rw [hI_sI, if_pos rfl, if_neg (by decide)]; exact k39
        have r41 : ∀ v u : Int32, hI (sI (sI h1 60 40 v) 60 39 u) 60 41 = c := fun v u => by rw [hI_sI, if_pos rfl, if_neg (by decide), hI_sI, if_pos rfl, if_neg (by decide)]; exact k41
        by_cases c6 : (6 : Int32) ≤ hI h1 60 39
        · have ht6 : 6 ≤ t := by
            rw [k39, i32_le0, nI_Z (by omega), show (6 : Int32).toInt = 6 from rfl] at c6; omega
          rw [if_pos c6, if_pos hx, bh_eq, k40, r39, r41, hp1, hpr1]
          refine go _ ?_
          unfold wbS
          rw [decide_eq_false (by omega), Bool.false_and, Bool.or_false]
        · have ht6 : t < 6 := by
            rw [k39, i32_le0, nI_Z (by omega), show (6 : Int32).toInt = 6 from rfl] at c6; omega
          rw [if_neg c6, k39]
          cases hb : bitB (nI l) t
          · rw [if_neg (bitB_f hb), Option.bind_some, if_pos hx, bh_eq, k40, r39, r41, hp1, hpr1]
            refine go _ ?_
            unfold wbS
            rw [hb, Bool.and_false, Bool.or_false]
          · rw [if_pos (bitB_t hb), Option.bind_some, if_pos hx, bh_eq, k40, r39, r41, hp1, hpr1]
            refine go _ ?_
            unfold wbS
            rw [hb, decide_eq_true ht6, Bool.true_and, Bool.or_true]
            rfl
theorem M_plays {S H : TB} {X : XT} {p i j : Nat} {m : Int32} {s l : Nat} {h : HS} (hW : Wst S) (hWH : Wha H) (hWX : Wtx X) (hp : p < X.1) (hi : i < S.1) (hj : j < H.1) (hm : plB m = true) (hs : s ≤ 99999) (hl : l < 64) (hS : Mst S h) (hH : Mha H h) (hX : Mtx X h) (h4 : hI h 60 4 = nI p) (c : Int32) : ∃ h', f_X12_plays (nI i) (nI j) m (nI s) c (nI l) h = some h' ∧ hI h' 60 39 = nI (plS S H X p i j m s c l).1 ∧ hI h' 60 40 = nI (plS S H X p i j m s c l).2.1 ∧ hI h' 60 41 = (plS S H X p i j m s c l).2.2 ∧ Fr 0 h h' := by
  have F1 : Fr 0 h (sI (sI (sI h 60 39 0) 60 40 0) 60 41 c) := Fr.sI (Fr.sI (Fr.sI Fr.rf (Or.inl rfl)) (Or.inl rfl)) (Or.inl rfl)
  obtain ⟨h', u1, u2, u3, u4, u5⟩ := L_mpl hW hWH hWX hp hi hj hm hs hl (a_th S H i j m) 40 0 0 1000 c (sI (sI (sI h 60 39 0) 60 40 0) 60 41 c) (by omega) (by omega) (by omega) (hS.fr F1 (by decide)) (hH.fr F1 (by decide)) (hX.fr F1 (by decide)) (by rw [hI_sI, if_pos rfl, if_neg (by decide), hI_sI, if_pos rfl, if_neg (by decide), hI_sI, if_pos rfl, if_neg (by decide)]; exact h4) (by rw [hI_sI, if_pos rfl, if_neg (by decide), hI_sI, if_pos rfl, if_neg (by decide), hI_sI, if_pos rfl, if_pos rfl]; rfl) (by rw [hI_sI, if_pos rfl, if_neg (by decide), hI_sI, if_pos rfl, if_pos rfl]; rfl) (by rw [hI_sI, if_pos rfl, if_pos rfl])
  refine ⟨h', ?_, u2, u3, u4, F1.tr u5⟩
  unfold f_X12_plays
  rw [M_th hS hW hH hWH hi hj hm, Option.bind_some, seed_l (by omega)]
  rw [show lN (s + 1) = lN (lotP s 0) from rfl, u1, Option.bind_some]
