/-! ===== what holds between two calls ===== -/
theorem Wst_stall {S : TB} (hW : Wst S) (k p z c : Int32) : Wst (u_stall S k p z c) := by
  unfold u_stall
  by_cases ok : okStall k p z c = true
  · rw [if_pos ok]
    by_cases c8 : S.1 = 8
    · rw [if_pos c8]; exact hW
    · rw [if_neg c8]
      simp only [okStall, Bool.and_eq_true] at ok
      obtain ⟨⟨⟨o1, o2⟩, o3⟩, o4⟩ := ok
      intro i hi
      have hi' : i < S.1 + 1 := hi
      simp only [tpush]
      by_cases e : i = S.1
      · simp only [if_pos e, rowS]
        exact ⟨inZ_t.mp o1, o2, inZ_t.mp o3, inZ_t.mp o4, by show 0 ≤ (0 : Int32).toInt ∧ (0 : Int32).toInt ≤ 999; decide, by show 0 ≤ (0 : Int32).toInt ∧ (0 : Int32).toInt ≤ 999; decide, by show 0 ≤ (0 : Int32).toInt ∧ (0 : Int32).toInt ≤ 1; decide⟩
      · simp only [if_neg e]
        exact hW i (by omega)
  · rw [if_neg ok]; exact hW
theorem Wst_set {S : TB} (hW : Wst S) (s w v : Int32) : Wst (u_set S s w v) := by
  unfold u_set
  by_cases ok : (inZ s.toInt 0 (S.1 - 1) && okSet w v) = true
  · rw [if_pos ok]
    rw [Bool.and_eq_true] at ok
    have o2 := ok.2
    intro i hi
    have q := hW i hi
    unfold okSet at o2
    unfold fW
    simp only [tset]
    by_cases e : i = s.toNatClampNeg
    · by_cases w0 : w = 0
      · rw [if_pos w0] at o2
        simp only [if_pos w0, if_pos e]
        exact ⟨q.1, q.2.1, q.2.2.1, inZ_t.mp o2, q.2.2.2.2⟩
      · rw [if_neg w0] at o2
        by_cases w1 : w = 1
        · rw [if_pos w1] at o2
          simp only [if_neg w0, if_pos w1, if_pos e]
          exact ⟨q.1, q.2.1, q.2.2.1, q.2.2.2.1, inZ_t.mp o2, q.2.2.2.2.2⟩
        · rw [if_neg w1] at o2
          by_cases w2 : w = 2
          · rw [if_pos w2] at o2
            simp only [if_neg w0, if_neg w1, if_pos w2, if_pos e]
            exact ⟨q.1, q.2.1, q.2.2.1, q.2.2.2.1, q.2.2.2.2.1, inZ_t.mp o2, q.2.2.2.2.2.2⟩
          · rw [if_neg w2] at o2
            by_cases w3 : w = 3
            · rw [if_pos w3] at o2
              simp only [if_neg w0, if_neg w1, if_neg w2, if_pos e]
              exact ⟨q.1, q.2.1, q.2.2.1, q.2.2.2.1, q.2.2.2.2.1, q.2.2.2.2.2.1, inZ_t.mp o2⟩
            · rw [if_neg w3] at o2; cases o2
    · have r : ∀ (f g : Nat), (if g = f then (if i = s.toNatClampNeg then v else S.2 g i) else S.2 g i) = S.2 g i := fun f g => by rw [if_neg e]; split <;> rfl
      simp only [r]
      exact q
  · rw [if_neg ok]; exact hW
theorem Wha_hand {S : TB} (hW : Wha S) (x y v : Int32) : Wha (u_hand S x y v) := by
  unfold u_hand
  by_cases ok : okHand x y v = true
  · rw [if_pos ok]
    by_cases c8 : S.1 = 6
    · rw [if_pos c8]; exact hW
    · rw [if_neg c8]
      simp only [okHand, Bool.and_eq_true] at ok
      obtain ⟨⟨o1, o2⟩, o3⟩ := ok
      intro i hi
      have hi' : i < S.1 + 1 := hi
      simp only [tpush]
      by_cases e : i = S.1
      · simp only [if_pos e, rowH]
        exact ⟨inZ_t.mp o1, inZ_t.mp o2, inZ_t.mp o3⟩
      · simp only [if_neg e]
        exact hW i (by omega)
  · rw [if_neg ok]; exact hW
theorem Wtr_mono {S H S' H' T : TB} (hW : Wtr S H T) (h1 : S.1 ≤ S'.1) (h2 : H.1 ≤ H'.1) : Wtr S' H' T := fun i hi => by
  obtain ⟨⟨s, a1, a2⟩, ⟨j, b1, b2⟩, c⟩ := hW i hi
  exact ⟨⟨s, by omega, a2⟩, ⟨j, by omega, b2⟩, c⟩
theorem u_stall_le (S : TB) (k p z c : Int32) : S.1 ≤ (u_stall S k p z c).1 := by
  unfold u_stall
  split
  · split
    · exact Nat.le_refl _
    · exact Nat.le_succ _
  · exact Nat.le_refl _
theorem u_hand_le (S : TB) (x y v : Int32) : S.1 ≤ (u_hand S x y v).1 := by
  unfold u_hand
  split
  · split
    · exact Nat.le_refl _
    · exact Nat.le_succ _
  · exact Nat.le_refl _
theorem u_set_1 (S : TB) (s w v : Int32) : (u_set S s w v).1 = S.1 := by unfold u_set; split <;> rfl
theorem Wtr_push {S H T : TB} (hW : Wtr S H T) (hS : Wst S) {s j a w : Int32} (h1 : inZ s.toInt 0 (S.1 - 1) = true) (h2 : inZ j.toInt 0 (H.1 - 1) = true) (h3 : plB a = true) (h4 : w = 0 ∨ w = 1) (h8 : S.1 ≤ 8) (h6 : H.1 ≤ 6) : Wtr S H (tpush T (rowT s j a w (S.2 6 s.toNatClampNeg))) := by
  rcases ix_case s S.1 with ⟨i, hi, rfl, -⟩ | z
  · rcases ix_case j H.1 with ⟨k, hk, rfl, -⟩ | z
    · intro t ht
      have ht' : t < T.1 + 1 := ht
      simp only [tpush]
      by_cases e : t = T.1
      · have hc : (nI i).toNatClampNeg = i := nI_clamp (by omega)
        simp only [if_pos e, rowT]
        refine ⟨⟨i, hi, rfl⟩, ⟨k, hk, rfl⟩, h3, h4, ?_⟩
        rw [hc]
        exact (hS i hi).2.2.2.2.2.2
      · simp only [if_neg e]
        exact hW t (by omega)
    · rw [z] at h2; cases h2
  · rw [z] at h1; cases h1
theorem Wtr_shown {S H T : TB} (hW : Wtr S H T) (hS : Wst S) (h8 : S.1 ≤ 8) (h6 : H.1 ≤ 6) (s j a w : Int32) : Wtr S H (u_shown S H T s j a w) ∧ T.1 ≤ (u_shown S H T s j a w).1 := by
  unfold u_shown
  by_cases ok : okTry S H s j a w = true
  · rw [if_pos ok]
    by_cases c : T.1 = 60
    · rw [if_pos c]; exact ⟨hW, Nat.le_refl _⟩
    · rw [if_neg c]
      simp only [okTry, Bool.and_eq_true] at ok
      obtain ⟨⟨⟨o1, o2⟩, o3⟩, o4⟩ := ok
      refine ⟨Wtr_push hW hS o1 o2 o3 ?_ h8 h6, Nat.le_succ _⟩
      obtain ⟨q1, q2⟩ := inZ_t.mp o4
      rw [i32_eqZ, i32_eqZ, z_0, one_Z]; omega
  · rw [if_neg ok]; exact ⟨hW, Nat.le_refl _⟩
theorem Wtr_tried {S H T : TB} (hW : Wtr S H T) (hS : Wst S) (h8 : S.1 ≤ 8) (h6 : H.1 ≤ 6) (s j a d : Int32) : Wtr S H (u_tried S H T s j a d) ∧ T.1 ≤ (u_tried S H T s j a d).1 := by
  unfold u_tried
  by_cases ok : okTried S H s j a d = true
  · rw [if_pos ok]
    by_cases c : T.1 = 60
    · rw [if_pos c]; exact ⟨hW, Nat.le_refl _⟩
    · rw [if_neg c]
      simp only [okTried, Bool.and_eq_true] at ok
      obtain ⟨⟨⟨o1, o2⟩, o3⟩, o4⟩ := ok
      refine ⟨Wtr_push hW hS o1 o2 o3 ?_ h8 h6, Nat.le_succ _⟩
      unfold wonT
      split
      · exact Or.inr rfl
      · exact Or.inl rfl
  · rw [if_neg ok]; exact ⟨hW, Nat.le_refl _⟩
theorem Wtr_triesG {S H : TB} (hS : Wst S) (h8 : S.1 ≤ 8) (h6 : H.1 ≤ 6) (it : Nat → Int32) (sz p : Nat) : ∀ (d k c : Nat) (T : TB), Wtr S H T → Wtr S H (triesG S H it sz p d k c T).2 ∧ T.1 ≤ (triesG S H it sz p d k c T).2.1 := by
  intro d
  induction d with
  | zero => intro k c T hW; exact ⟨hW, Nat.le_refl _⟩
  | succ d ih =>
    intro k c T hW
    rw [triesG]
    split
    · obtain ⟨a1, a2⟩ := Wtr_shown hW hS h8 h6 (it (p + 4 * k)) (it (p + 4 * k + 1)) (it (p + 4 * k + 2)) (it (p + 4 * k + 3))
      obtain ⟨b1, b2⟩ := ih (k + 1) (if a_shown S H T (it (p + 4 * k)) (it (p + 4 * k + 1)) (it (p + 4 * k + 2)) (it (p + 4 * k + 3)) < 0 then c else c + 1) _ a1
      exact ⟨b1, by omega⟩
    · exact ⟨hW, Nat.le_refl _⟩
theorem Wtr_tries {S H T : TB} {Z : SZ} (hW : Wtr S H T) (hS : Wst S) (h8 : S.1 ≤ 8) (h6 : H.1 ≤ 6) (p s f n : Int32) : Wtr S H (g_tries S H T Z p s f n).2 ∧ T.1 ≤ (g_tries S H T Z p s f n).2.1 := by
  unfold g_tries
  split
  · split
    · split
      · split
        · exact ⟨hW, Nat.le_refl _⟩
        · split
          · exact Wtr_triesG hS h8 h6 _ _ _ _ _ _ _ hW
          · exact ⟨hW, Nat.le_refl _⟩
      · exact ⟨hW, Nat.le_refl _⟩
    · exact ⟨hW, Nat.le_refl _⟩
  · exact ⟨hW, Nat.le_refl _⟩
theorem Wte_test {D : DT} (hW : Wte D) (hr a : Int32) : Wte (g_test D hr a).2 := by
  unfold g_test
  by_cases c1 : inZ hr.toInt 1 20 = true
  · rw [if_pos c1]
    by_cases c2 : okA a = true
    · rw [if_pos c2]
      by_cases c3 : D.1 = 6
      · rw [if_pos c3]; exact hW
      · rw [if_neg c3]
        have c2' := c2
        simp only [okA, Bool.and_eq_true] at c2'
        intro i hi
        have hi' : i < D.1 + 1 := hi
        simp only [dpush]
        by_cases e : i = D.1
        · simp only [if_pos e]
          obtain ⟨h1, h2⟩ := inZ_t.mp c1
          obtain ⟨h3, h4⟩ := inZ_t.mp c2'.1
          refine ⟨?_, ?_, c2'.2⟩
          · show 1 ≤ hr.toInt.toNat ∧ hr.toInt.toNat ≤ 20; omega
          · show a.toInt.toNat ≤ 333333; omega
        · simp only [if_neg e]
          exact hW i (by omega)
    · rw [if_neg c2]; exact hW
  · rw [if_neg c1]; exact hW
theorem byL_Z (y : Int64) (k : Nat) : 0 ≤ (byL y k).toInt ∧ (byL y k).toInt ≤ 255 := by
  unfold byL
  generalize (y >>> (((8 : Int32) * nI k).toInt64 &&& 63)).toInt32 = x
  have h : (x &&& (255 : Int32)).toBitVec.toNat ≤ 255 := by
    rw [Int32.toBitVec_and, BitVec.toNat_and]
    exact Nat.and_le_right
  have e : (x &&& (255 : Int32)).toInt = ((x &&& (255 : Int32)).toBitVec.toNat : Int) := by
    show (x &&& (255 : Int32)).toBitVec.toInt = _
    rw [BitVec.toInt_eq_toNat_of_lt (by omega)]
  omega
theorem Wby_feedG (y : Int64) : ∀ (d k : Nat) (B : BT), Wby B.2 B.1 → Wby (feedG y d k B).2 (feedG y d k B).1 := by
  intro d
  induction d with
  | zero => intro k B h; exact h
  | succ d ih =>
    intro k B h
    rw [feedG]
    refine ih _ _ (fun i hi => ?_)
    have hi' : i < B.1 + 1 := hi
    simp only [bpush]
    by_cases e : i = B.1
    · rw [if_pos e]; exact byL_Z y k
    · rw [if_neg e]; exact h i (by omega)
theorem Wby_feed {B : BT} (hW : Wby B.2 B.1) (n : Int32) (y : Int64) : Wby (g_feed B n y).2.2 (g_feed B n y).2.1 := by
  unfold g_feed
  split
  · split
    · exact Wby_feedG y _ _ _ hW
    · exact hW
  · exact hW
theorem Wby_text {X : XT} {B : BT} (hW : Wby B.2 B.1) : Wby (u_textB X B).2 (u_textB X B).1 := by
  unfold u_textB
  split
  · exact hW
  · intro i hi
    have : i < 0 := hi
    omega
theorem Wtx_text {X : XT} {B : BT} (hW : Wtx X) (hB : Wby B.2 B.1) (h160 : B.1 ≤ 160) : Wtx (u_textX X B) ∧ X.1 ≤ (u_textX X B).1 := by
  unfold u_textX
  by_cases c : X.1 = 6
  · rw [if_pos c]; exact ⟨hW, Nat.le_refl _⟩
  · rw [if_neg c]
    cases hq : apT (tkc B.2 B.1) with
    | inl j => exact ⟨hW, Nat.le_refl _⟩
    | inr q =>
      refine ⟨fun i hi => ?_, Nat.le_succ _⟩
      have hi' : i < X.1 + 1 := hi
      show okBT (if i = X.1 then B else X.2 i)
      by_cases e : i = X.1
      · rw [if_pos e]; exact ⟨h160, hB, q, hq⟩
      · rw [if_neg e]; exact hW i (by omega)
/-- what was kept may be laid back -/
def WI (I : IM) (S T : TB) (X : XT) : Prop := I.1 = true → I.2.1 ≤ S.1 ∧ I.2.2.2.1 ≤ T.1 ∧ (∃ r, r < X.1 ∧ I.2.2.1 = nI r) ∧ ∀ i, i < I.2.1 → (1 ≤ (I.2.2.2.2 3 i).toInt ∧ (I.2.2.2.2 3 i).toInt ≤ 99) ∧ (0 ≤ (I.2.2.2.2 4 i).toInt ∧ (I.2.2.2.2 4 i).toInt ≤ 999) ∧ (0 ≤ (I.2.2.2.2 5 i).toInt ∧ (I.2.2.2.2 5 i).toInt ≤ 999) ∧ (0 ≤ (I.2.2.2.2 6 i).toInt ∧ (I.2.2.2.2 6 i).toInt ≤ 1)
theorem WI.mono {I : IM} {S T S' T' : TB} {X X' : XT} (h : WI I S T X) (h1 : S.1 ≤ S'.1) (h2 : T.1 ≤ T'.1) (h3 : X.1 ≤ X'.1) : WI I S' T' X' := fun z => by
  obtain ⟨a1, a2, ⟨r, r1, r2⟩, a4⟩ := h z
  exact ⟨by omega, by omega, ⟨r, by omega, r2⟩, a4⟩
theorem Wst_bk {S T : TB} {I : IM} {X : XT} (hW : Wst S) (hI : WI I S T X) (h1 : I.1 = true) : Wst (u_bkS S I.2.1 I.2.2.2.2) := by
  obtain ⟨a1, a2, -, a4⟩ := hI h1
  intro i hi
  have hi' : i < S.1 := hi
  have q := hW i hi'
  simp only [u_bkS]
  by_cases e : i < I.2.1
  · have r := a4 i e
    simp only [if_pos e]
    exact ⟨q.1, q.2.1, q.2.2.1, r.1, r.2.1, r.2.2.1, r.2.2.2⟩
  · simp only [if_neg e]
    exact q
theorem WI_image {S T : TB} {X : XT} {p : Nat} (hW : Wst S) (hp : p < X.1) : WI (u_image S T (nI p)) S T X := fun _ => ⟨Nat.le_refl _, Nat.le_refl _, ⟨p, hp, rfl⟩, fun i hi => by
  have q := hW i hi
  exact ⟨q.2.2.2.1, q.2.2.2.2.1, q.2.2.2.2.2.1, q.2.2.2.2.2.2⟩⟩
theorem Wtr_bk {S H T : TB} {I : IM} (hW : Wtr S H T) (h : I.2.2.2.1 ≤ T.1) : Wtr (u_bkS S I.2.1 I.2.2.2.2) H (u_bkT T I.2.2.2.1) := fun i hi => by
  have hi' : i < I.2.2.2.1 := hi
  exact hW i (by omega)
/-! the two halves -/
def MV (S H T : TB) (D : DT) (B : BT) (X : XT) (I : IM) (Z : SZ) (r : Nat) (h : HS) : Prop := LY TM h ∧ Mst S h ∧ Mha H h ∧ Mtr T h ∧ Mte D h ∧ Mtp B h ∧ Mtx X h ∧ Mim I h ∧ Msh Z h ∧ hI h 60 4 = nI r
def XV (S H T : TB) (D : DT) (B : BT) (X : XT) (I : IM) (Z : SZ) (r : Nat) (tg : Nat → Nat) (h : HS) : Prop := LY TX h ∧ Wx tg h ∧ Gz h ∧ Xst S tg h ∧ Xha H tg h ∧ Xtr T h ∧ Xte D h ∧ Xtp B h ∧ Xtx X tg h ∧ Xim I h ∧ Xsh Z tg h ∧ hI h 32 3 = nI r
def WV (S H T : TB) (D : DT) (B : BT) (X : XT) (I : IM) (r : Nat) : Prop := Wst S ∧ Wha H ∧ Wtr S H T ∧ Wte D ∧ Wby B.2 B.1 ∧ Wtx X ∧ WI I S T X ∧ r < X.1
def MX (h h' : HS) : Prop := ∀ b, 60 ≤ b ∧ b ≤ 88 → hI h' b = hI h b
theorem Fx.mx {A : Nat → Prop} {h h' : HS} (F : Fx A h h') (h89 : 89 ≤ hN h) (hA : ∀ b, 60 ≤ b → b ≤ 88 → ¬ A b) : MX h h' := fun b hb => funext fun k => (F.2 b (by omega) (hA b hb.1 hb.2)).1 k
theorem MV.mx {S H T : TB} {D : DT} {B : BT} {X : XT} {I : IM} {Z : SZ} {r : Nat} {h h' : HS} (M : MV S H T D B X I Z r h) (hY : LY TM h') (m : MX h h') : MV S H T D B X I Z r h' := by
  have q60 := m 60 (by decide); have q61 := m 61 (by decide); have q62 := m 62 (by decide); have q63 := m 63 (by decide); have q64 := m 64 (by decide)
  have q65 := m 65 (by decide); have q66 := m 66 (by decide); have q67 := m 67 (by decide); have q68 := m 68 (by decide); have q69 := m 69 (by decide)
  have q70 := m 70 (by decide); have q71 := m 71 (by decide); have q72 := m 72 (by decide); have q73 := m 73 (by decide); have q74 := m 74 (by decide)
  have q75 := m 75 (by decide); have q76 := m 76 (by decide); have q77 := m 77 (by decide); have q78 := m 78 (by decide); have q79 := m 79 (by decide)
  have q80 := m 80 (by decide); have q84 := m 84 (by decide); have q85 := m 85 (by decide); have q86 := m 86 (by decide); have q87 := m 87 (by decide); have q88 := m 88 (by decide)
  obtain ⟨-, m1, m2, m3, m4, m5, m6, m7, m8, m9⟩ := M
  refine ⟨hY, ?_, ?_, ?_, ?_, ?_, ?_, ?_, ?_, ?_⟩
  · unfold Mst at *; rw [q60, q64, q65, q66, q67, q68, q69, q70]; exact m1
  · unfold Mha at *; rw [q60, q71, q72, q73]; exact m2
  · unfold Mtr at *; rw [q60, q74, q75, q76, q77, q78]; exact m3
  · unfold Mte at *; rw [q60, q79, q80]; exact m4
  · unfold Mtp at *; rw [q60, q63]; exact m5
  · unfold Mtx at *; rw [q60, q61, q62]; exact m6
  · unfold Mim Rim at *; rw [q60, q84]; exact m7
  · unfold Msh at *; rw [q85, q86, q87, q88]; exact m8
  · rw [q60]; exact m9
theorem Xte.raw {D : DT} {A : Nat → Prop} {tg : Nat → Nat} {h h' : HS} (hX : Xte D h) (hw : Wx tg h) (F : Fx A h h') (h0 : hI h' 32 8 = hI h 32 8) (h1 : ¬ A 37) (h2 : ¬ A 38) : Xte D h' := by
  have q1 := (F.2 37 (by have := hw.2.2; omega) h1).1
  have q2 := (F.2 38 (by have := hw.2.2; omega) h2).1
  unfold Xte
  simp only [h0, q1, q2]
  exact hX
theorem Xtr.raw {T : TB} {A : Nat → Prop} {tg : Nat → Nat} {h h' : HS} (hX : Xtr T h) (hw : Wx tg h) (F : Fx A h h') (h0 : hI h' 32 5 = hI h 32 5) (h1 : ¬ A 36) : Xtr T h' := by
  have q1 := (F.2 36 (by have := hw.2.2; omega) h1).1
  unfold Xtr
  simp only [h0, q1]
  exact hX
theorem Fr.fx {g : Nat} {h h' : HS} (F : Fr g h h') (hg : g ≤ 8) : Fx (fun b => 60 ≤ b ∧ b ≤ 88) h h' := by
  obtain ⟨f1, f2, f3, f4, f5, f6, f7⟩ := F
  have gr : ∀ b k, ¬ (60 ≤ b ∧ b ≤ 88) → grp b k = 99 := fun b k hb => by
    unfold grp
    by_cases c : b < 60
    · rw [if_neg (by omega), if_pos c]
    · rw [if_neg (by omega), if_neg c, if_neg (by omega), if_neg (by omega), if_neg (by omega), if_neg (by omega), if_neg (by omega), if_neg (by omega), if_neg (by omega), if_neg (by omega), if_neg (by omega)]
  refine ⟨⟨by rw [f1]; exact Nat.le_refl _, fun a _ => ⟨by rw [f3], by rw [f4], fun k _ => by rw [f5]⟩⟩, fun b _ hA => ⟨fun k => f6 b k (by rw [gr b k hA]; omega) (by rw [gr b k hA]; omega), fun k => f7 b k (by rw [gr b k hA]; omega) (by rw [gr b k hA]; omega), fun k => by rw [f5]⟩⟩
/-- what the reference changes leaves the class's half -/
theorem XV.fr {S H T : TB} {D : DT} {B : BT} {X : XT} {I : IM} {Z : SZ} {r g : Nat} {tg : Nat → Nat} {h h' : HS} (P : XV S H T D B X I Z r tg h) (F0 : Fr g h h') (hg : g ≤ 8) : XV S H T D B X I Z r tg h' := by
  have F := F0.fx hg
  obtain ⟨p1, hw, p3, p4, p5, p6, p7, p8, p9, p10, p11, p12⟩ := P
  have h89 := hw.2.2
  have q32 := (F.2 32 (by omega) (by omega)).1
  exact ⟨LY.pr p1 okX F.1, hw.fx0 F0.1 F0.2.2.1, gz_of p3 hw F (by decide), p4.fx hw F (fun _ _ => rfl) (fun b hb z => by have := hw.1 b; omega), p5.fx hw F (fun _ _ => rfl) (fun b hb z => by have := hw.1 b; omega), p6.raw hw F (by rw [q32]) (by decide), p7.raw hw F (by rw [q32]) (by decide) (by decide), p8.fx hw F (by decide) (by decide), p9.fx hw F (fun _ _ => rfl) (fun b hb z => by have := hw.1 b; omega), p10.fx hw F (by decide) (by decide), p11.fx hw F (fun _ _ => rfl) (fun b hb z => by have := hw.1 b; omega), by rw [q32]; exact p12⟩
/-- a call that changes the class's scratch alone -/
theorem XV.scr {S H T : TB} {D : DT} {B : BT} {X : XT} {I : IM} {Z : SZ} {r : Nat} {tg : Nat → Nat} {A : Nat → Prop} {h h' : HS} (P : XV S H T D B X I Z r tg h) (F : Fx A h h') (hw' : Wx tg h') (hz : Gz h') (hA : ∀ b, A b → (48 ≤ b ∧ b ≤ 55) ∨ (50 ≤ tg b ∧ tg b < 56)) : XV S H T D B X I Z r tg h' := by
  obtain ⟨p1, hw, p3, p4, p5, p6, p7, p8, p9, p10, p11, p12⟩ := P
  have h89 := hw.2.2
  have nA : ∀ b, b < 48 → ¬ A b := fun b hb z => by
    have := hA b z
    have := hw.1 b
    omega
  have tA : ∀ b, tg b ≠ 0 → ¬ (50 ≤ tg b ∧ tg b < 56) → ¬ A b := fun b h1 h2 z => by
    have := hA b z
    have := hw.1 b h1
    omega
  have q32 := (F.2 32 (by omega) (nA _ (by decide))).1
  have gen : ∀ (c d e1 e2 : Nat), c < 48 → d ≠ 0 → ¬ (50 ≤ d ∧ d < 56) → (∀ x, e1 ≤ x → x < e2 → x ≠ 0 ∧ ¬ (50 ≤ x ∧ x < 56)) → ∀ b, b = c ∨ tg b = d ∨ (e1 ≤ tg b ∧ tg b < e2) → ¬ A b := by
    intro c d e1 e2 h1 h2 h3 h4 b hb
    rcases hb with hb | hb | hb
    · rw [hb]; exact nA _ h1
    · exact tA b (by omega) (by omega)
    · have := h4 _ hb.1 hb.2
      exact tA b this.1 this.2
  exact ⟨LY.pr p1 okX F.1, hw', hz, p4.fx hw F (fun _ _ => rfl) (gen _ _ _ _ (by decide) (by decide) (by decide) (fun x _ _ => by omega)), p5.fx hw F (fun _ _ => rfl) (gen _ _ _ _ (by decide) (by decide) (by decide) (fun x _ _ => by omega)), p6.raw hw F (by rw [q32]) (nA _ (by decide)), p7.raw hw F (by rw [q32]) (nA _ (by decide)) (nA _ (by decide)), p8.fx hw F (nA _ (by decide)) (nA _ (by decide)), p9.fx hw F (fun _ _ => rfl) (fun b hb => by
    rcases hb with hb | hb | hb | hb
    · rw [hb]; exact nA _ (by decide)
    · exact tA b (by omega) (by omega)
    · exact tA b (by omega) (by omega)
    · exact tA b (by omega) (by omega)), p10.fx hw F (nA _ (by decide)) (nA _ (by decide)), p11.fx hw F (fun _ _ => rfl) (fun b hb => by
    rcases hb with hb | hb | hb
    · rw [hb]; exact nA _ (by decide)
    · rw [hb]; exact nA _ (by decide)
    · exact tA b (by omega) (by omega)), by rw [q32]; exact p12⟩
