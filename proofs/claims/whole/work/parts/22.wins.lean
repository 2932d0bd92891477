
theorem lkn : lwk [] [] := trivial
theorem lk1 {a : Value} {as bs : List Value} (h : lwk as bs) : lwk (a :: as) (a :: bs) := ⟨Or.inr rfl, h⟩
theorem lk0 {a : Value} {as bs : List Value} (h : lwk as bs) : lwk (a :: as) (dum :: bs) := ⟨Or.inl rfl, h⟩
def cntF (f : Int → Bool) : Nat → Int → Nat
  | 0, _ => 0
  | t + 1, j => (if f j = true then 1 else 0) + cntF f t (j + 1)
def cnt2F (f : Int → Int → Bool) (w : Nat) (b0 : Int) : Nat → Int → Nat
  | 0, _ => 0
  | t + 1, i => cntF (f i) w b0 + cnt2F f w b0 t (i + 1)
def cntW (k z e a b : Int) (v : Nat) : Nat := cnt2F (fun i j => wonZ k z e (a + i) (b + j)) (2 * v + 1) (-v) (2 * v + 1) (-v)
theorem cntF_le (f : Int → Bool) : ∀ (t : Nat) (j : Int), cntF f t j ≤ t
  | 0, _ => Nat.le_refl 0
  | t + 1, j => by
    have := cntF_le f t (j + 1)
    show (if f j = true then 1 else 0) + _ ≤ _
    split <;> omega
theorem cnt2F_le (f : Int → Int → Bool) (w : Nat) (b0 : Int) : ∀ (t : Nat) (j : Int), cnt2F f w b0 t j ≤ t * w
  | 0, _ => by simp [cnt2F]
  | t + 1, j => by
    have h1 := cnt2F_le f w b0 t (j + 1)
    have h2 := cntF_le (f j) w b0
    show cntF (f j) w b0 + _ ≤ _
    rw [Nat.add_mul]; omega
theorem cntW_le (k z e a b : Int) (v : Nat) : cntW k z e a b v ≤ (2 * v + 1) * (2 * v + 1) := cnt2F_le _ _ _ _ _
theorem nI_Z {n : Nat} (h : n < 2 ^ 31) : (nI n).toInt = (n : Int) := nI_toInt h
theorem i32_1 {x : Int32} {X : Int} (h : x.toInt = X) (h2 : X < 2147483647) : (x + Int32.ofInt 1).toInt = X + 1 := by
  have := i32_lo x
  have e : (Int32.ofInt 1).toInt = 1 := rfl
  rw [i32_add (by omega) (by omega), h, e]

set_option maxHeartbeats 4000000 in
set_option maxRecDepth 20000 in
theorem t_X12_isStall {G : GE} (d : Nat) {h : HS} {s : Int32} {n : Nat} (hY : LY h) (hn : hI h 60 14 = nI n) (h8 : n ≤ 100) : CE G (d + 1) yX12_isStall miX12_isStall [.ref 60, .int s] h (some (.int (b2i (inZ s.toInt 0 (n - 1))))) (h) := by
  refine ce_of rfl (by decide) (fun q => by first | rfl | cases q) (Nat.le_of_ble_eq_true rfl) rfl ?_
  refine e_iload_n dX12_isStall_0 rfl ?_
  refine e_i2l dX12_isStall_1 ?_
  refine e_lconst (v := 0) dX12_isStall_2 (by decide) ?_
  refine g_aload_n dX12_isStall_3 rfl rfl ?_
  refine e_getI (hY.t rfl) flX12_122_13 dX12_isStall_4 rfl ?_
  refine e_iconst (v := 1) dX12_isStall_7 (by decide) ?_
  refine e_isub dX12_isStall_8 ?_
  refine e_i2l dX12_isStall_9 ?_
  refine s1 lmX12_125 lsX12_in msX12_in dX12_isStall_10 (t_X12_in (d + 0) (V := s.toInt) (L := 0) (M := n - 1) (i64_of s) rfl (by rw [i64_of, hn, i32_sub (by rw [nI_Z (by omega)]; simp; omega) (by rw [nI_Z (by omega)]; simp; omega), nI_Z (by omega)]; rfl)) rfl (Nat.le_of_ble_eq_true rfl) (by omega) ?_
  exact z_bret rfl dX12_isStall_13 (by rfl) rfl

set_option maxHeartbeats 4000000 in
set_option maxRecDepth 20000 in
theorem t_X12_isHand {G : GE} (d : Nat) {h : HS} {s : Int32} {n : Nat} (hY : LY h) (hn : hI h 60 18 = nI n) (h8 : n ≤ 100) : CE G (d + 1) yX12_isHand miX12_isHand [.ref 60, .int s] h (some (.int (b2i (inZ s.toInt 0 (n - 1))))) (h) := by
  refine ce_of rfl (by decide) (fun q => by first | rfl | cases q) (Nat.le_of_ble_eq_true rfl) rfl ?_
  refine e_iload_n dX12_isHand_0 rfl ?_
  refine e_i2l dX12_isHand_1 ?_
  refine e_lconst (v := 0) dX12_isHand_2 (by decide) ?_
  refine g_aload_n dX12_isHand_3 rfl rfl ?_
  refine e_getI (hY.t rfl) flX12_129_13 dX12_isHand_4 rfl ?_
  refine e_iconst (v := 1) dX12_isHand_7 (by decide) ?_
  refine e_isub dX12_isHand_8 ?_
  refine e_i2l dX12_isHand_9 ?_
  refine s1 lmX12_125 lsX12_in msX12_in dX12_isHand_10 (t_X12_in (d + 0) (V := s.toInt) (L := 0) (M := n - 1) (i64_of s) rfl (by rw [i64_of, hn, i32_sub (by rw [nI_Z (by omega)]; simp; omega) (by rw [nI_Z (by omega)]; simp; omega), nI_Z (by omega)]; rfl)) rfl (Nat.le_of_ble_eq_true rfl) (by omega) ?_
  exact z_bret rfl dX12_isHand_13 (by rfl) rfl

set_option maxHeartbeats 4000000 in
set_option maxRecDepth 20000 in
theorem t_X12_isPart {G : GE} (d : Nat) {h : HS} {s : Int32} : CE G (d + 1) yX12_isPart miX12_isPart [.int s] h (some (.int (b2i (inZ s.toInt 0 1)))) (h) := by
  refine ce_of rfl (by decide) (fun q => by first | rfl | cases q) (Nat.le_of_ble_eq_true rfl) rfl ?_
  refine e_iload_n dX12_isPart_0 rfl ?_
  refine e_i2l dX12_isPart_1 ?_
  refine e_lconst (v := 0) dX12_isPart_2 (by decide) ?_
  refine e_lconst (v := 1) dX12_isPart_3 (by decide) ?_
  refine s1 lmX12_125 lsX12_in msX12_in dX12_isPart_4 (t_X12_in (d + 0) (V := s.toInt) (L := 0) (M := 1) (i64_of s) rfl rfl) rfl (Nat.le_of_ble_eq_true rfl) (by omega) ?_
  exact z_bret rfl dX12_isPart_7 (by rfl) rfl

set_option maxHeartbeats 4000000 in
set_option maxRecDepth 20000 in
theorem t_X12_isSheet {G : GE} (d : Nat) {h : HS} {s : Int32} : CE G (d + 1) yX12_isSheet miX12_isSheet [.int s] h (some (.int (b2i (inZ s.toInt 0 3)))) (h) := by
  refine ce_of rfl (by decide) (fun q => by first | rfl | cases q) (Nat.le_of_ble_eq_true rfl) rfl ?_
  refine e_iload_n dX12_isSheet_0 rfl ?_
  refine e_i2l dX12_isSheet_1 ?_
  refine e_lconst (v := 0) dX12_isSheet_2 (by decide) ?_
  refine e_ldc2 lkX12_145 dX12_isSheet_3 ?_
  refine s1 lmX12_125 lsX12_in msX12_in dX12_isSheet_6 (t_X12_in (d + 0) (V := s.toInt) (L := 0) (M := 3) (i64_of s) rfl rfl) rfl (Nat.le_of_ble_eq_true rfl) (by omega) ?_
  exact z_bret rfl dX12_isSheet_9 (by rfl) rfl

set_option maxHeartbeats 4000000 in
set_option maxRecDepth 20000 in
theorem t_X12_allOf {G : GE} (d : Nat) {h : HS} {j V : Nat} (hY : LY h) (hj : j < 6) (hv : hI h 73 j = nI V) : CE G (d + 0) yX12_allOf miX12_allOf [.ref 60, .int (nI j)] h (some (.int (nI ((2 * V + 1) * (2 * V + 1))))) (h) := by
  refine ce_of rfl (by decide) (fun q => by first | rfl | cases q) (Nat.le_of_ble_eq_true rfl) rfl ?_
  refine e_iconst (v := 2) dX12_allOf_0 (by decide) ?_
  refine g_aload_n dX12_allOf_1 rfl rfl ?_
  refine e_getR (hY.t rfl) flX12_50_13 dX12_allOf_2 rfl (hY.r rfl) ?_
  refine e_iload_n dX12_allOf_5 rfl ?_
  refine x_iald (hY.t rfl) (ix_of hY rfl (ix_nI (by omega) (by decide))) dX12_allOf_6 ?_
  refine e_imul dX12_allOf_7 ?_
  refine e_iconst (v := 1) dX12_allOf_8 (by decide) ?_
  refine e_iadd dX12_allOf_9 ?_
  refine e_iconst (v := 2) dX12_allOf_10 (by decide) ?_
  refine g_aload_n dX12_allOf_11 rfl rfl ?_
  refine e_getR (hY.t rfl) flX12_50_13 dX12_allOf_12 rfl (hY.r rfl) ?_
  refine e_iload_n dX12_allOf_15 rfl ?_
  refine x_iald (hY.t rfl) (ix_of hY rfl (ix_nI (by omega) (by decide))) dX12_allOf_16 ?_
  refine e_imul dX12_allOf_17 ?_
  refine e_iconst (v := 1) dX12_allOf_18 (by decide) ?_
  refine e_iadd dX12_allOf_19 ?_
  refine e_imul dX12_allOf_20 ?_
  exact z_iret rfl rfl dX12_allOf_21 (by rw [hv, show (2 : Int32) = nI 2 from rfl, show (1 : Int32) = nI 1 from rfl, pk_mul, nI_add, pk_mul]) rfl

set_option maxHeartbeats 4000000 in
set_option maxRecDepth 20000 in
theorem l_X12_winsOf_in {G : GE} (d : Nat) {h h' : HS} {r : Option Value} {k q z e a b v aim : Int32} {j : Nat} {K Z E A B : Int} {V : Nat} (hk : k.toInt = K) (hz : z.toInt = Z) (he : e.toInt = E) (ha : a.toInt = A) (hb : b.toInt = B) (hv : v.toInt = V) (z0 : 0 ≤ Z) (z9 : Z ≤ 9) (e0 : 0 ≤ E) (e1 : E ≤ 1) (a0 : -200 ≤ A) (a1 : A ≤ 200) (b0 : -200 ≤ B) (b1 : B ≤ 200) (hV : V ≤ 5) {xi : Int32} {I : Int} (hi : xi.toInt = I) (i0 : -10 ≤ I) (i1 : I ≤ 10) : ∀ (t c : Nat) (xj : Int32) (J : Int), xj.toInt = J → -10 ≤ J → J + t = V + 1 → En G (d + 3) miX12_winsOf 112 [.ref 60, .int k, .int q, .int z, .int e, .int (nI j), .int aim, .int a, .int b, .int v, .int (nI (c + cntF (fun j => wonZ K Z E (A + I) (B + j)) t J)), .int xi, dum] [] h r h' → En G (d + 3) miX12_winsOf 69 [.ref 60, .int k, .int q, .int z, .int e, .int (nI j), .int aim, .int a, .int b, .int v, .int (nI c), .int xi, .int xj] [] h r h' := by
  intro t
  induction t with
  | zero =>
    intro c xj J hJ j0 ht kk
    refine e_iload dX12_winsOf_69 rfl ?_
    refine e_iload dX12_winsOf_71 rfl ?_
    refine zc_gt (tgt := 112) hJ hv dX12_winsOf_73 (by decide) (fun c73 => ?_) (fun c73 => absurd (by omega) c73)
    exact e_wk (lk1 (lk1 (lk1 (lk1 (lk1 (lk1 (lk1 (lk1 (lk1 (lk1 (lk1 (lk1 (lk0 lkn))))))))))))) kk
  | succ t ih =>
  intro c xj J hJ j0 ht kk
  refine e_iload dX12_winsOf_69 rfl ?_
  refine e_iload dX12_winsOf_71 rfl ?_
  refine zc_gt (tgt := 112) hJ hv dX12_winsOf_73 (by decide) (fun c73 => ?_) (fun c73 => ?_)
  · exact absurd c73 (by omega)
  · refine e_iload dX12_winsOf_76 rfl ?_
    refine e_iload_n dX12_winsOf_78 rfl ?_
    refine e_iload_n dX12_winsOf_79 rfl ?_
    refine e_iload dX12_winsOf_80 rfl ?_
    refine e_iload dX12_winsOf_82 rfl ?_
    refine e_iload dX12_winsOf_84 rfl ?_
    refine e_iadd dX12_winsOf_86 ?_
    refine e_iload dX12_winsOf_87 rfl ?_
    refine e_iload dX12_winsOf_89 rfl ?_
    refine e_iadd dX12_winsOf_91 ?_
    refine s1 lmX12_174 lsX12_isWon msX12_isWon dX12_winsOf_92 (t_X12_isWon (d + 0) (K := K) (Z := Z) (E := E) (A := A + I) (B := B + J) hk hz he (by rw [i32_add (by omega) (by omega), ha, hi]) (by rw [i32_add (by omega) (by omega), hb, hJ]) z0 z9 e0 e1 (by omega) (by omega) (by omega) (by omega)) rfl (Nat.le_of_ble_eq_true rfl) (by omega) ?_
    refine e_ifB_eq (tgt := 102) dX12_winsOf_95 (by decide) (fun c95 => ?_) (fun c95 => ?_)
    · refine e_iconst (v := nI 0) dX12_winsOf_102 (by decide) ?_
      refine e_iadd dX12_winsOf_103 ?_
      first | refine e_ci (y := nI (c + 1)) (nI_add c 1) ?_ | refine e_ci (y := nI c) (nI_add c 0) ?_
      refine e_istore dX12_winsOf_104 (Nat.le_of_ble_eq_true rfl) rfl rfl ?_
      refine e_iinc dX12_winsOf_106 rfl rfl (Nat.le_of_ble_eq_true rfl) rfl rfl ?_
      refine e_goto (tgt := 69) dX12_winsOf_109 (by decide) ?_
      first
      | exact ih (c + 1) (xj + Int32.ofInt 1) (J + 1) (i32_1 hJ (by omega)) (by omega) (by omega) (by rw [show c + 1 + cntF (fun j => wonZ K Z E (A + I) (B + j)) t (J + 1) = c + cntF (fun j => wonZ K Z E (A + I) (B + j)) (t + 1) J by show _ = c + ((if wonZ K Z E (A + I) (B + J) = true then 1 else 0) + _); rw [if_pos c95]; omega]; exact kk)
      | exact ih c (xj + Int32.ofInt 1) (J + 1) (i32_1 hJ (by omega)) (by omega) (by omega) (by rw [show c + cntF (fun j => wonZ K Z E (A + I) (B + j)) t (J + 1) = c + cntF (fun j => wonZ K Z E (A + I) (B + j)) (t + 1) J by show _ = c + ((if wonZ K Z E (A + I) (B + J) = true then 1 else 0) + _); rw [if_neg (by rw [c95]; decide)]; omega]; exact kk)
    · refine e_iconst (v := nI 1) dX12_winsOf_98 (by decide) ?_
      refine e_goto (tgt := 103) dX12_winsOf_99 (by decide) ?_
      refine e_iadd dX12_winsOf_103 ?_
      first | refine e_ci (y := nI (c + 1)) (nI_add c 1) ?_ | refine e_ci (y := nI c) (nI_add c 0) ?_
      refine e_istore dX12_winsOf_104 (Nat.le_of_ble_eq_true rfl) rfl rfl ?_
      refine e_iinc dX12_winsOf_106 rfl rfl (Nat.le_of_ble_eq_true rfl) rfl rfl ?_
      refine e_goto (tgt := 69) dX12_winsOf_109 (by decide) ?_
      first
      | exact ih (c + 1) (xj + Int32.ofInt 1) (J + 1) (i32_1 hJ (by omega)) (by omega) (by omega) (by rw [show c + 1 + cntF (fun j => wonZ K Z E (A + I) (B + j)) t (J + 1) = c + cntF (fun j => wonZ K Z E (A + I) (B + j)) (t + 1) J by show _ = c + ((if wonZ K Z E (A + I) (B + J) = true then 1 else 0) + _); rw [if_pos c95]; omega]; exact kk)
      | exact ih c (xj + Int32.ofInt 1) (J + 1) (i32_1 hJ (by omega)) (by omega) (by omega) (by rw [show c + cntF (fun j => wonZ K Z E (A + I) (B + j)) t (J + 1) = c + cntF (fun j => wonZ K Z E (A + I) (B + j)) (t + 1) J by show _ = c + ((if wonZ K Z E (A + I) (B + J) = true then 1 else 0) + _); rw [if_neg (by rw [c95]; decide)]; omega]; exact kk)

set_option maxHeartbeats 4000000 in
set_option maxRecDepth 20000 in
theorem l_X12_winsOf_out {G : GE} (d : Nat) {h : HS}  {k q z e a b v aim : Int32} {j : Nat} {K Z E A B : Int} {V : Nat} (hk : k.toInt = K) (hz : z.toInt = Z) (he : e.toInt = E) (ha : a.toInt = A) (hb : b.toInt = B) (hv : v.toInt = V) (z0 : 0 ≤ Z) (z9 : Z ≤ 9) (e0 : 0 ≤ E) (e1 : E ≤ 1) (a0 : -200 ≤ A) (a1 : A ≤ 200) (b0 : -200 ≤ B) (b1 : B ≤ 200) (hV : V ≤ 5) : ∀ (t c : Nat) (xi : Int32) (I : Int), xi.toInt = I → -10 ≤ I → I + t = V + 1 → En G (d + 3) miX12_winsOf 57 [.ref 60, .int k, .int q, .int z, .int e, .int (nI j), .int aim, .int a, .int b, .int v, .int (nI c), .int xi, dum] [] h (some (.int (nI (c + cnt2F (fun i j => wonZ K Z E (A + i) (B + j)) (2 * V + 1) (-V) t I)))) h := by
  intro t
  induction t with
  | zero =>
    intro c xi I hI i0 ht
    refine e_iload dX12_winsOf_57 rfl ?_
    refine e_iload dX12_winsOf_59 rfl ?_
    refine zc_gt (tgt := 118) hI hv dX12_winsOf_61 (by decide) (fun c73 => ?_) (fun c73 => absurd (by omega) c73)
    refine e_iload dX12_winsOf_118 rfl ?_
    exact z_iret rfl rfl dX12_winsOf_120 rfl rfl
  | succ t ih =>
  intro c xi I hI i0 ht
  refine e_iload dX12_winsOf_57 rfl ?_
  refine e_iload dX12_winsOf_59 rfl ?_
  refine zc_gt (tgt := 118) hI hv dX12_winsOf_61 (by decide) (fun c61 => ?_) (fun c61 => ?_)
  · exact absurd c61 (by omega)
  · refine e_iload dX12_winsOf_64 rfl ?_
    refine e_ineg dX12_winsOf_66 ?_
    refine e_istore dX12_winsOf_67 (Nat.le_of_ble_eq_true rfl) rfl rfl ?_
    refine l_X12_winsOf_in d hk hz he ha hb hv z0 z9 e0 e1 a0 a1 b0 b1 hV hI i0 (by omega) (2 * V + 1) c (-v) (-V) (by rw [i32_neg (by omega), hv]) (by omega) (by omega) ?_
    refine e_iinc dX12_winsOf_112 rfl rfl (Nat.le_of_ble_eq_true rfl) rfl rfl ?_
    refine e_goto (tgt := 57) dX12_winsOf_115 (by decide) ?_
    have q := ih (c + cntF ((fun i j => wonZ K Z E (A + i) (B + j)) I) (2 * V + 1) (-V)) (xi + Int32.ofInt 1) (I + 1) (i32_1 hI (by omega)) (by omega) (by omega)
    rw [Nat.add_assoc] at q
    exact q

theorem i32_d100 {x : Int32} {X : Int} (hx : x.toInt = X) (h0 : 0 ≤ X) : (x / 100).toInt = X / 100 := by
  rw [i32_div (by decide), hx, Int.tdiv_eq_ediv_of_nonneg h0]; rfl
theorem i32_r100 {x : Int32} {X : Int} (hx : x.toInt = X) (h0 : 0 ≤ X) : (x - x / 100 * 100).toInt = X % 100 := by
  rw [i32_rem hx (q := 100) rfl (by decide), Int.tmod_eq_emod_of_nonneg h0]

set_option maxHeartbeats 4000000 in
set_option maxRecDepth 20000 in
theorem t_X12_winsOf {G : GE} (d : Nat) {h : HS} {k q z e aim : Int32} {j V : Nat} {K Q Z E P X Y : Int} (hY : LY h) (hj : j < 6) (hk : k.toInt = K) (hq : q.toInt = Q) (hz : z.toInt = Z) (he : e.toInt = E) (hp : aim.toInt = P) (hx : (hI h 71 j).toInt = X) (hy : (hI h 72 j).toInt = Y) (hv : hI h 73 j = nI V) (z0 : 0 ≤ Z) (z9 : Z ≤ 9) (e0 : 0 ≤ E) (e1 : E ≤ 1) (q0 : 0 ≤ Q) (q1 : Q < 2000) (p0 : 0 ≤ P) (p1 : P < 2000) (x0 : -5 ≤ X) (x1 : X ≤ 5) (y0 : -5 ≤ Y) (y1 : Y ≤ 5) (hV : V ≤ 5) : CE G (d + 3) yX12_winsOf miX12_winsOf [.ref 60, .int k, .int q, .int z, .int e, .int (nI j), .int aim] h (some (.int (nI (cntW K Z E (P / 100 + X - Q / 100) (P % 100 + Y - Q % 100) V)))) (h) := by
  refine ce_of rfl (by decide) (fun q => by first | rfl | cases q) (Nat.le_of_ble_eq_true rfl) rfl ?_
  refine e_iload dX12_winsOf_0 rfl ?_
  refine e_bipush (v := 100) dX12_winsOf_2 (by decide) ?_
  refine e_idiv dX12_winsOf_4 (by decide) ?_
  refine g_aload_n dX12_winsOf_5 rfl rfl ?_
  refine e_getR (hY.t rfl) flX12_44_13 dX12_winsOf_6 rfl (hY.r rfl) ?_
  refine e_iload dX12_winsOf_9 rfl ?_
  refine x_iald (hY.t rfl) (ix_of hY rfl (ix_nI (by omega) (by decide))) dX12_winsOf_11 ?_
  refine e_iadd dX12_winsOf_12 ?_
  refine e_iload_n dX12_winsOf_13 rfl ?_
  refine e_bipush (v := 100) dX12_winsOf_14 (by decide) ?_
  refine e_idiv dX12_winsOf_16 (by decide) ?_
  refine e_isub dX12_winsOf_17 ?_
  refine e_istore dX12_winsOf_18 (Nat.le_of_ble_eq_true rfl) rfl rfl ?_
  refine e_iload dX12_winsOf_20 rfl ?_
  refine e_bipush (v := 100) dX12_winsOf_22 (by decide) ?_
  refine e_irem dX12_winsOf_24 (by decide) ?_
  refine g_aload_n dX12_winsOf_25 rfl rfl ?_
  refine e_getR (hY.t rfl) flX12_47_13 dX12_winsOf_26 rfl (hY.r rfl) ?_
  refine e_iload dX12_winsOf_29 rfl ?_
  refine x_iald (hY.t rfl) (ix_of hY rfl (ix_nI (by omega) (by decide))) dX12_winsOf_31 ?_
  refine e_iadd dX12_winsOf_32 ?_
  refine e_iload_n dX12_winsOf_33 rfl ?_
  refine e_bipush (v := 100) dX12_winsOf_34 (by decide) ?_
  refine e_irem dX12_winsOf_36 (by decide) ?_
  refine e_isub dX12_winsOf_37 ?_
  refine e_istore dX12_winsOf_38 (Nat.le_of_ble_eq_true rfl) rfl rfl ?_
  refine g_aload_n dX12_winsOf_40 rfl rfl ?_
  refine e_getR (hY.t rfl) flX12_50_13 dX12_winsOf_41 rfl (hY.r rfl) ?_
  refine e_iload dX12_winsOf_44 rfl ?_
  refine x_iald (hY.t rfl) (ix_of hY rfl (ix_nI (by omega) (by decide))) dX12_winsOf_46 ?_
  refine e_istore dX12_winsOf_47 (Nat.le_of_ble_eq_true rfl) rfl rfl ?_
  refine e_iconst (v := nI 0) dX12_winsOf_49 (by decide) ?_
  refine e_istore dX12_winsOf_50 (Nat.le_of_ble_eq_true rfl) rfl rfl ?_
  refine e_iload dX12_winsOf_52 rfl ?_
  refine e_ineg dX12_winsOf_54 ?_
  refine e_istore dX12_winsOf_55 (Nat.le_of_ble_eq_true rfl) rfl rfl ?_
  have g1 := i32_d100 hp p0
  have g2 := i32_d100 hq q0
  have g3 := i32_r100 hp p0
  have g4 := i32_r100 hq q0
  have e1' : (aim / 100 + hI h 71 j).toInt = P / 100 + X := by rw [i32_add (by omega) (by omega), g1, hx]
  have e2' : (aim - aim / 100 * 100 + hI h 72 j).toInt = P % 100 + Y := by rw [i32_add (by omega) (by omega), g3, hy]
  have e3' : (aim / 100 + hI h 71 j - q / 100).toInt = P / 100 + X - Q / 100 := by rw [i32_sub (by omega) (by omega), e1', g2]
  have e4' : (aim - aim / 100 * 100 + hI h 72 j - (q - q / 100 * 100)).toInt = P % 100 + Y - Q % 100 := by rw [i32_sub (by omega) (by omega), e2', g4]
  have hv2 : (hI h 73 j).toInt = V := by rw [hv, nI_Z (by omega)]
  have q := l_X12_winsOf_out (G := G) d (h := h) (q := q) (j := j) (aim := aim) (V := V) (A := P / 100 + X - Q / 100) (B := P % 100 + Y - Q % 100) hk hz he e3' e4' hv2 z0 z9 e0 e1 (by omega) (by omega) (by omega) (by omega) hV (2 * V + 1) 0 (-(hI h 73 j)) (-V) (by rw [i32_neg (by omega), hv2]) (by omega) (by omega)
  rw [Nat.zero_add] at q
  exact q

set_option maxHeartbeats 4000000 in
set_option maxRecDepth 20000 in
theorem t_X12_winsAt {G : GE} (d : Nat) {h : HS} {aim : Int32} {i j V : Nat} {K Q Z E P X Y : Int} (hY : LY h) (hi : i < 8) (hj : j < 6) (hk : (hI h 64 i).toInt = K) (hq : (hI h 65 i).toInt = Q) (hz : (hI h 66 i).toInt = Z) (he : (hI h 70 i).toInt = E) (hp : aim.toInt = P) (hx : (hI h 71 j).toInt = X) (hy : (hI h 72 j).toInt = Y) (hv : hI h 73 j = nI V) (z0 : 0 ≤ Z) (z9 : Z ≤ 9) (e0 : 0 ≤ E) (e1 : E ≤ 1) (q0 : 0 ≤ Q) (q1 : Q < 2000) (p0 : 0 ≤ P) (p1 : P < 2000) (x0 : -5 ≤ X) (x1 : X ≤ 5) (y0 : -5 ≤ Y) (y1 : Y ≤ 5) (hV : V ≤ 5) : CE G (d + 4) yX12_winsAt miX12_winsAt [.ref 60, .int (nI i), .int (nI j), .int aim] h (some (.int (nI (cntW K Z E (P / 100 + X - Q / 100) (P % 100 + Y - Q % 100) V)))) (h) := by
  refine ce_of rfl (by decide) (fun q => by first | rfl | cases q) (Nat.le_of_ble_eq_true rfl) rfl ?_
  refine g_aload_n dX12_winsAt_0 rfl rfl ?_
  refine g_aload_n dX12_winsAt_1 rfl rfl ?_
  refine e_getR (hY.t rfl) flX12_23_13 dX12_winsAt_2 rfl (hY.r rfl) ?_
  refine e_iload_n dX12_winsAt_5 rfl ?_
  refine x_iald (hY.t rfl) (ix_of hY rfl (ix_nI (by omega) (by decide))) dX12_winsAt_6 ?_
  refine g_aload_n dX12_winsAt_7 rfl rfl ?_
  refine e_getR (hY.t rfl) flX12_26_13 dX12_winsAt_8 rfl (hY.r rfl) ?_
  refine e_iload_n dX12_winsAt_11 rfl ?_
  refine x_iald (hY.t rfl) (ix_of hY rfl (ix_nI (by omega) (by decide))) dX12_winsAt_12 ?_
  refine g_aload_n dX12_winsAt_13 rfl rfl ?_
  refine e_getR (hY.t rfl) flX12_29_13 dX12_winsAt_14 rfl (hY.r rfl) ?_
  refine e_iload_n dX12_winsAt_17 rfl ?_
  refine x_iald (hY.t rfl) (ix_of hY rfl (ix_nI (by omega) (by decide))) dX12_winsAt_18 ?_
  refine g_aload_n dX12_winsAt_19 rfl rfl ?_
  refine e_getR (hY.t rfl) flX12_41_13 dX12_winsAt_20 rfl (hY.r rfl) ?_
  refine e_iload_n dX12_winsAt_23 rfl ?_
  refine x_iald (hY.t rfl) (ix_of hY rfl (ix_nI (by omega) (by decide))) dX12_winsAt_24 ?_
  refine e_iload_n dX12_winsAt_25 rfl ?_
  refine e_iload_n dX12_winsAt_26 rfl ?_
  refine v1 (hY.t rfl) (by decide) rfl rfl lmX12_180 liX12_winsOf lvX12_X12_winsOf msX12_winsOf dX12_winsAt_27 (t_X12_winsOf (d + 0) hY hj hk hq hz he hp hx hy hv z0 z9 e0 e1 q0 q1 p0 p1 x0 x1 y0 y1 hV) rfl (Nat.le_of_ble_eq_true rfl) (by omega) ?_
  exact z_iret rfl rfl dX12_winsAt_30 (by rfl) rfl
