/-! ===== cell, copy ===== -/
def sortI (s v : Int32) : Int32 := if s = 0 then v.toInt8.toInt32 else if s = 1 then v.toInt16.toInt32 else v
def a_cell (Z : SZ) (p i : Int32) : Int32 := if inZ p.toInt 0 3 = true then (if Z.1 p.toNatClampNeg = true then (if inZ i.toInt 0 ((Z.2.2.1 p.toNatClampNeg : Nat) - 1) = true then 1 else -12) else -11) else -2
def u_cell (Z : SZ) (p i v : Int32) : SZ := if (inZ p.toInt 0 3 && Z.1 p.toNatClampNeg && inZ i.toInt 0 ((Z.2.2.1 p.toNatClampNeg : Nat) - 1)) = true then (Z.1, Z.2.1, Z.2.2.1, fun q k => if q = p.toNatClampNeg then (if k = i.toNatClampNeg then sortI (Z.2.1 q) v else Z.2.2.2 q k) else Z.2.2.2 q k) else Z
theorem M_cell {Z : SZ} {h : HS} (hZ : Msh Z h) (p i v : Int32) : ∃ h', f_X12_cell p i v h = some (a_cell Z p i, h') ∧ Msh (u_cell Z p i v) h' ∧ Fr 8 h h' := by
  have e0 : (0 : Int64).toInt = 0 := rfl
  rcases sh_case p with ⟨q, hq, rfl, hz⟩ | hz
  · have hx := ixb_n (i := q) (n := 4) (by omega) (by decide)
    have hc : (nI q).toNatClampNeg = q := nI_clamp (by omega)
    obtain ⟨g1, g2⟩ := hZ q hq
    cases ht : Z.1 q
    · refine ⟨h, ?_, by simp [u_cell, hc, ht]; exact hZ, Fr.rf⟩
      have g3 : hI h 85 q = 0 := by simpa [ht] using g1
      unfold f_X12_cell
      simp only [M_isSheet, hz, Option.bind_some, if_true, hx, hc, g3, a_cell, ht]
      rfl
    · obtain ⟨b1, b2, b3, b4⟩ := g2 ht
      have g3 : hI h 85 q = 1 := by simpa [ht] using g1
      have g4 : ¬ hI h 85 q = 0 := by rw [g3]; decide
      rcases ix_case i (Z.2.2.1 q) with ⟨k, hk, rfl, hz2⟩ | hz2
      · have e1 : (40 : Int32) * nI q + nI k = nI (40 * q + k) := by rw [show (40 : Int32) = nI 40 from rfl, pk_mul, nI_add]
        have hck : (nI k).toNatClampNeg = k := nI_clamp (by omega)
        have hx2 := ixb_n (i := 40 * q + k) (n := 160) (by omega) (by decide)
        have hc2 : (nI (40 * q + k)).toNatClampNeg = 40 * q + k := nI_clamp (by omega)
        refine ⟨sI h 88 (40 * q + k) (sortI (Z.2.1 q) v), ?_, ?_, Fr.sI Fr.rf (Or.inl rfl)⟩
        · unfold f_X12_cell
          simp only [M_isSheet, hz, Option.bind_some, if_true, hx, hc, if_neg g4, f_in_eq, b1, b2, cnt_pred (show Z.2.2.1 q ≤ 1000 by omega), Int32.toInt_toInt64, e0, hz2, e1, hx2, hc2, a_cell, ht, sortI]
          split
          · rfl
          · split <;> rfl
        · have hu : (inZ (nI q).toInt 0 3 && Z.1 (nI q).toNatClampNeg && inZ (nI k).toInt 0 ((Z.2.2.1 (nI q).toNatClampNeg : Nat) - 1)) = true := by simp [hz, hc, ht, hz2]
          rw [u_cell, if_pos hu, hc, hck]
          intro r hr
          obtain ⟨y1, y2⟩ := hZ r hr
          refine ⟨by rw [hI_sI, if_neg (by decide)]; exact y1, fun z => ?_⟩
          obtain ⟨c1, c2, c3, c4⟩ := y2 z
          refine ⟨by rw [hI_sI, if_neg (by decide)]; exact c1, by rw [hI_sI, if_neg (by decide)]; exact c2, c3, fun j hj => ?_⟩
          rw [hI_sI, if_pos rfl]
          have hj' : j < Z.2.2.1 r := hj
          by_cases e : r = q
          · subst e
            simp only [if_true]
            by_cases e2 : j = k
            · subst e2; simp
            · rw [if_neg (by omega), if_neg e2]; exact c4 j hj
          · simp only [if_neg e]
            rw [if_neg (by omega)]; exact c4 j hj
      · refine ⟨h, ?_, by simp [u_cell, hc, hz2]; exact hZ, Fr.rf⟩
        unfold f_X12_cell
        simp only [M_isSheet, hz, Option.bind_some, if_true, hx, hc, if_neg g4, f_in_eq, b2, cnt_pred (show Z.2.2.1 q ≤ 1000 by omega), Int32.toInt_toInt64, e0, hz2, a_cell, ht]
        rfl
  · refine ⟨h, ?_, by simp [u_cell, hz]; exact hZ, Fr.rf⟩
    unfold f_X12_cell
    simp [M_isSheet, hz, a_cell]
theorem ofSort_eq (s v : Int32) : f_X11_ofSort s v = some (sortI s v) := by
  unfold f_X11_ofSort sortI
  split
  · rfl
  · split <;> rfl
theorem X_cell {Z : SZ} {tg : Nat → Nat} {h : HS} (hX : Xsh Z tg h) (hw : Wx tg h) (p i v : Int32) : ∃ h', f_X11_cell p i v h = some (a_cell Z p i, h') ∧ Xsh (u_cell Z p i v) tg h' ∧ Wx tg h' ∧ Fx (fun b => 60 ≤ tg b ∧ tg b < 64) h h' := by
  rcases sh_case p with ⟨q, hq, rfl, hz⟩ | hz
  · have hx := ixb_n (i := q) (n := 4) (by omega) (by decide)
    have hc : (nI q).toNatClampNeg = q := nI_clamp (by omega)
    obtain ⟨g1, g2⟩ := hX q hq
    cases ht : Z.1 q
    · refine ⟨h, ?_, by simp [u_cell, hc, ht]; exact hX, hw, Fx.rf⟩
      unfold f_X11_cell
      simp only [isSheet_eq, hz, Option.bind_some, if_true, hx, hc, g2 ht, om_none, a_cell, ht]
      rfl
    · obtain ⟨a, a1, a2, a3, a4, a5, a6, a7⟩ := g1 ht
      have ha := hw.1 a (by omega)
      rcases ix_case i (Z.2.2.1 q) with ⟨k, hk, rfl, hz2⟩ | hz2
      · have hck : (nI k).toNatClampNeg = k := nI_clamp (by omega)
        have hx2 := ixb_n (i := k) (n := Z.2.2.1 q) hk (by omega)
        refine ⟨sI h a k (sortI (Z.2.1 q) v), ?_, ?_, hw.sI, Fx.sI Fx.rf (Or.inl (by omega))⟩
        · unfold f_X11_cell
          simp only [isSheet_eq, hz, Option.bind_some, if_true, hx, hc, a1, om_some, a3, a4, f_isIn_eq, cnt_pred2 (show Z.2.2.1 q ≤ 1000 by omega), z_0, hz2, a5, ofSort_eq, hx2, hck, a_cell, ht]
        · have hu : (inZ (nI q).toInt 0 3 && Z.1 (nI q).toNatClampNeg && inZ (nI k).toInt 0 ((Z.2.2.1 (nI q).toNatClampNeg : Nat) - 1)) = true := by simp [hz, hc, ht, hz2]
          rw [u_cell, if_pos hu, hc, hck]
          intro r hr
          obtain ⟨y1, y2⟩ := hX r hr
          refine ⟨fun z => ?_, fun z => y2 z⟩
          obtain ⟨b, b1, b2, b3, b4, b5, b6, b7⟩ := y1 z
          refine ⟨b, b1, b2, b3, b4, by rw [hI_sI, if_neg (by omega)]; exact b5, b6, fun j hj => ?_⟩
          by_cases e : r = q
          · subst e
            cases a1.symm.trans b1
            rw [hI_sI, if_pos rfl]
            simp only [if_true]
            by_cases e2 : j = k
            · subst e2; simp
            · rw [if_neg e2, if_neg e2]; exact b7 j hj
          · simp only [if_neg e]
            rw [hI_sI, if_neg (fun z2 => by rw [z2] at b2; omega)]; exact b7 j hj
      · refine ⟨h, ?_, by simp [u_cell, hc, hz2]; exact hX, hw, Fx.rf⟩
        unfold f_X11_cell
        simp only [isSheet_eq, hz, Option.bind_some, if_true, hx, hc, a1, om_some, a3, a4, f_isIn_eq, cnt_pred2 (show Z.2.2.1 q ≤ 1000 by omega), z_0, hz2, a_cell, ht]
        rfl
  · refine ⟨h, ?_, by simp [u_cell, hz]; exact hX, hw, Fx.rf⟩
    unfold f_X11_cell
    simp [isSheet_eq, hz, a_cell]
/-- whether n items lie from i on -/
def hasB (n : Nat) (i k : Int32) : Bool := decide (0 ≤ i.toInt) && decide (0 ≤ k.toInt) && decide (i.toInt + k.toInt ≤ n)
def okCopy (Z : SZ) (p i o j n : Int32) : Int32 := if (inZ p.toInt 0 3 && inZ o.toInt 0 3) = true then (if (Z.1 p.toNatClampNeg && Z.1 o.toNatClampNeg) = true then (if Z.2.1 p.toNatClampNeg = Z.2.1 o.toNatClampNeg then (if (hasB (Z.2.2.1 p.toNatClampNeg) i n && hasB (Z.2.2.1 o.toNatClampNeg) j n) = true then 1 else -12) else -13) else -11) else -2
def a_copy (Z : SZ) (p i o j n : Int32) : Int32 := if okCopy Z p i o j n = 1 then n else okCopy Z p i o j n
def u_copy (Z : SZ) (p i o j n : Int32) : SZ := if okCopy Z p i o j n = 1 then (Z.1, Z.2.1, Z.2.2.1, fun q k => if q = o.toNatClampNeg then va_cpy (Z.2.2.2 p.toNatClampNeg) (Z.2.2.2 q) i.toNatClampNeg j.toNatClampNeg n.toNatClampNeg k else Z.2.2.2 q k) else Z
theorem hasItems_eq {h : HS} {a n : Nat} (ha : hT h a = 15) (hl : hLn h a = n) (hn : n ≤ 40) (i k : Int32) : f_X11_hasItems a i k h = some (hasB n i k) := by
  unfold f_X11_hasItems hasB
  have h1 := nI_Z (n := n) (by omega)
  simp only [ha, hl, if_true, i32_lt0, z_0, h1]
  by_cases c1 : i.toInt < 0
  · rw [if_pos c1]; congr 1; symm; simp; omega
  rw [if_neg c1]
  by_cases c2 : k.toInt < 0
  · rw [if_pos c2]; congr 1; symm; simp; omega
  rw [if_neg c2]
  by_cases c3 : (n : Int) < k.toInt
  · rw [if_pos c3]; congr 1; symm; simp; omega
  rw [if_neg c3, i32_subZ (by rw [h1]; omega) (by rw [h1]; omega), h1]
  by_cases c4 : (n : Int) - k.toInt < i.toInt
  · rw [if_pos c4]; congr 1; symm; simp; omega
  rw [if_neg c4]; congr 1; symm; simp; omega
theorem hasB_t {n : Nat} {i k : Int32} (h : hasB n i k = true) (hn : n ≤ 40) : ∃ a b, a + b ≤ n ∧ i = nI a ∧ k = nI b := by
  simp only [hasB, Bool.and_eq_true, decide_eq_true_eq] at h
  refine ⟨i.toInt.toNat, k.toInt.toNat, by omega, ?_, ?_⟩
  · rw [i32_eqZ, nI_Z (by omega)]; omega
  · rw [i32_eqZ, nI_Z (by omega)]; omega
theorem X_copy {Z : SZ} {tg : Nat → Nat} {h : HS} (hX : Xsh Z tg h) (hw : Wx tg h) (p i o j n : Int32) : ∃ h', f_X11_copy p i o j n h = some (a_copy Z p i o j n, h') ∧ Xsh (u_copy Z p i o j n) tg h' ∧ Wx tg h' ∧ Fx (fun b => 60 ≤ tg b ∧ tg b < 64) h h' := by
  rcases sh_case p with ⟨q, hq, rfl, hz⟩ | hz
  · rcases sh_case o with ⟨r, hr, rfl, hz2⟩ | hz2
    · have hx := ixb_n (i := q) (n := 4) (by omega) (by decide)
      have hx2 := ixb_n (i := r) (n := 4) (by omega) (by decide)
      have hc : (nI q).toNatClampNeg = q := nI_clamp (by omega)
      have hc2 : (nI r).toNatClampNeg = r := nI_clamp (by omega)
      obtain ⟨g1, g2⟩ := hX q hq
      obtain ⟨k1, k2⟩ := hX r hr
      cases ht : Z.1 q
      · have ok : okCopy Z (nI q) i (nI r) j n = -11 := by simp [okCopy, hz, hz2, hc, ht]
        refine ⟨h, ?_, by rw [u_copy, ok]; exact hX, hw, Fx.rf⟩
        unfold f_X11_copy a_copy
        rw [ok]
        simp only [isSheet_eq, hz, hz2, Option.bind_some, if_true, hx, hx2, hc, hc2, g2 ht, om_none]
        cases hR h 46 r <;> rfl
      · obtain ⟨a, a1, a2, a3, a4, a5, a6, a7⟩ := g1 ht
        cases ht2 : Z.1 r
        · have ok : okCopy Z (nI q) i (nI r) j n = -11 := by simp [okCopy, hz, hz2, hc, hc2, ht2]
          refine ⟨h, ?_, by rw [u_copy, ok]; exact hX, hw, Fx.rf⟩
          unfold f_X11_copy a_copy
          rw [ok]
          simp only [isSheet_eq, hz, hz2, Option.bind_some, if_true, hx, hx2, hc, hc2, a1, om_some, k2 ht2, om_none]
          rfl
        · obtain ⟨b, b1, b2, b3, b4, b5, b6, b7⟩ := k1 ht2
          by_cases hs : Z.2.1 q = Z.2.1 r
          · cases hb : hasB (Z.2.2.1 q) i n
            · have ok : okCopy Z (nI q) i (nI r) j n = -12 := by simp [okCopy, hz, hz2, hc, hc2, ht, ht2, hs, hb]
              refine ⟨h, ?_, by rw [u_copy, ok]; exact hX, hw, Fx.rf⟩
              unfold f_X11_copy a_copy
              rw [ok]
              simp only [isSheet_eq, hz, hz2, Option.bind_some, if_true, hx, hx2, hc, hc2, a1, b1, om_some, a5, b5, hs, hasItems_eq a3 a4 a6, hb]
              rfl
            · cases hb2 : hasB (Z.2.2.1 r) j n
              · have ok : okCopy Z (nI q) i (nI r) j n = -12 := by simp [okCopy, hz, hz2, hc, hc2, ht, ht2, hs, hb2]
                refine ⟨h, ?_, by rw [u_copy, ok]; exact hX, hw, Fx.rf⟩
                unfold f_X11_copy a_copy
                rw [ok]
                simp only [isSheet_eq, hz, hz2, Option.bind_some, if_true, hx, hx2, hc, hc2, a1, b1, om_some, a5, b5, hs, hasItems_eq a3 a4 a6, hasItems_eq b3 b4 b6, hb, hb2]
                rfl
              · have ok : okCopy Z (nI q) i (nI r) j n = 1 := by simp [okCopy, hz, hz2, hc, hc2, ht, ht2, hs, hb, hb2]
                obtain ⟨x, m, x1, rfl, rfl⟩ := hasB_t hb a6
                obtain ⟨y, m2, y1, rfl, hm⟩ := hasB_t hb2 b6
                have : m = m2 := (nI_eq (by omega) (by omega)).mp hm
                subst this
                have cx : (nI x).toNatClampNeg = x := nI_clamp (by omega)
                have cy : (nI y).toNatClampNeg = y := nI_clamp (by omega)
                have cm : (nI m).toNatClampNeg = m := nI_clamp (by omega)
                have hcp : cpb (nI x) (nI y) (nI m) (Z.2.2.1 q) (Z.2.2.1 r) = true := by
                  unfold cpb
                  rw [cx, cy, cm]
                  simp [nI_pos (show x < 2 ^ 31 by omega), nI_pos (show y < 2 ^ 31 by omega), nI_pos (show m < 2 ^ 31 by omega), x1, y1]
                refine ⟨sC h a x b y m, ?_, ?_, ⟨hw.1, hw.2.1, hw.2.2⟩, ⟨Pr.rf.sC, fun c hc3 hA => ⟨fun k => ?_, fun _ => rfl, fun _ => rfl⟩⟩⟩
                · unfold f_X11_copy a_copy
                  simp only [isSheet_eq, hz, hz2, Option.bind_some, if_true, hx, hx2, hc, hc2, a1, b1, om_some, a5, b5, hs, hasItems_eq a3 a4 a6, hasItems_eq b3 b4 b6, hb, hb2, a3, b3, a4, b4, hcp, cx, cy, cm, ok]
                · rw [u_copy, if_pos ok, hc, hc2, cx, cy, cm]
                  intro u hu
                  obtain ⟨w1, w2⟩ := hX u hu
                  refine ⟨fun z => ?_, fun z => w2 z⟩
                  obtain ⟨d, d1, d2, d3, d4, d5, d6, d7⟩ := w1 z
                  have hb0 := hw.1 b (by omega)
                  refine ⟨d, d1, d2, d3, d4, ?_, d6, fun k hk => ?_⟩
                  · show (if 47 = b then _ else hI h 47 u) = _
                    rw [if_neg (by omega)]; exact d5
                  · show (if d = b then va_cpy (hI h a) (hI h b) x y m k else hI h d k) = _
                    by_cases e : u = r
                    · subst e
                      cases b1.symm.trans d1
                      simp only [if_true]
                      unfold va_cpy
                      split
                      · exact a7 _ (by omega)
                      · exact d7 k hk
                    · simp only [if_neg e]
                      rw [if_neg (fun z2 => by rw [z2] at d2; omega)]
                      exact d7 k hk
                · show (if c = b then _ else hI h c k) = _
                  rw [if_neg (fun z => hA (by rw [z]; omega))]
          · have ok : okCopy Z (nI q) i (nI r) j n = -13 := by simp [okCopy, hz, hz2, hc, hc2, ht, ht2, hs]
            refine ⟨h, ?_, by rw [u_copy, ok]; exact hX, hw, Fx.rf⟩
            unfold f_X11_copy a_copy
            rw [ok]
            simp only [isSheet_eq, hz, hz2, Option.bind_some, if_true, hx, hx2, hc, hc2, a1, b1, om_some, a5, b5, hs]
            rfl
    · have ok : okCopy Z (nI q) i o j n = -2 := by simp [okCopy, hz2]
      refine ⟨h, ?_, by rw [u_copy, ok]; exact hX, hw, Fx.rf⟩
      unfold f_X11_copy a_copy
      rw [ok]
      simp [isSheet_eq, hz, hz2]
  · have ok : okCopy Z p i o j n = -2 := by simp [okCopy, hz]
    refine ⟨h, ?_, by rw [u_copy, ok]; exact hX, hw, Fx.rf⟩
    unfold f_X11_copy a_copy
    rw [ok]
    simp [isSheet_eq, hz]
