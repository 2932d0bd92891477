/-! ===== what the makers make ===== -/
def GB (h h' : HS) : Prop := hN h' ≤ hN h + 1000 ∧ hS h' ≤ hS h + 8000
theorem Nx.gb {h h' : HS} (e : Nx h h') : GB h h' := ⟨by rw [e.1]; omega, by rw [e.2.1]; omega⟩
theorem G_newStall {k p z c : Int32} {h : HS} {q : Option Nat × HS} (hz : hT h (hN h) = 0) (H : f_X11_newStall k p z c h = some q) : hN q.2 = hN h + 1 ∧ hS q.2 = hS h + 8 ∧ (∀ a j, a ≠ hN h → hI q.2 a j = hI h a j) ∧ hT q.2 = hT (hNew h (kcl k) 0 8) := by
  rw [newStall_eq hz] at H
  obtain rfl := Option.some.inj H
  refine ⟨rfl, rfl, fun a j ha => ?_, rfl⟩
  simp only [iniS, hI_sI, hI_sL, hI_sR, hL_sI, hL_sL, hL_sR, hR_sI, hR_sL, hR_sR, hT_sI, hT_sL, hT_sR, hLn_sI, hLn_sL, hLn_sR, hN_sI, hN_sL, hN_sR, hI_nw, if_neg ha]
theorem G_stall {S : TB} {tg : Nat → Nat} {h : HS} {k p z c : Int32} {q : Int32 × HS} (hX : Xst S tg h) (hw : Wx tg h) (H : f_X11_stall k p z c h = some q) : GB h q.2 := by
  obtain ⟨el, hl, -⟩ := hX
  have h89 := hw.2.2
  have h8 := hl.2.2.1
  unfold f_X11_stall at H
  replace H := ob H; obtain ⟨q1, c2, H⟩ := H
  replace H := oi H; obtain ⟨c3, H⟩ | ⟨c3, H⟩ := H
  · replace H := ob H; obtain ⟨q4, c5, H⟩ := H
    replace H := oi H; obtain ⟨c6, H⟩ | ⟨c6, H⟩ := H
    · replace H := ob H; obtain ⟨q7, c8, H⟩ := H
      replace H := oi H; obtain ⟨c9, H⟩ | ⟨c9, H⟩ := H
      · replace H := ob H; obtain ⟨q10, c11, H⟩ := H
        replace H := oi H; obtain ⟨c12, H⟩ | ⟨c12, H⟩ := H
        · replace H := og H; obtain ⟨g15, H⟩ := H
          replace H := ob H; obtain ⟨q13, c14, H⟩ := H
          replace H := oi H; obtain ⟨c16, H⟩ | ⟨c16, H⟩ := H
          · rw [hl.size] at c14
            obtain rfl := Option.some.inj c14
            have hn8 : S.1 < 8 := by
              rw [i32_lt0, nI_Z (by omega), show (8 : Int32).toInt = 8 from rfl] at c16; omega
            replace H := ob H; obtain ⟨q17, c18, H⟩ := H
            obtain ⟨e1, e2, e3, -⟩ := G_newStall (hw.2.1 _ (Nat.le_refl _)) c18
            replace H := oom H; obtain ⟨e19, H⟩ | ⟨b20, e19, H⟩ := H
            · exact nz H
            · replace H := ob H; obtain ⟨q24, c25, H⟩ := H
              obtain ⟨e4, e5⟩ := G_add (n := S.1) (by rw [e3 _ _ (by omega)]; exact hl.2.1) hn8 c25
              replace H := ob H; obtain ⟨q29, c30, H⟩ := H
              obtain rfl := Option.some.inj H
              exact ⟨by show hN q24.2 ≤ _; omega, by show hS q24.2 ≤ _; omega⟩
          · obtain rfl := Option.some.inj H
            exact Nx.gb Nx.rf
        · obtain rfl := Option.some.inj H
          exact Nx.gb Nx.rf
      · obtain rfl := Option.some.inj H
        exact Nx.gb Nx.rf
    · obtain rfl := Option.some.inj H
      exact Nx.gb Nx.rf
  · obtain rfl := Option.some.inj H
    exact Nx.gb Nx.rf
theorem G_hand {S : TB} {tg : Nat → Nat} {h : HS} {x y v : Int32} {q : Int32 × HS} (hX : Xha S tg h) (hw : Wx tg h) (H : f_X11_hand x y v h = some q) : GB h q.2 := by
  obtain ⟨h6, el, hl, -⟩ := hX
  have h89 := hw.2.2
  unfold f_X11_hand at H
  replace H := ob H; obtain ⟨q1, c2, H⟩ := H
  replace H := oi H; obtain ⟨c3, H⟩ | ⟨c3, H⟩ := H
  · replace H := ob H; obtain ⟨q4, c5, H⟩ := H
    replace H := oi H; obtain ⟨c6, H⟩ | ⟨c6, H⟩ := H
    · replace H := ob H; obtain ⟨q7, c8, H⟩ := H
      replace H := oi H; obtain ⟨c9, H⟩ | ⟨c9, H⟩ := H
      · replace H := og H; obtain ⟨g12, H⟩ := H
        replace H := ob H; obtain ⟨q10, c11, H⟩ := H
        replace H := oi H; obtain ⟨c13, H⟩ | ⟨c13, H⟩ := H
        · replace H := og H; obtain ⟨g14, H⟩ := H
          replace H := obh H; obtain ⟨h18, e19, H⟩ := H
          replace H := ob H; obtain ⟨q23, c24, H⟩ := H
          have e25 := n_X3_init c24
          have k34 : hI q23 34 2 = nI S.1 := by
            rw [← e19] at c24
            unfold f_X3_init at c24
            rw [if_pos (by rw [hT_nw, if_pos rfl]), bh_eq] at c24
            obtain rfl := Option.some.inj c24
            simp only [hI_sI, hI_sL, hI_sR, hL_sI, hL_sL, hL_sR, hR_sI, hR_sL, hR_sR, hT_sI, hT_sL, hT_sR, hLn_sI, hLn_sL, hLn_sR, hN_sI, hN_sL, hN_sR, hI_nw, if_neg (show ¬ 34 = hN h by omega)]
            exact hl.2.1
          replace H := ob H; obtain ⟨q29, c30, H⟩ := H
          obtain ⟨e4, e5⟩ := G_add (n := S.1) k34 (by omega) c30
          replace H := ob H; obtain ⟨q35, c36, H⟩ := H
          obtain rfl := Option.some.inj H
          have x1 : hN h18 = hN h + 1 := by rw [← e19]; rfl
          have x2 : hS h18 = hS h + 5 := by rw [← e19]; rfl
          have y1 := e25.1
          have y2 := e25.2.1
          exact ⟨by show hN q29.2 ≤ _; omega, by show hS q29.2 ≤ _; omega⟩
        · obtain rfl := Option.some.inj H
          exact Nx.gb Nx.rf
      · obtain rfl := Option.some.inj H
        exact Nx.gb Nx.rf
    · obtain rfl := Option.some.inj H
      exact Nx.gb Nx.rf
  · obtain rfl := Option.some.inj H
    exact Nx.gb Nx.rf
theorem G_make69 {y1 y3 y4 y5 : Int32} {y6 : Nat} {tg : Nat → Nat} : ∀ (n : Nat) {x7 x8 x9 : Int32} {h : HS} {q : Int32 × HS}, (∀ a, hN h ≤ a → hT h a = 0) → l_X11_make_69 y1 y3 y4 y5 y6 n x7 x8 x9 h = some q → hN q.2 ≤ hN h + n ∧ hS q.2 ≤ hS h + 8 * n := by
  intro n
  induction n with
  | zero => intro x7 x8 x9 h q _ H; exact nz H
  | succ n ih =>
    intro x7 x8 x9 h q hz H
    unfold l_X11_make_69 at H
    replace H := oi H; obtain ⟨c54, H⟩ | ⟨c54, H⟩ := H
    · obtain rfl := Option.some.inj H
      exact ⟨Nat.le_add_right _ _, Nat.le_add_right _ _⟩
    · replace H := ob H; obtain ⟨q55, c56, H⟩ := H
      obtain ⟨e1, e2, e3, e4⟩ := G_newStall (hz _ (Nat.le_refl _)) c56
      replace H := oom H; obtain ⟨e57, H⟩ | ⟨b58, e57, H⟩ := H
      · exact nz H
      · replace H := ob H; obtain ⟨q61, c62, H⟩ := H
        have e63 := n_X11_mostWinning c62
        have p63 := p_X11_mostWinning c62
        have y1 := e63.1
        have y2 := e63.2.1
        have t63 : ∀ a, hN q61.2 ≤ a → hT q61.2 a = 0 := by
          intro a ha
          rw [e63.2.2, e4, hT_nw, if_neg (by omega)]
          exact hz a (by omega)
        replace H := og H; obtain ⟨g65, H⟩ := H
        replace H := ob H; obtain ⟨q66, c67, H⟩ := H
        replace H := ob H; obtain ⟨q69, c71, H⟩ := H
        replace H := ob H; obtain ⟨q84, c85, H⟩ := H
        have := ih t63 H
        omega
theorem G_make {p1 p2 p3 p4 p5 : Int32} {tg : Nat → Nat} {h : HS} {q : Int32 × HS} (hw : Wx tg h) (H : f_X11_make p1 p2 p3 p4 p5 h = some q) : GB h q.2 := by
  unfold f_X11_make at H
  replace H := ob H; obtain ⟨q1, c2, H⟩ := H
  replace H := oom H; obtain ⟨e3, H⟩ | ⟨b4, e3, H⟩ := H
  · replace H := ob H; obtain ⟨q5, c6, H⟩ := H
    replace H := oi H; obtain ⟨c7, H⟩ | ⟨c7, H⟩ := H
    · obtain rfl := Option.some.inj H
      exact Nx.gb Nx.rf
    · obtain rfl := Option.some.inj H
      exact Nx.gb Nx.rf
  · replace H := ob H; obtain ⟨q9, c10, H⟩ := H
    replace H := oi H; obtain ⟨c11, H⟩ | ⟨c11, H⟩ := H
    · replace H := ob H; obtain ⟨q13, c14, H⟩ := H
      replace H := oi H; obtain ⟨c15, H⟩ | ⟨c15, H⟩ := H
      · replace H := ob H; obtain ⟨q16, c17, H⟩ := H
        replace H := oi H; obtain ⟨c18, H⟩ | ⟨c18, H⟩ := H
        · replace H := ob H; obtain ⟨q19, c20, H⟩ := H
          replace H := oi H; obtain ⟨c21, H⟩ | ⟨c21, H⟩ := H
          · replace H := ob H; obtain ⟨q86, c87, H⟩ := H
            have e88 := G_make69 (tg := tg) 1000 (fun a ha => hw.2.1 a ha) c87
            obtain rfl := Option.some.inj H
            exact ⟨e88.1, e88.2⟩
          · obtain rfl := Option.some.inj H
            exact Nx.gb Nx.rf
        · obtain rfl := Option.some.inj H
          exact Nx.gb Nx.rf
      · obtain rfl := Option.some.inj H
        exact Nx.gb Nx.rf
    · obtain rfl := Option.some.inj H
      exact Nx.gb Nx.rf
theorem nab_40 {n : Int32} (h : n ≤ 40) : n.toNatClampNeg ≤ 40 := by
  rw [i32_le0, show (40 : Int32).toInt = 40 from rfl] at h
  show n.toInt.toNat ≤ 40
  omega
theorem G_sheet {p1 p2 p3 : Int32} {h : HS} {q : Int32 × HS} (H : f_X11_sheet p1 p2 p3 h = some q) : GB h q.2 := by
  unfold f_X11_sheet at H
  replace H := ob H; obtain ⟨q1, c2, H⟩ := H
  replace H := oi H; obtain ⟨c3, H⟩ | ⟨c3, H⟩ := H
  · replace H := ob H; obtain ⟨q4, c5, H⟩ := H
    replace H := oi H; obtain ⟨c6, H⟩ | ⟨c6, H⟩ := H
    · replace H := oi H; obtain ⟨c7, H⟩ | ⟨c7, H⟩ := H
      · rw [if_pos c7, if_pos c7] at H
        replace H := og H; obtain ⟨g10, H⟩ := H
        replace H := og H; obtain ⟨g13, H⟩ := H
        obtain rfl := Option.some.inj H
        exact Nx.gb ⟨rfl, rfl, rfl⟩
      · replace H := oi H; obtain ⟨c46, H⟩ | ⟨c46, H⟩ := H
        · have hb := nab_40 c46
          simp only [if_neg c7] at H
          replace H := oi H; obtain ⟨c66, H⟩ | ⟨c66, H⟩ := H
          · replace H := og H; obtain ⟨g72, H⟩ := H
            replace H := og H; obtain ⟨g73, H⟩ := H
            replace H := obh H; obtain ⟨h76, e77, H⟩ := H
            replace H := og H; obtain ⟨g80, H⟩ := H
            replace H := og H; obtain ⟨g84, H⟩ := H
            obtain rfl := Option.some.inj H
            rw [← e77]
            exact ⟨by show hN h + 1 ≤ _; omega, by show hS h + p3.toNatClampNeg ≤ _; omega⟩
          · obtain rfl := Option.some.inj H
            exact Nx.gb Nx.rf
        · obtain rfl := Option.some.inj H
          exact Nx.gb Nx.rf
    · obtain rfl := Option.some.inj H
      exact Nx.gb Nx.rf
  · obtain rfl := Option.some.inj H
    exact Nx.gb Nx.rf
