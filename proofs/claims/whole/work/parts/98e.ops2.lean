/-! ===== force, text, back ===== -/
section
variable {S H T : TB} {D : DT} {B : BT} {X : XT} {I : IM} {Z : SZ} {r : Nat} {tg : Nat → Nat} {h : HS}
theorem GB.rf {h : HS} : GB h h := Nx.gb Nx.rf
theorem C_force (W : WV S H T D B X I r) (M : MV S H T D B X I Z r h) (P : XV S H T D B X I Z r tg h) (t : Int32) : ST2 h (f_X11_force t h) (f_X12_force t) := by
  have PP := P
  have WW := W
  have MM := M
  obtain ⟨p1, hw, p3, p4, p5, p6, p7, p8, p9, p10, p11, p12⟩ := P
  obtain ⟨w1, w2, w3, w4, w5, w6, w7, w8⟩ := W
  have h89 := hw.2.2
  obtain ⟨x6, el, hl, -⟩ := p9
  have eX := X_force hl p12 t
  rcases ix_case t X.1 with ⟨u, hu, rfl, hz⟩ | hz
  · rw [hz, if_pos rfl] at eX
    have F : Fx (fun b => b = 32) h (sI h 32 3 (nI u)) := Fx.sI Fx.rf (Or.inl rfl)
    have M1 : MV S H T D B X I Z r (sI h 32 3 (nI u)) := M.mx (LY.pr M.1 okM F.1) (F.mx h89 (fun b z1 z2 z => by omega))
    have eM := M_force (t := nI u) (by omega) M1.2.2.2.2.2.2.1.1 M1.2.2.2.2.2.2.2.2.2
    rw [hz, if_pos rfl] at eM
    have F2 : Fr 6 (sI h 32 3 (nI u)) (sI (sI h 32 3 (nI u)) 60 4 (nI u)) := Fr.sI Fr.rf (Or.inl rfl)
    have q : ∀ k, k ≠ 3 → hI (sI h 32 3 (nI u)) 32 k = hI h 32 k := fun k hk => by rw [hI_sI, if_pos rfl, if_neg hk]
    have P1 : XV S H T D B X I Z u tg (sI h 32 3 (nI u)) := ⟨LY.pr p1 okX F.1, hw, gz_of p3 hw F (by decide), p4.fx hw F (fun _ _ => rfl) (fun b hb z => by have := hw.1 b; omega), p5.fx hw F (fun _ _ => rfl) (fun b hb z => by have := hw.1 b; omega), p6.raw hw F (q 5 (by decide)) (by decide), p7.raw hw F (q 8 (by decide)) (by decide) (by decide), p8.fx hw F (by decide) (by decide), PP.2.2.2.2.2.2.2.2.1.fx hw F (fun _ _ => rfl) (fun b hb z => by have := hw.1 b; omega), p10.fx hw F (by decide) (by decide), p11.fx hw F (fun _ _ => rfl) (fun b hb z => by have := hw.1 b; omega), by rw [hI_sI, if_pos rfl, if_pos rfl]⟩
    have lyM := M1.1
    obtain ⟨m0, m1, m2, m3, m4, m5, m6, m7, m8, m9⟩ := M1
    have M2 : MV S H T D B X I Z u (sI (sI h 32 3 (nI u)) 60 4 (nI u)) := ⟨LY.pr m0 okM (F2.fx (by decide)).1, m1.fr F2 (by decide), m2.fr F2 (by decide), m3.fr F2 (by decide), m4.fr F2 (by decide), m5.fr F2 (by decide), by
      have q60 : ∀ b k, ¬ (b = 60 ∧ k = 4) → hI (sI (sI h 32 3 (nI u)) 60 4 (nI u)) b k = hI (sI h 32 3 (nI u)) b k := fun b k z => by
        rw [hI_sI]
        by_cases e : b = 60
        · rw [if_pos e, if_neg (fun y => z ⟨e, y⟩)]
        · rw [if_neg e]
      exact ⟨by rw [q60 _ _ (by decide)]; exact m6.1, m6.2.1, fun i hi => ⟨by rw [q60 _ _ (fun z => absurd z.1 (by decide))]; exact (m6.2.2 i hi).1, fun k hk => by rw [q60 _ _ (fun z => absurd z.1 (by decide))]; exact (m6.2.2 i hi).2 k hk⟩⟩, m7.fr F2 (by decide), m8.fr F2 (by decide), by rw [hI_sI, if_pos rfl, if_pos rfl]⟩
    exact ⟨_, _, _, eX, lyM, eM, ⟨S, H, T, D, B, X, I, Z, u, tg, ⟨w1, w2, w3, w4, w5, w6, w7, hu⟩, M2, P1.fr F2 (by decide)⟩, GB.rf (h := h)⟩
  · rw [hz, if_neg Bool.false_ne_true] at eX
    have eM := M_force (t := t) (by omega) M.2.2.2.2.2.2.1.1 M.2.2.2.2.2.2.2.2.2
    rw [hz, if_neg Bool.false_ne_true] at eM
    exact ⟨_, _, _, eX, M.1, eM, ⟨S, H, T, D, B, X, I, Z, r, tg, WW, MM, PP⟩, GB.rf⟩
theorem C_text (W : WV S H T D B X I r) (M : MV S H T D B X I Z r h) (P : XV S H T D B X I Z r tg h) : ST2 h (f_X11_text h) f_X12_text := by
  obtain ⟨p1, hw, p3, p4, p5, p6, p7, p8, p9, p10, p11, p12⟩ := P
  obtain ⟨w1, w2, w3, w4, w5, w6, w7, w8⟩ := W
  have h89 := hw.2.2
  obtain ⟨h1, tg', e, x1, x2, hw1, ht, F, -, gb1, gb2⟩ := X_text p1 p9 hw p8
  have M1 : MV S H T D B X I Z r h1 := M.mx (LY.pr M.1 okM F.1) (F.mx h89 (fun b z1 z2 z => by unfold AX at z; have := hw.1 b; omega))
  have lyM := M1.1
  obtain ⟨m0, m1, m2, m3, m4, m5, m6, m7, m8, m9⟩ := M1
  obtain ⟨g1, g2, h2, e2, y1, y2, y3, F1, F2, F3⟩ := M_text m6 w6 m5 w5
  have q32 := (F.2 32 (by omega) (fun z => by unfold AX at z; have := hw.1 32; omega)).1
  have P1 : XV S H T D (u_textB X B) (u_textX X B) I Z r tg' h1 := ⟨LY.pr p1 okX F.1, hw1, gz_of p3 hw F (fun z => by unfold AX at z; have := hw.1 49; omega), p4.fx hw F ht (fun b hb z => by unfold AX at z; have := hw.1 b; omega), p5.fx hw F ht (fun b hb z => by unfold AX at z; have := hw.1 b; omega), p6.raw hw F (by rw [q32]) (fun z => by unfold AX at z; have := hw.1 36; omega), p7.raw hw F (by rw [q32]) (fun z => by unfold AX at z; have := hw.1 37; omega) (fun z => by unfold AX at z; have := hw.1 38; omega), x2, x1, p10.fx hw F (fun z => by unfold AX at z; have := hw.1 44; omega) (fun z => by unfold AX at z; have := hw.1 45; omega), p11.fx hw F ht (fun b hb z => by unfold AX at z; have := hw.1 b; omega), by rw [q32]; exact p12⟩
  have M2 : MV S H T D (u_textB X B) (u_textX X B) I Z r h2 := ⟨LY.pr (LY.pr (LY.pr m0 okM (F1.fx (by decide)).1) okM (F2.fx (by decide)).1) okM (F3.fx (by decide)).1, ((m1.fr F1 (by decide)).fr F2 (by decide)).fr F3 (by decide), ((m2.fr F1 (by decide)).fr F2 (by decide)).fr F3 (by decide), ((m3.fr F1 (by decide)).fr F2 (by decide)).fr F3 (by decide), ((m4.fr F1 (by decide)).fr F2 (by decide)).fr F3 (by decide), y2, y1, ((m7.fr F1 (by decide)).fr F2 (by decide)).fr F3 (by decide), ((m8.fr F1 (by decide)).fr F2 (by decide)).fr F3 (by decide), by rw [y3]; exact m9⟩
  obtain ⟨v1, v2⟩ := Wtx_text (X := X) (B := B) w6 w5 p8.2.1
  have gb : GB h h1 := ⟨by omega, by omega⟩
  exact ⟨_, h1, h2, e, lyM, e2, ⟨S, H, T, D, u_textB X B, u_textX X B, I, Z, r, tg', ⟨w1, w2, w3, w4, Wby_text w5, v1, w7.mono (Nat.le_refl _) (Nat.le_refl _) v2, by omega⟩, M2, ((P1.fr F1 (by decide)).fr F2 (by decide)).fr F3 (by decide)⟩, ((gb.fr F1).fr F2).fr F3⟩
theorem C_back (W : WV S H T D B X I r) (M : MV S H T D B X I Z r h) (P : XV S H T D B X I Z r tg h) : ST2 h (f_X11_back h) f_X12_back := by
  have PP := P
  have WW := W
  have MM := M
  obtain ⟨p1, hw, p3, p4, p5, p6, p7, p8, p9, p10, p11, p12⟩ := P
  obtain ⟨w1, w2, w3, w4, w5, w6, w7, w8⟩ := W
  have h89 := hw.2.2
  have wim : Wim I S T := fun z => ⟨(w7 z).1, (w7 z).2.1⟩
  rcases X_back p4 hw p6 p10 wim with ⟨i0, e⟩ | ⟨i1, h1, e, x1, x2, x3, hw1, F, k35⟩
  · rcases M_back M.2.1 M.2.2.2.1 M.2.2.2.2.2.2.2.1 wim with ⟨-, e2⟩ | ⟨i1, -⟩
    · exact ⟨_, _, _, e, M.1, e2, ⟨S, H, T, D, B, X, I, Z, r, tg, WW, MM, PP⟩, GB.rf⟩
    · rw [i0] at i1; cases i1
  · obtain ⟨a1, a2, ⟨r', r1, r2⟩, a4⟩ := w7 i1
    have M1 : MV S H T D B X I Z r h1 := M.mx (LY.pr M.1 okM F.1) (F.mx h89 (fun b z1 z2 z => by have := hw.1 b; omega))
    have lyM := M1.1
    obtain ⟨m0, m1, m2, m3, m4, m5, m6, m7, m8, m9⟩ := M1
    rcases M_back m1 m3 m7 wim with ⟨i0, -⟩ | ⟨-, h2, e2, F3, y1, y2, y3, y4⟩
    · rw [i0] at i1; cases i1
    · have F1 : Fr 6 h1 (sI h1 60 4 I.2.2.1) := Fr.sI Fr.rf (Or.inl rfl)
      have F2 : Fr 3 (sI h1 60 4 I.2.2.1) (sI (sI h1 60 4 I.2.2.1) 60 25 (nI I.2.2.2.1)) := Fr.sI Fr.rf (Or.inl rfl)
      have P1 : XV (u_bkS S I.2.1 I.2.2.2.2) H (u_bkT T I.2.2.2.1) D B X I Z r' tg h1 := ⟨LY.pr p1 okX F.1, hw1, gz_of p3 hw F (fun z => by have := hw.1 49; omega), x1, p5.fx hw F (fun _ _ => rfl) (fun b hb z => by have := hw.1 b; omega), x2, p7.raw hw F (k35 8 (by decide) (by decide)) (fun z => by have := hw.1 37; omega) (fun z => by have := hw.1 38; omega), p8.fx hw F (fun z => by have := hw.1 39; omega) (fun z => by have := hw.1 40; omega), p9.fx hw F (fun _ _ => rfl) (fun b hb z => by have := hw.1 b; omega), p10.fx hw F (fun z => by have := hw.1 44; omega) (fun z => by have := hw.1 45; omega), p11.fx hw F (fun _ _ => rfl) (fun b hb z => by have := hw.1 b; omega), by rw [x3]; exact r2⟩
      have mtx2 : Mtx X h2 := by
        have q60 : ∀ b k, ¬ (b = 60 ∧ k = 4) → ¬ (b = 60 ∧ k = 25) → hI (sI (sI h1 60 4 I.2.2.1) 60 25 (nI I.2.2.2.1)) b k = hI h1 b k := fun b k z z2 => by
          rw [hI_sI]
          by_cases e : b = 60
          · rw [if_pos e, if_neg (fun y => z2 ⟨e, y⟩), hI_sI, if_pos e, if_neg (fun y => z ⟨e, y⟩)]
          · rw [if_neg e, hI_sI, if_neg e]
        have mm : Mtx X (sI (sI h1 60 4 I.2.2.1) 60 25 (nI I.2.2.2.1)) := ⟨by rw [q60 _ _ (by decide) (by decide)]; exact m6.1, m6.2.1, fun i hi => ⟨by rw [q60 _ _ (fun z => absurd z.1 (by decide)) (fun z => absurd z.1 (by decide))]; exact (m6.2.2 i hi).1, fun k hk => by rw [q60 _ _ (fun z => absurd z.1 (by decide)) (fun z => absurd z.1 (by decide))]; exact (m6.2.2 i hi).2 k hk⟩⟩
        exact mm.fr F3 (by decide)
      have M2 : MV (u_bkS S I.2.1 I.2.2.2.2) H (u_bkT T I.2.2.2.1) D B X I Z r' h2 := ⟨LY.pr (LY.pr (LY.pr m0 okM (F1.fx (by decide)).1) okM (F2.fx (by decide)).1) okM (F3.fx (by decide)).1, y1, ((m2.fr F1 (by decide)).fr F2 (by decide)).fr F3 (by decide), y2, ((m4.fr F1 (by decide)).fr F2 (by decide)).fr F3 (by decide), ((m5.fr F1 (by decide)).fr F2 (by decide)).fr F3 (by decide), mtx2, y4, ((m8.fr F1 (by decide)).fr F2 (by decide)).fr F3 (by decide), by rw [y3]; exact r2⟩
      have wi2 : WI I (u_bkS S I.2.1 I.2.2.2.2) (u_bkT T I.2.2.2.1) X := fun z => ⟨a1, Nat.le_refl _, ⟨r', r1, r2⟩, a4⟩
      exact ⟨_, h1, h2, e, lyM, e2, ⟨_, H, _, D, B, X, I, Z, r', tg, ⟨Wst_bk w1 w7 i1, w2, Wtr_bk w3 a2, w4, w5, w6, wi2, r1⟩, M2, ((P1.fr F1 (by decide)).fr F2 (by decide)).fr F3 (by decide)⟩, (((n_X11_back e).gb.fr F1).fr F2).fr F3⟩
end
