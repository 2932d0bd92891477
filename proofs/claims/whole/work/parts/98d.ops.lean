/-! ===== each call, both sides ===== -/
def INV (h : HS) : Prop := ∃ S H T D B X I Z r tg, WV S H T D B X I r ∧ MV S H T D B X I Z r h ∧ XV S H T D B X I Z r tg h
def ST2 {α : Type} (h : HS) (f : Option (α × HS)) (g : HS → Option (α × HS)) : Prop := ∃ a h1 h2, f = some (a, h1) ∧ lyB TM h1 = true ∧ g h1 = some (a, h2) ∧ INV h2 ∧ GB h h2
def ST1 {α : Type} (h : HS) (f : Option (α × HS)) (g : HS → Option α) : Prop := ∃ a h1, f = some (a, h1) ∧ lyB TM h1 = true ∧ g h1 = some a ∧ INV h1 ∧ GB h h1
def ST0 {α : Type} (f g : Option α) : Prop := ∃ a, f = some a ∧ g = some a
theorem GB.fr {g : Nat} {h h1 h2 : HS} (b : GB h h1) (F : Fr g h1 h2) : GB h h2 := ⟨by rw [F.1]; exact b.1, by rw [F.2.1]; exact b.2⟩
section
variable {S H T : TB} {D : DT} {B : BT} {X : XT} {I : IM} {Z : SZ} {r : Nat} {tg : Nat → Nat} {h : HS}
theorem MV.fr0 (M : MV S H T D B X I Z r h) {h' : HS} (F : Fr 0 h h') : MV S H T D B X I Z r h' := by
  obtain ⟨m0, m1, m2, m3, m4, m5, m6, m7, m8, m9⟩ := M
  exact ⟨LY.pr m0 okM (F.fx (by decide)).1, m1.fr F (by decide), m2.fr F (by decide), m3.fr F (by decide), m4.fr F (by decide), m5.fr F (by decide), m6.fr F (by decide), m7.fr F (by decide), m8.fr F (by decide), by rw [F.2.2.2.2.2.1 60 4 (by decide) (by decide)]; exact m9⟩
theorem scr_m {A : Nat → Prop} (M : MV S H T D B X I Z r h) (hw : Wx tg h) {h1 : HS} (F : Fx A h h1) (hA : ∀ b, A b → (48 ≤ b ∧ b ≤ 55) ∨ (50 ≤ tg b ∧ tg b < 56)) : MV S H T D B X I Z r h1 := M.mx (LY.pr M.1 okM F.1) (F.mx hw.2.2 (fun b h1 h2 z => by have := hA b z; have := hw.1 b; omega))
theorem scr2 {α : Type} {A : Nat → Prop} {f : Option (α × HS)} {g : HS → Option (α × HS)} {a : α} {h1 : HS} (W : WV S H T D B X I r) (M : MV S H T D B X I Z r h) (P : XV S H T D B X I Z r tg h) (e : f = some (a, h1)) (hz : Gz h1) (hw : Wx tg h1) (F : Fx A h h1) (hA : ∀ b, A b → (48 ≤ b ∧ b ≤ 55) ∨ (50 ≤ tg b ∧ tg b < 56)) (gb : GB h h1) (gm : ∀ k, MV S H T D B X I Z r k → ∃ k', g k = some (a, k') ∧ Fr 0 k k') : ST2 h f g := by
  have M1 := scr_m M P.2.1 F hA
  obtain ⟨h2, e2, F2⟩ := gm h1 M1
  exact ⟨a, h1, h2, e, M1.1, e2, ⟨S, H, T, D, B, X, I, Z, r, tg, W, M1.fr0 F2, (P.scr F hw hz hA).fr F2 (by decide)⟩, gb.fr F2⟩
theorem scr1 {α : Type} {A : Nat → Prop} {f : Option (α × HS)} {g : HS → Option α} {a : α} {h1 : HS} (W : WV S H T D B X I r) (M : MV S H T D B X I Z r h) (P : XV S H T D B X I Z r tg h) (e : f = some (a, h1)) (hz : Gz h1) (hw : Wx tg h1) (F : Fx A h h1) (hA : ∀ b, A b → (48 ≤ b ∧ b ≤ 55) ∨ (50 ≤ tg b ∧ tg b < 56)) (gb : GB h h1) (gm : ∀ k, MV S H T D B X I Z r k → g k = some a) : ST1 h f g := by
  have M1 := scr_m M P.2.1 F hA
  exact ⟨a, h1, e, M1.1, gm h1 M1, ⟨S, H, T, D, B, X, I, Z, r, tg, W, M1, P.scr F hw hz hA⟩, gb⟩
theorem C_wins (W : WV S H T D B X I r) (M : MV S H T D B X I Z r h) (P : XV S H T D B X I Z r tg h) (s a b : Int32) : ST0 (f_X11_wins s a b h) (f_X12_wins s a b h) := ⟨_, X_wins P.2.2.2.1 W.1 s a b, M_wins M.2.1 W.1 s a b⟩
theorem C_taken (W : WV S H T D B X I r) (M : MV S H T D B X I Z r h) (P : XV S H T D B X I Z r tg h) (s k : Int32) : ST0 (f_X11_taken s k h) (f_X12_taken s k h) := ⟨_, X_taken P.2.2.2.1 W.1 s k, M_taken M.2.1 W.1 s k⟩
theorem C_tryTold (W : WV S H T D B X I r) (M : MV S H T D B X I Z r h) (P : XV S H T D B X I Z r tg h) (t w : Int32) : ST0 (f_X11_tryTold t w h) (f_X12_tryTold t w h) := ⟨_, X_tryTold P.2.2.2.2.2.1 t w, M_tryTold M.2.2.2.1 t w⟩
theorem C_find (W : WV S H T D B X I r) (M : MV S H T D B X I Z r h) (P : XV S H T D B X I Z r tg h) (w p : Int32) : ST0 (f_X11_find w p h) (f_X12_find w p h) := ⟨_, X_find P.2.2.2.1 W.1 P.2.2.2.2.2.2.1 W.2.2.2.1 w p, M_find M.2.1 W.1 M.2.2.2.2.1 w p⟩
theorem C_count (W : WV S H T D B X I r) (M : MV S H T D B X I Z r h) (P : XV S H T D B X I Z r tg h) (w : Int32) : ST0 (f_X11_count w h) (f_X12_count w h) := by
  obtain ⟨h6, el, hl, -⟩ := P.2.2.2.2.2.2.2.2.1
  exact ⟨_, X_count P.2.2.2.1 P.2.2.2.2.1 P.2.2.2.2.2.1 (fun i hi => (W.2.2.1 i hi).2.2.2.1) P.2.2.2.2.2.2.1.1 hl P.2.2.2.2.2.2.2.1.1 P.2.2.2.2.2.2.2.2.2.2.2 w, M_count M.2.1 M.2.2.1 M.2.2.2.1 M.2.2.2.2.1.1 M.2.2.2.2.2.2.1.1 M.2.2.2.2.2.1.1 M.2.2.2.2.2.2.2.2.2 w⟩
theorem C_odds (W : WV S H T D B X I r) (M : MV S H T D B X I Z r h) (P : XV S H T D B X I Z r tg h) (s j a p : Int32) : ST1 h (f_X11_odds s j a p h) (f_X12_odds s j a p) := by
  obtain ⟨h1, e, hz, hw, F⟩ := X_odds P.2.2.2.1 W.1 P.2.2.2.2.1 W.2.1 P.2.1 P.2.2.1 s j a p
  exact scr1 W M P e hz hw F (fun b z => by omega) (n_X11_odds e).gb (fun kk m => M_odds m.2.1 W.1 m.2.2.1 W.2.1 s j a p)
theorem C_worth (W : WV S H T D B X I r) (M : MV S H T D B X I Z r h) (P : XV S H T D B X I Z r tg h) (s j a w p : Int32) : ST1 h (f_X11_worth s j a w p h) (f_X12_worth s j a w p) := by
  obtain ⟨h1, e, hz, hw, F⟩ := X_worth P.2.2.2.1 W.1 P.2.2.2.2.1 W.2.1 P.2.1 P.2.2.1 s j a w p
  exact scr1 W M P e hz hw F (fun b z => by omega) (n_X11_worth e).gb (fun kk m => M_worth m.2.1 W.1 m.2.2.1 W.2.1 s j a w p)
theorem C_setAll (W : WV S H T D B X I r) (M : MV S H T D B X I Z r h) (P : XV S H T D B X I Z r tg h) (s n p : Int32) : ST1 h (f_X11_setAll s n p h) (f_X12_setAll s n p) := by
  obtain ⟨h1, e, hz, hw, F⟩ := X_setAll P.2.2.2.1 W.1 P.2.2.2.2.1 W.2.1 P.2.2.2.2.2.1 W.2.2.1 P.2.1 P.2.2.1 s n p
  exact scr1 W M P e hz hw F (fun b z => by omega) (n_X11_setAll e).gb (fun kk m => M_setAll m.2.1 W.1 m.2.2.1 W.2.1 m.2.2.2.1 W.2.2.1 s n p)
theorem C_best (W : WV S H T D B X I r) (M : MV S H T D B X I Z r h) (P : XV S H T D B X I Z r tg h) (s j w : Int32) : ST2 h (f_X11_best s j w h) (f_X12_best s j w) := by
  obtain ⟨h1, e, hz, hw, F⟩ := X_best P.2.2.2.1 W.1 P.2.2.2.2.1 W.2.1 P.2.1 P.2.2.1 s j w
  exact scr2 W M P e hz hw F (fun b z => by omega) (n_X11_best e).gb (fun kk m => M_best m.2.1 W.1 m.2.2.1 W.2.1 s j w)
theorem C_leaves (W : WV S H T D B X I r) (M : MV S H T D B X I Z r h) (P : XV S H T D B X I Z r tg h) (j p : Int32) : ST2 h (f_X11_leaves j p h) (f_X12_leaves j p) := by
  obtain ⟨h1, e, hz, hw, F⟩ := X_leaves P.2.2.2.1 W.1 P.2.2.2.2.1 W.2.1 P.2.1 P.2.2.1 j p
  exact scr2 W M P e hz hw F (fun b z => by omega) (n_X11_leaves e).gb (fun kk m => M_leaves m.2.1 W.1 m.2.2.1 W.2.1 j p)
theorem C_walk (W : WV S H T D B X I r) (M : MV S H T D B X I Z r h) (P : XV S H T D B X I Z r tg h) (j c w : Int32) : ST2 h (f_X11_walk j c w h) (f_X12_walk j c w) := by
  obtain ⟨h1, e, hz, hw, F⟩ := X_walk P.2.2.2.1 W.1 P.2.2.2.2.1 W.2.1 P.2.1 P.2.2.1 j c w
  exact scr2 W M P e hz hw F (fun b z => by omega) (n_X11_walk e).gb (fun kk m => M_walk m.2.1 W.1 m.2.2.1 W.2.1 j c w)
theorem C_make (W : WV S H T D B X I r) (M : MV S H T D B X I Z r h) (P : XV S H T D B X I Z r tg h) (k j c od l : Int32) : ST2 h (f_X11_make k j c od l h) (f_X12_make k j c od l) := by
  obtain ⟨h1, e, hz, hw, F⟩ := X_make P.2.2.2.2.1 W.2.1 P.2.1 P.2.2.1 k j c od l
  exact scr2 W M P e hz hw F (fun b z => by omega) (G_make P.2.1 e) (fun kk m => M_make m.2.2.1 W.2.1 k j c od l)
theorem C_says (W : WV S H T D B X I r) (M : MV S H T D B X I Z r h) (P : XV S H T D B X I Z r tg h) (s j a k d : Int32) : ST2 h (f_X11_says s j a k d h) (f_X12_says s j a k d) := by
  obtain ⟨h1, e, hz, hw, F⟩ := X_says P.1 P.2.2.2.1 W.1 P.2.2.2.2.1 W.2.1 P.2.2.2.2.2.2.2.2.1 W.2.2.2.2.2.1 P.2.1 P.2.2.1 W.2.2.2.2.2.2.2 P.2.2.2.2.2.2.2.2.2.2.2 s j a k d
  exact scr2 W M P e hz hw F (fun b z => by unfold AS AR at z; omega) (n_X11_says e).gb (fun kk m => M_says m.2.1 W.1 m.2.2.1 W.2.1 m.2.2.2.2.2.2.1 W.2.2.2.2.2.1 W.2.2.2.2.2.2.2 m.2.2.2.2.2.2.2.2.2 s j a k d)
theorem C_player (W : WV S H T D B X I r) (M : MV S H T D B X I Z r h) (P : XV S H T D B X I Z r tg h) (w a s c v : Int32) : ST2 h (f_X11_player w a s c v h) (f_X12_player w a s c v) := by
  obtain ⟨h1, e, hz, hw, F⟩ := X_player P.1 P.2.2.2.1 W.1 P.2.2.2.2.1 W.2.1 P.2.2.2.2.2.2.2.2.1 W.2.2.2.2.2.1 P.2.1 P.2.2.1 W.2.2.2.2.2.2.2 P.2.2.2.2.2.2.2.2.2.2.2 w a s c v
  exact scr2 W M P e hz hw F (fun b z => by unfold AQ AP AR at z; omega) (n_X11_player e).gb (fun kk m => M_player m.2.1 W.1 m.2.2.1 W.2.1 m.2.2.2.2.2.2.1 W.2.2.2.2.2.1 W.2.2.2.2.2.2.2 m.2.2.2.2.2.2.2.2.2 w a s c v)
theorem C_most (W : WV S H T D B X I r) (M : MV S H T D B X I Z r h) (P : XV S H T D B X I Z r tg h) (w a s c v : Int32) : ST2 h (f_X11_most w a s c v h) (f_X12_most w a s c v) := by
  obtain ⟨h1, e, hz, hw, F⟩ := X_most P.1 P.2.2.2.1 W.1 P.2.2.2.2.1 W.2.1 P.2.2.2.2.2.2.2.2.1 W.2.2.2.2.2.1 P.2.1 P.2.2.1 W.2.2.2.2.2.2.2 P.2.2.2.2.2.2.2.2.2.2.2 w a s c v
  exact scr2 W M P e hz hw F (fun b z => by unfold AQ AP AR at z; omega) (n_X11_most e).gb (fun kk m => M_most m.2.1 W.1 m.2.2.1 W.2.1 m.2.2.2.2.2.2.1 W.2.2.2.2.2.1 W.2.2.2.2.2.2.2 m.2.2.2.2.2.2.2.2.2 w a s c v)
theorem C_year (W : WV S H T D B X I r) (M : MV S H T D B X I Z r h) (P : XV S H T D B X I Z r tg h) (a w : Int32) : ST2 h (f_X11_year a w h) (f_X12_year a w) := by
  obtain ⟨h1, e, hw, F⟩ := X_year P.1 P.2.2.2.1 W.1 P.2.2.2.2.2.2.2.2.1 W.2.2.2.2.2.1 P.2.1 W.2.2.2.2.2.2.2 P.2.2.2.2.2.2.2.2.2.2.2 a w
  exact scr2 W M P e (gz_of P.2.2.1 P.2.1 F (fun z => by unfold AY AR at z; have := P.2.1.1 49; omega)) hw F (fun b z => by unfold AY AR at z; omega) (n_X11_year e).gb (fun kk m => M_year m.2.1 m.2.2.2.2.2.2.1 W.2.2.2.2.2.1 W.2.2.2.2.2.2.2 m.2.2.2.2.2.2.2.2.2 a w)
theorem C_told (W : WV S H T D B X I r) (M : MV S H T D B X I Z r h) (P : XV S H T D B X I Z r tg h) (s w : Int32) : ST2 h (f_X11_told s w h) (f_X12_told s w) := by
  by_cases c : w = 8
  · subst c
    obtain ⟨h1, e, hw, F⟩ := X_told8 P.1 P.2.2.2.1 P.2.2.2.2.2.2.2.2.1 W.2.2.2.2.2.1 P.2.1 W.2.2.2.2.2.2.2 P.2.2.2.2.2.2.2.2.2.2.2 s
    exact scr2 W M P e (gz_of P.2.2.1 P.2.1 F (fun z => by unfold AR at z; have := P.2.1.1 49; omega)) hw F (fun b z => by unfold AR at z; omega) (n_X11_told e).gb (fun kk m => M_told8 m.2.1 m.2.2.2.2.2.2.1 W.2.2.2.2.2.1 W.2.2.2.2.2.2.2 m.2.2.2.2.2.2.2.2.2 s)
  · exact scr2 (A := fun _ => False) W M P (X_told P.2.2.2.1 W.1 s w c) P.2.2.1 P.2.1 Fx.rf (fun b z => z.elim) (Nx.gb Nx.rf) (fun kk m => ⟨kk, M_told m.2.1 s w c, Fr.rf⟩)
theorem C_stall (W : WV S H T D B X I r) (M : MV S H T D B X I Z r h) (P : XV S H T D B X I Z r tg h) (k p z c : Int32) : ST2 h (f_X11_stall k p z c h) (f_X12_stall k p z c) := by
  have PP := P
  obtain ⟨p1, hw, p3, p4, p5, p6, p7, p8, p9, p10, p11, p12⟩ := P
  obtain ⟨w1, w2, w3, w4, w5, w6, w7, w8⟩ := W
  have h89 := hw.2.2
  have h8 : S.1 ≤ 8 := M.2.1.2.1
  have h6 : H.1 ≤ 6 := M.2.2.1.2.1
  obtain ⟨h1, tg', e, x1, hw1, ht, F⟩ := X_stall p4 hw k p z c
  have M1 : MV S H T D B X I Z r h1 := M.mx (LY.pr M.1 okM F.1) (F.mx h89 (fun b z1 z2 z => by have := hw.1 b; omega))
  have lyM := M1.1
  obtain ⟨m0, m1, m2, m3, m4, m5, m6, m7, m8, m9⟩ := M1
  obtain ⟨h2, e2, y1, F2⟩ := M_stall m1 k p z c
  have q32 := (F.2 32 (by omega) (fun z => by have := hw.1 32; omega)).1
  have P1 : XV (u_stall S k p z c) H T D B X I Z r tg' h1 := ⟨LY.pr p1 okX F.1, hw1, gz_of p3 hw F (fun z => by have := hw.1 49; omega), x1, p5.fx hw F ht (fun b hb z => by have := hw.1 b; omega), p6.raw hw F (by rw [q32]) (fun z => by have := hw.1 36; omega), p7.raw hw F (by rw [q32]) (fun z => by have := hw.1 37; omega) (fun z => by have := hw.1 38; omega), p8.fx hw F (fun z => by have := hw.1 39; omega) (fun z => by have := hw.1 40; omega), p9.fx hw F ht (fun b hb z => by have := hw.1 b; omega), p10.fx hw F (fun z => by have := hw.1 44; omega) (fun z => by have := hw.1 45; omega), p11.fx hw F ht (fun b hb z => by have := hw.1 b; omega), by rw [q32]; exact p12⟩
  have M2 : MV (u_stall S k p z c) H T D B X I Z r h2 := ⟨LY.pr m0 okM (F2.fx (by decide)).1, y1, m2.fr F2 (by decide), m3.fr F2 (by decide), m4.fr F2 (by decide), m5.fr F2 (by decide), m6.fr F2 (by decide), m7.fr F2 (by decide), m8.fr F2 (by decide), by rw [F2.2.2.2.2.2.1 60 4 (by decide) (by decide)]; exact m9⟩
  exact ⟨_, h1, h2, e, lyM, e2, ⟨(u_stall S k p z c), H, T, D, B, X, I, Z, r, tg', ⟨Wst_stall w1 k p z c, w2, Wtr_mono w3 (u_stall_le S k p z c) (Nat.le_refl _), w4, w5, w6, w7.mono (u_stall_le S k p z c) (Nat.le_refl _) (Nat.le_refl _), w8⟩, M2, P1.fr F2 (by decide)⟩, GB.fr (G_stall p4 hw e) F2⟩
theorem C_hand (W : WV S H T D B X I r) (M : MV S H T D B X I Z r h) (P : XV S H T D B X I Z r tg h) (x y v : Int32) : ST2 h (f_X11_hand x y v h) (f_X12_hand x y v) := by
  have PP := P
  obtain ⟨p1, hw, p3, p4, p5, p6, p7, p8, p9, p10, p11, p12⟩ := P
  obtain ⟨w1, w2, w3, w4, w5, w6, w7, w8⟩ := W
  have h89 := hw.2.2
  have h8 : S.1 ≤ 8 := M.2.1.2.1
  have h6 : H.1 ≤ 6 := M.2.2.1.2.1
  obtain ⟨h1, tg', e, x1, hw1, ht, F⟩ := X_hand p5 hw x y v
  have M1 : MV S H T D B X I Z r h1 := M.mx (LY.pr M.1 okM F.1) (F.mx h89 (fun b z1 z2 z => by have := hw.1 b; omega))
  have lyM := M1.1
  obtain ⟨m0, m1, m2, m3, m4, m5, m6, m7, m8, m9⟩ := M1
  obtain ⟨h2, e2, y1, F2⟩ := M_hand m2 x y v
  have q32 := (F.2 32 (by omega) (fun z => by have := hw.1 32; omega)).1
  have P1 : XV S (u_hand H x y v) T D B X I Z r tg' h1 := ⟨LY.pr p1 okX F.1, hw1, gz_of p3 hw F (fun z => by have := hw.1 49; omega), p4.fx hw F ht (fun b hb z => by have := hw.1 b; omega), x1, p6.raw hw F (by rw [q32]) (fun z => by have := hw.1 36; omega), p7.raw hw F (by rw [q32]) (fun z => by have := hw.1 37; omega) (fun z => by have := hw.1 38; omega), p8.fx hw F (fun z => by have := hw.1 39; omega) (fun z => by have := hw.1 40; omega), p9.fx hw F ht (fun b hb z => by have := hw.1 b; omega), p10.fx hw F (fun z => by have := hw.1 44; omega) (fun z => by have := hw.1 45; omega), p11.fx hw F ht (fun b hb z => by have := hw.1 b; omega), by rw [q32]; exact p12⟩
  have M2 : MV S (u_hand H x y v) T D B X I Z r h2 := ⟨LY.pr m0 okM (F2.fx (by decide)).1, m1.fr F2 (by decide), y1, m3.fr F2 (by decide), m4.fr F2 (by decide), m5.fr F2 (by decide), m6.fr F2 (by decide), m7.fr F2 (by decide), m8.fr F2 (by decide), by rw [F2.2.2.2.2.2.1 60 4 (by decide) (by decide)]; exact m9⟩
  exact ⟨_, h1, h2, e, lyM, e2, ⟨S, (u_hand H x y v), T, D, B, X, I, Z, r, tg', ⟨w1, Wha_hand w2 x y v, Wtr_mono w3 (Nat.le_refl _) (u_hand_le H x y v), w4, w5, w6, w7, w8⟩, M2, P1.fr F2 (by decide)⟩, GB.fr (G_hand p5 hw e) F2⟩
theorem C_set (W : WV S H T D B X I r) (M : MV S H T D B X I Z r h) (P : XV S H T D B X I Z r tg h) (s w v : Int32) : ST2 h (f_X11_set s w v h) (f_X12_set s w v) := by
  have PP := P
  obtain ⟨p1, hw, p3, p4, p5, p6, p7, p8, p9, p10, p11, p12⟩ := P
  obtain ⟨w1, w2, w3, w4, w5, w6, w7, w8⟩ := W
  have h89 := hw.2.2
  have h8 : S.1 ≤ 8 := M.2.1.2.1
  have h6 : H.1 ≤ 6 := M.2.2.1.2.1
  obtain ⟨h1, e, x1, hw1, F⟩ := X_set p4 hw s w v
  have M1 : MV S H T D B X I Z r h1 := M.mx (LY.pr M.1 okM F.1) (F.mx h89 (fun b z1 z2 z => by have := hw.1 b; omega))
  have lyM := M1.1
  obtain ⟨m0, m1, m2, m3, m4, m5, m6, m7, m8, m9⟩ := M1
  obtain ⟨h2, e2, y1, F2⟩ := M_set m1 s w v
  have q32 := (F.2 32 (by omega) (fun z => by have := hw.1 32; omega)).1
  have P1 : XV (u_set S s w v) H T D B X I Z r tg h1 := ⟨LY.pr p1 okX F.1, hw1, gz_of p3 hw F (fun z => by have := hw.1 49; omega), x1, p5.fx hw F (fun _ _ => rfl) (fun b hb z => by have := hw.1 b; omega), p6.raw hw F (by rw [q32]) (fun z => by have := hw.1 36; omega), p7.raw hw F (by rw [q32]) (fun z => by have := hw.1 37; omega) (fun z => by have := hw.1 38; omega), p8.fx hw F (fun z => by have := hw.1 39; omega) (fun z => by have := hw.1 40; omega), p9.fx hw F (fun _ _ => rfl) (fun b hb z => by have := hw.1 b; omega), p10.fx hw F (fun z => by have := hw.1 44; omega) (fun z => by have := hw.1 45; omega), p11.fx hw F (fun _ _ => rfl) (fun b hb z => by have := hw.1 b; omega), by rw [q32]; exact p12⟩
  have M2 : MV (u_set S s w v) H T D B X I Z r h2 := ⟨LY.pr m0 okM (F2.fx (by decide)).1, y1, m2.fr F2 (by decide), m3.fr F2 (by decide), m4.fr F2 (by decide), m5.fr F2 (by decide), m6.fr F2 (by decide), m7.fr F2 (by decide), m8.fr F2 (by decide), by rw [F2.2.2.2.2.2.1 60 4 (by decide) (by decide)]; exact m9⟩
  exact ⟨_, h1, h2, e, lyM, e2, ⟨(u_set S s w v), H, T, D, B, X, I, Z, r, tg, ⟨Wst_set w1 s w v, w2, Wtr_mono w3 (Nat.le_of_eq (u_set_1 S s w v).symm) (Nat.le_refl _), w4, w5, w6, w7.mono (Nat.le_of_eq (u_set_1 S s w v).symm) (Nat.le_refl _) (Nat.le_refl _), w8⟩, M2, P1.fr F2 (by decide)⟩, GB.fr (n_X11_set e).gb F2⟩
theorem C_tried (W : WV S H T D B X I r) (M : MV S H T D B X I Z r h) (P : XV S H T D B X I Z r tg h) (s j a d : Int32) : ST2 h (f_X11_tried s j a d h) (f_X12_tried s j a d) := by
  have PP := P
  obtain ⟨p1, hw, p3, p4, p5, p6, p7, p8, p9, p10, p11, p12⟩ := P
  obtain ⟨w1, w2, w3, w4, w5, w6, w7, w8⟩ := W
  have h89 := hw.2.2
  have h8 : S.1 ≤ 8 := M.2.1.2.1
  have h6 : H.1 ≤ 6 := M.2.2.1.2.1
  obtain ⟨h1, e, x1, hw1, F, k5⟩ := X_tried p4 w1 p5 w2 hw p6 s j a d
  have M1 : MV S H T D B X I Z r h1 := M.mx (LY.pr M.1 okM F.1) (F.mx h89 (fun b z1 z2 z => by have := hw.1 b; omega))
  have lyM := M1.1
  obtain ⟨m0, m1, m2, m3, m4, m5, m6, m7, m8, m9⟩ := M1
  obtain ⟨h2, e2, y1, F2⟩ := M_tried m1 w1 m2 w2 m3 s j a d
  have P1 : XV S H (u_tried S H T s j a d) D B X I Z r tg h1 := ⟨LY.pr p1 okX F.1, hw1, gz_of p3 hw F (fun z => by have := hw.1 49; omega), p4.fx hw F (fun _ _ => rfl) (fun b hb z => by have := hw.1 b; omega), p5.fx hw F (fun _ _ => rfl) (fun b hb z => by have := hw.1 b; omega), x1, p7.raw hw F (k5 8 (by decide)) (fun z => by have := hw.1 37; omega) (fun z => by have := hw.1 38; omega), p8.fx hw F (fun z => by have := hw.1 39; omega) (fun z => by have := hw.1 40; omega), p9.fx hw F (fun _ _ => rfl) (fun b hb z => by have := hw.1 b; omega), p10.fx hw F (fun z => by have := hw.1 44; omega) (fun z => by have := hw.1 45; omega), p11.fx hw F (fun _ _ => rfl) (fun b hb z => by have := hw.1 b; omega), by rw [k5 3 (by decide)]; exact p12⟩
  have M2 : MV S H (u_tried S H T s j a d) D B X I Z r h2 := ⟨LY.pr m0 okM (F2.fx (by decide)).1, m1.fr F2 (by decide), m2.fr F2 (by decide), y1, m4.fr F2 (by decide), m5.fr F2 (by decide), m6.fr F2 (by decide), m7.fr F2 (by decide), m8.fr F2 (by decide), by rw [F2.2.2.2.2.2.1 60 4 (by decide) (by decide)]; exact m9⟩
  exact ⟨_, h1, h2, e, lyM, e2, ⟨S, H, (u_tried S H T s j a d), D, B, X, I, Z, r, tg, ⟨w1, w2, (Wtr_tried w3 w1 h8 h6 s j a d).1, w4, w5, w6, w7.mono (Nat.le_refl _) (Wtr_tried w3 w1 h8 h6 s j a d).2 (Nat.le_refl _), w8⟩, M2, P1.fr F2 (by decide)⟩, GB.fr (n_X11_tried e).gb F2⟩
theorem C_shown (W : WV S H T D B X I r) (M : MV S H T D B X I Z r h) (P : XV S H T D B X I Z r tg h) (s j a w : Int32) : ST2 h (f_X11_shown s j a w h) (f_X12_shown s j a w) := by
  have PP := P
  obtain ⟨p1, hw, p3, p4, p5, p6, p7, p8, p9, p10, p11, p12⟩ := P
  obtain ⟨w1, w2, w3, w4, w5, w6, w7, w8⟩ := W
  have h89 := hw.2.2
  have h8 : S.1 ≤ 8 := M.2.1.2.1
  have h6 : H.1 ≤ 6 := M.2.2.1.2.1
  obtain ⟨h1, e, x1, hw1, F, k5⟩ := X_shown p4 p5 hw p6 s j a w
  have M1 : MV S H T D B X I Z r h1 := M.mx (LY.pr M.1 okM F.1) (F.mx h89 (fun b z1 z2 z => by have := hw.1 b; omega))
  have lyM := M1.1
  obtain ⟨m0, m1, m2, m3, m4, m5, m6, m7, m8, m9⟩ := M1
  obtain ⟨h2, e2, y1, F2⟩ := M_shown m1 m2 m3 s j a w
  have P1 : XV S H (u_shown S H T s j a w) D B X I Z r tg h1 := ⟨LY.pr p1 okX F.1, hw1, gz_of p3 hw F (fun z => by have := hw.1 49; omega), p4.fx hw F (fun _ _ => rfl) (fun b hb z => by have := hw.1 b; omega), p5.fx hw F (fun _ _ => rfl) (fun b hb z => by have := hw.1 b; omega), x1, p7.raw hw F (k5 8 (by decide)) (fun z => by have := hw.1 37; omega) (fun z => by have := hw.1 38; omega), p8.fx hw F (fun z => by have := hw.1 39; omega) (fun z => by have := hw.1 40; omega), p9.fx hw F (fun _ _ => rfl) (fun b hb z => by have := hw.1 b; omega), p10.fx hw F (fun z => by have := hw.1 44; omega) (fun z => by have := hw.1 45; omega), p11.fx hw F (fun _ _ => rfl) (fun b hb z => by have := hw.1 b; omega), by rw [k5 3 (by decide)]; exact p12⟩
  have M2 : MV S H (u_shown S H T s j a w) D B X I Z r h2 := ⟨LY.pr m0 okM (F2.fx (by decide)).1, m1.fr F2 (by decide), m2.fr F2 (by decide), y1, m4.fr F2 (by decide), m5.fr F2 (by decide), m6.fr F2 (by decide), m7.fr F2 (by decide), m8.fr F2 (by decide), by rw [F2.2.2.2.2.2.1 60 4 (by decide) (by decide)]; exact m9⟩
  exact ⟨_, h1, h2, e, lyM, e2, ⟨S, H, (u_shown S H T s j a w), D, B, X, I, Z, r, tg, ⟨w1, w2, (Wtr_shown w3 w1 h8 h6 s j a w).1, w4, w5, w6, w7.mono (Nat.le_refl _) (Wtr_shown w3 w1 h8 h6 s j a w).2 (Nat.le_refl _), w8⟩, M2, P1.fr F2 (by decide)⟩, GB.fr (n_X11_shown e).gb F2⟩
theorem C_tries (W : WV S H T D B X I r) (M : MV S H T D B X I Z r h) (P : XV S H T D B X I Z r tg h) (p s f n : Int32) : ST2 h (f_X11_tries p s f n h) (f_X12_tries p s f n) := by
  have PP := P
  obtain ⟨p1, hw, p3, p4, p5, p6, p7, p8, p9, p10, p11, p12⟩ := P
  obtain ⟨w1, w2, w3, w4, w5, w6, w7, w8⟩ := W
  have h89 := hw.2.2
  have h8 : S.1 ≤ 8 := M.2.1.2.1
  have h6 : H.1 ≤ 6 := M.2.2.1.2.1
  obtain ⟨h1, e, x1, hw1, F, k5⟩ := X_tries p4 p5 hw p6 p11 p s f n
  have M1 : MV S H T D B X I Z r h1 := M.mx (LY.pr M.1 okM F.1) (F.mx h89 (fun b z1 z2 z => by have := hw.1 b; omega))
  have lyM := M1.1
  obtain ⟨m0, m1, m2, m3, m4, m5, m6, m7, m8, m9⟩ := M1
  obtain ⟨h2, e2, y1, F2⟩ := M_tries m1 m2 m3 m8 p s f n
  have P1 : XV S H (g_tries S H T Z p s f n).2 D B X I Z r tg h1 := ⟨LY.pr p1 okX F.1, hw1, gz_of p3 hw F (fun z => by have := hw.1 49; omega), p4.fx hw F (fun _ _ => rfl) (fun b hb z => by have := hw.1 b; omega), p5.fx hw F (fun _ _ => rfl) (fun b hb z => by have := hw.1 b; omega), x1, p7.raw hw F (k5 8 (by decide)) (fun z => by have := hw.1 37; omega) (fun z => by have := hw.1 38; omega), p8.fx hw F (fun z => by have := hw.1 39; omega) (fun z => by have := hw.1 40; omega), p9.fx hw F (fun _ _ => rfl) (fun b hb z => by have := hw.1 b; omega), p10.fx hw F (fun z => by have := hw.1 44; omega) (fun z => by have := hw.1 45; omega), p11.fx hw F (fun _ _ => rfl) (fun b hb z => by have := hw.1 b; omega), by rw [k5 3 (by decide)]; exact p12⟩
  have M2 : MV S H (g_tries S H T Z p s f n).2 D B X I Z r h2 := ⟨LY.pr m0 okM (F2.fx (by decide)).1, m1.fr F2 (by decide), m2.fr F2 (by decide), y1, m4.fr F2 (by decide), m5.fr F2 (by decide), m6.fr F2 (by decide), m7.fr F2 (by decide), m8.fr F2 (by decide), by rw [F2.2.2.2.2.2.1 60 4 (by decide) (by decide)]; exact m9⟩
  exact ⟨_, h1, h2, e, lyM, e2, ⟨S, H, (g_tries S H T Z p s f n).2, D, B, X, I, Z, r, tg, ⟨w1, w2, (Wtr_tries (Z := Z) w3 w1 h8 h6 p s f n).1, w4, w5, w6, w7.mono (Nat.le_refl _) (Wtr_tries (Z := Z) w3 w1 h8 h6 p s f n).2 (Nat.le_refl _), w8⟩, M2, P1.fr F2 (by decide)⟩, GB.fr (n_X11_tries e).gb F2⟩
theorem C_test (W : WV S H T D B X I r) (M : MV S H T D B X I Z r h) (P : XV S H T D B X I Z r tg h) (a b : Int32) : ST2 h (f_X11_test a b h) (f_X12_test a b) := by
  have PP := P
  obtain ⟨p1, hw, p3, p4, p5, p6, p7, p8, p9, p10, p11, p12⟩ := P
  obtain ⟨w1, w2, w3, w4, w5, w6, w7, w8⟩ := W
  have h89 := hw.2.2
  have h8 : S.1 ≤ 8 := M.2.1.2.1
  have h6 : H.1 ≤ 6 := M.2.2.1.2.1
  obtain ⟨h1, e, x1, hw1, F, k8⟩ := X_test hw p7 a b
  have M1 : MV S H T D B X I Z r h1 := M.mx (LY.pr M.1 okM F.1) (F.mx h89 (fun b z1 z2 z => by have := hw.1 b; omega))
  have lyM := M1.1
  obtain ⟨m0, m1, m2, m3, m4, m5, m6, m7, m8, m9⟩ := M1
  obtain ⟨h2, e2, y1, F2⟩ := M_test m4 a b
  have P1 : XV S H T (g_test D a b).2 B X I Z r tg h1 := ⟨LY.pr p1 okX F.1, hw1, gz_of p3 hw F (fun z => by have := hw.1 49; omega), p4.fx hw F (fun _ _ => rfl) (fun b hb z => by have := hw.1 b; omega), p5.fx hw F (fun _ _ => rfl) (fun b hb z => by have := hw.1 b; omega), p6.raw hw F (k8 5 (by decide)) (fun z => by have := hw.1 36; omega), x1, p8.fx hw F (fun z => by have := hw.1 39; omega) (fun z => by have := hw.1 40; omega), p9.fx hw F (fun _ _ => rfl) (fun b hb z => by have := hw.1 b; omega), p10.fx hw F (fun z => by have := hw.1 44; omega) (fun z => by have := hw.1 45; omega), p11.fx hw F (fun _ _ => rfl) (fun b hb z => by have := hw.1 b; omega), by rw [k8 3 (by decide)]; exact p12⟩
  have M2 : MV S H T (g_test D a b).2 B X I Z r h2 := ⟨LY.pr m0 okM (F2.fx (by decide)).1, m1.fr F2 (by decide), m2.fr F2 (by decide), m3.fr F2 (by decide), y1, m5.fr F2 (by decide), m6.fr F2 (by decide), m7.fr F2 (by decide), m8.fr F2 (by decide), by rw [F2.2.2.2.2.2.1 60 4 (by decide) (by decide)]; exact m9⟩
  exact ⟨_, h1, h2, e, lyM, e2, ⟨S, H, T, (g_test D a b).2, B, X, I, Z, r, tg, ⟨w1, w2, w3, Wte_test w4 a b, w5, w6, w7, w8⟩, M2, P1.fr F2 (by decide)⟩, GB.fr (n_X11_test e).gb F2⟩
theorem C_feed (W : WV S H T D B X I r) (M : MV S H T D B X I Z r h) (P : XV S H T D B X I Z r tg h) (n : Int32) (y : Int64) : ST2 h (f_X11_feed n y h) (f_X12_feed n y) := by
  have PP := P
  obtain ⟨p1, hw, p3, p4, p5, p6, p7, p8, p9, p10, p11, p12⟩ := P
  obtain ⟨w1, w2, w3, w4, w5, w6, w7, w8⟩ := W
  have h89 := hw.2.2
  have h8 : S.1 ≤ 8 := M.2.1.2.1
  have h6 : H.1 ≤ 6 := M.2.2.1.2.1
  obtain ⟨h1, e, x1, hw1, F, -⟩ := X_feed hw p8 n y
  have M1 : MV S H T D B X I Z r h1 := M.mx (LY.pr M.1 okM F.1) (F.mx h89 (fun b z1 z2 z => by have := hw.1 b; omega))
  have lyM := M1.1
  obtain ⟨m0, m1, m2, m3, m4, m5, m6, m7, m8, m9⟩ := M1
  obtain ⟨h2, e2, y1, F2⟩ := M_feed m5 n y
  have q32 := (F.2 32 (by omega) (fun z => by have := hw.1 32; omega)).1
  have P1 : XV S H T D (g_feed B n y).2 X I Z r tg h1 := ⟨LY.pr p1 okX F.1, hw1, gz_of p3 hw F (fun z => by have := hw.1 49; omega), p4.fx hw F (fun _ _ => rfl) (fun b hb z => by have := hw.1 b; omega), p5.fx hw F (fun _ _ => rfl) (fun b hb z => by have := hw.1 b; omega), p6.raw hw F (by rw [q32]) (fun z => by have := hw.1 36; omega), p7.raw hw F (by rw [q32]) (fun z => by have := hw.1 37; omega) (fun z => by have := hw.1 38; omega), x1, p9.fx hw F (fun _ _ => rfl) (fun b hb z => by have := hw.1 b; omega), p10.fx hw F (fun z => by have := hw.1 44; omega) (fun z => by have := hw.1 45; omega), p11.fx hw F (fun _ _ => rfl) (fun b hb z => by have := hw.1 b; omega), by rw [q32]; exact p12⟩
  have M2 : MV S H T D (g_feed B n y).2 X I Z r h2 := ⟨LY.pr m0 okM (F2.fx (by decide)).1, m1.fr F2 (by decide), m2.fr F2 (by decide), m3.fr F2 (by decide), m4.fr F2 (by decide), y1, m6.fr F2 (by decide), m7.fr F2 (by decide), m8.fr F2 (by decide), by rw [F2.2.2.2.2.2.1 60 4 (by decide) (by decide)]; exact m9⟩
  exact ⟨_, h1, h2, e, lyM, e2, ⟨S, H, T, D, (g_feed B n y).2, X, I, Z, r, tg, ⟨w1, w2, w3, w4, Wby_feed w5 n y, w6, w7, w8⟩, M2, P1.fr F2 (by decide)⟩, GB.fr (n_X11_feed e).gb F2⟩
theorem C_sheet (W : WV S H T D B X I r) (M : MV S H T D B X I Z r h) (P : XV S H T D B X I Z r tg h) (p s n : Int32) : ST2 h (f_X11_sheet p s n h) (f_X12_sheet p s n) := by
  have PP := P
  obtain ⟨p1, hw, p3, p4, p5, p6, p7, p8, p9, p10, p11, p12⟩ := P
  obtain ⟨w1, w2, w3, w4, w5, w6, w7, w8⟩ := W
  have h89 := hw.2.2
  have h8 : S.1 ≤ 8 := M.2.1.2.1
  have h6 : H.1 ≤ 6 := M.2.2.1.2.1
  obtain ⟨h1, tg', e, x1, hw1, ht, F⟩ := X_sheet p11 hw p s n
  have M1 : MV S H T D B X I Z r h1 := M.mx (LY.pr M.1 okM F.1) (F.mx h89 (fun b z1 z2 z => by have := hw.1 b; omega))
  have lyM := M1.1
  obtain ⟨m0, m1, m2, m3, m4, m5, m6, m7, m8, m9⟩ := M1
  obtain ⟨h2, e2, y1, F2⟩ := M_sheet m8 p s n
  have q32 := (F.2 32 (by omega) (fun z => by have := hw.1 32; omega)).1
  have P1 : XV S H T D B X I (u_sheet Z p s n) r tg' h1 := ⟨LY.pr p1 okX F.1, hw1, gz_of p3 hw F (fun z => by have := hw.1 49; omega), p4.fx hw F ht (fun b hb z => by have := hw.1 b; omega), p5.fx hw F ht (fun b hb z => by have := hw.1 b; omega), p6.raw hw F (by rw [q32]) (fun z => by have := hw.1 36; omega), p7.raw hw F (by rw [q32]) (fun z => by have := hw.1 37; omega) (fun z => by have := hw.1 38; omega), p8.fx hw F (fun z => by have := hw.1 39; omega) (fun z => by have := hw.1 40; omega), p9.fx hw F ht (fun b hb z => by have := hw.1 b; omega), p10.fx hw F (fun z => by have := hw.1 44; omega) (fun z => by have := hw.1 45; omega), x1, by rw [q32]; exact p12⟩
  have M2 : MV S H T D B X I (u_sheet Z p s n) r h2 := ⟨LY.pr m0 okM (F2.fx (by decide)).1, m1.fr F2 (by decide), m2.fr F2 (by decide), m3.fr F2 (by decide), m4.fr F2 (by decide), m5.fr F2 (by decide), m6.fr F2 (by decide), m7.fr F2 (by decide), y1, by rw [F2.2.2.2.2.2.1 60 4 (by decide) (by decide)]; exact m9⟩
  exact ⟨_, h1, h2, e, lyM, e2, ⟨S, H, T, D, B, X, I, (u_sheet Z p s n), r, tg', ⟨w1, w2, w3, w4, w5, w6, w7, w8⟩, M2, P1.fr F2 (by decide)⟩, GB.fr (G_sheet e) F2⟩
theorem C_cell (W : WV S H T D B X I r) (M : MV S H T D B X I Z r h) (P : XV S H T D B X I Z r tg h) (p i v : Int32) : ST2 h (f_X11_cell p i v h) (f_X12_cell p i v) := by
  have PP := P
  obtain ⟨p1, hw, p3, p4, p5, p6, p7, p8, p9, p10, p11, p12⟩ := P
  obtain ⟨w1, w2, w3, w4, w5, w6, w7, w8⟩ := W
  have h89 := hw.2.2
  have h8 : S.1 ≤ 8 := M.2.1.2.1
  have h6 : H.1 ≤ 6 := M.2.2.1.2.1
  obtain ⟨h1, e, x1, hw1, F⟩ := X_cell p11 hw p i v
  have M1 : MV S H T D B X I Z r h1 := M.mx (LY.pr M.1 okM F.1) (F.mx h89 (fun b z1 z2 z => by have := hw.1 b; omega))
  have lyM := M1.1
  obtain ⟨m0, m1, m2, m3, m4, m5, m6, m7, m8, m9⟩ := M1
  obtain ⟨h2, e2, y1, F2⟩ := M_cell m8 p i v
  have q32 := (F.2 32 (by omega) (fun z => by have := hw.1 32; omega)).1
  have P1 : XV S H T D B X I (u_cell Z p i v) r tg h1 := ⟨LY.pr p1 okX F.1, hw1, gz_of p3 hw F (fun z => by have := hw.1 49; omega), p4.fx hw F (fun _ _ => rfl) (fun b hb z => by have := hw.1 b; omega), p5.fx hw F (fun _ _ => rfl) (fun b hb z => by have := hw.1 b; omega), p6.raw hw F (by rw [q32]) (fun z => by have := hw.1 36; omega), p7.raw hw F (by rw [q32]) (fun z => by have := hw.1 37; omega) (fun z => by have := hw.1 38; omega), p8.fx hw F (fun z => by have := hw.1 39; omega) (fun z => by have := hw.1 40; omega), p9.fx hw F (fun _ _ => rfl) (fun b hb z => by have := hw.1 b; omega), p10.fx hw F (fun z => by have := hw.1 44; omega) (fun z => by have := hw.1 45; omega), x1, by rw [q32]; exact p12⟩
  have M2 : MV S H T D B X I (u_cell Z p i v) r h2 := ⟨LY.pr m0 okM (F2.fx (by decide)).1, m1.fr F2 (by decide), m2.fr F2 (by decide), m3.fr F2 (by decide), m4.fr F2 (by decide), m5.fr F2 (by decide), m6.fr F2 (by decide), m7.fr F2 (by decide), y1, by rw [F2.2.2.2.2.2.1 60 4 (by decide) (by decide)]; exact m9⟩
  exact ⟨_, h1, h2, e, lyM, e2, ⟨S, H, T, D, B, X, I, (u_cell Z p i v), r, tg, ⟨w1, w2, w3, w4, w5, w6, w7, w8⟩, M2, P1.fr F2 (by decide)⟩, GB.fr (n_X11_cell e).gb F2⟩
theorem C_copy (W : WV S H T D B X I r) (M : MV S H T D B X I Z r h) (P : XV S H T D B X I Z r tg h) (p i o j n : Int32) : ST2 h (f_X11_copy p i o j n h) (f_X12_copy p i o j n) := by
  have PP := P
  obtain ⟨p1, hw, p3, p4, p5, p6, p7, p8, p9, p10, p11, p12⟩ := P
  obtain ⟨w1, w2, w3, w4, w5, w6, w7, w8⟩ := W
  have h89 := hw.2.2
  have h8 : S.1 ≤ 8 := M.2.1.2.1
  have h6 : H.1 ≤ 6 := M.2.2.1.2.1
  obtain ⟨h1, e, x1, hw1, F⟩ := X_copy p11 hw p i o j n
  have M1 : MV S H T D B X I Z r h1 := M.mx (LY.pr M.1 okM F.1) (F.mx h89 (fun b z1 z2 z => by have := hw.1 b; omega))
  have lyM := M1.1
  obtain ⟨m0, m1, m2, m3, m4, m5, m6, m7, m8, m9⟩ := M1
  obtain ⟨h2, e2, y1, F2⟩ := M_copy m8 p i o j n
  have q32 := (F.2 32 (by omega) (fun z => by have := hw.1 32; omega)).1
  have P1 : XV S H T D B X I (u_copy Z p i o j n) r tg h1 := ⟨LY.pr p1 okX F.1, hw1, gz_of p3 hw F (fun z => by have := hw.1 49; omega), p4.fx hw F (fun _ _ => rfl) (fun b hb z => by have := hw.1 b; omega), p5.fx hw F (fun _ _ => rfl) (fun b hb z => by have := hw.1 b; omega), p6.raw hw F (by rw [q32]) (fun z => by have := hw.1 36; omega), p7.raw hw F (by rw [q32]) (fun z => by have := hw.1 37; omega) (fun z => by have := hw.1 38; omega), p8.fx hw F (fun z => by have := hw.1 39; omega) (fun z => by have := hw.1 40; omega), p9.fx hw F (fun _ _ => rfl) (fun b hb z => by have := hw.1 b; omega), p10.fx hw F (fun z => by have := hw.1 44; omega) (fun z => by have := hw.1 45; omega), x1, by rw [q32]; exact p12⟩
  have M2 : MV S H T D B X I (u_copy Z p i o j n) r h2 := ⟨LY.pr m0 okM (F2.fx (by decide)).1, m1.fr F2 (by decide), m2.fr F2 (by decide), m3.fr F2 (by decide), m4.fr F2 (by decide), m5.fr F2 (by decide), m6.fr F2 (by decide), m7.fr F2 (by decide), y1, by rw [F2.2.2.2.2.2.1 60 4 (by decide) (by decide)]; exact m9⟩
  exact ⟨_, h1, h2, e, lyM, e2, ⟨S, H, T, D, B, X, I, (u_copy Z p i o j n), r, tg, ⟨w1, w2, w3, w4, w5, w6, w7, w8⟩, M2, P1.fr F2 (by decide)⟩, GB.fr (n_X11_copy e).gb F2⟩
theorem C_image (W : WV S H T D B X I r) (M : MV S H T D B X I Z r h) (P : XV S H T D B X I Z r tg h)  : ST2 h (f_X11_image  h) (f_X12_image ) := by
  have PP := P
  obtain ⟨p1, hw, p3, p4, p5, p6, p7, p8, p9, p10, p11, p12⟩ := P
  obtain ⟨w1, w2, w3, w4, w5, w6, w7, w8⟩ := W
  have h89 := hw.2.2
  have h8 : S.1 ≤ 8 := M.2.1.2.1
  have h6 : H.1 ≤ 6 := M.2.2.1.2.1
  obtain ⟨h1, e, x1, hw1, F⟩ := X_image p4 hw p6 p12
  have M1 : MV S H T D B X I Z r h1 := M.mx (LY.pr M.1 okM F.1) (F.mx h89 (fun b z1 z2 z => by have := hw.1 b; omega))
  have lyM := M1.1
  obtain ⟨m0, m1, m2, m3, m4, m5, m6, m7, m8, m9⟩ := M1
  obtain ⟨h2, e2, y1, F2⟩ := M_image m1 m3 m9
  have q32 := (F.2 32 (by omega) (fun z => by have := hw.1 32; omega)).1
  have P1 : XV S H T D B X (u_image S T (nI r)) Z r tg h1 := ⟨LY.pr p1 okX F.1, hw1, gz_of p3 hw F (fun z => by have := hw.1 49; omega), p4.fx hw F (fun _ _ => rfl) (fun b hb z => by have := hw.1 b; omega), p5.fx hw F (fun _ _ => rfl) (fun b hb z => by have := hw.1 b; omega), p6.raw hw F (by rw [q32]) (fun z => by have := hw.1 36; omega), p7.raw hw F (by rw [q32]) (fun z => by have := hw.1 37; omega) (fun z => by have := hw.1 38; omega), p8.fx hw F (fun z => by have := hw.1 39; omega) (fun z => by have := hw.1 40; omega), p9.fx hw F (fun _ _ => rfl) (fun b hb z => by have := hw.1 b; omega), x1, p11.fx hw F (fun _ _ => rfl) (fun b hb z => by have := hw.1 b; omega), by rw [q32]; exact p12⟩
  have M2 : MV S H T D B X (u_image S T (nI r)) Z r h2 := ⟨LY.pr m0 okM (F2.fx (by decide)).1, m1.fr F2 (by decide), m2.fr F2 (by decide), m3.fr F2 (by decide), m4.fr F2 (by decide), m5.fr F2 (by decide), m6.fr F2 (by decide), y1, m8.fr F2 (by decide), by rw [F2.2.2.2.2.2.1 60 4 (by decide) (by decide)]; exact m9⟩
  exact ⟨_, h1, h2, e, lyM, e2, ⟨S, H, T, D, B, X, (u_image S T (nI r)), Z, r, tg, ⟨w1, w2, w3, w4, w5, w6, WI_image w1 w8, w8⟩, M2, P1.fr F2 (by decide)⟩, GB.fr (n_X11_image e).gb F2⟩
end
