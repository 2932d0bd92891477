/-! ===== players: the rule is asked once for each count ===== -/
/-- what is known of the rule's answers -/
def MMo (go : Nat → Nat → Bool) (h : HS) : Prop := ∀ t, t < 40 → ∀ w, w < 41 → bt (hL h 53 t) w = (bt (hL h 52 t) w && go w t)
/-- a heap in which a player of stall i is played out -/
def PY (S : TB) (X : XT) (p i : Nat) (th : Int32) (tg : Nat → Nat) (a : Nat) (h : HS) : Prop := LY TX h ∧ Xtx X tg h ∧ Wx tg h ∧ hI h 32 3 = nI p ∧ Ost S tg h i a ∧ (∀ w t k, k < 4 → hI h 50 k = evS S i th w t k) ∧ MMo (goS S X p i th) h
def AP (tg : Nat → Nat) (b : Nat) : Prop := AR tg b ∨ b = 51 ∨ b = 52 ∨ b = 53
theorem nAP {tg : Nat → Nat} {h : HS} (hw : Wx tg h) {b : Nat} (hb : b < 50 ∨ 53 < b ∧ b < 56) : ¬ AP tg b := fun z => by
  rcases z with z | z
  · exact nAR hw (by omega) (by show b ≠ 50; omega) z
  · omega
theorem tAP {tg : Nat → Nat} {h : HS} (hw : Wx tg h) {b : Nat} (h1 : tg b ≠ 0) (h2 : ¬ (50 ≤ tg b ∧ tg b < 56)) : ¬ AP tg b := fun z => by
  have := hw.1 b h1
  rcases z with (z | z) | z
  · omega
  · exact h2 z
  · omega
theorem PY.fx {S : TB} {X : XT} {p i : Nat} {th : Int32} {tg : Nat → Nat} {a : Nat} {h h' : HS} (P : PY S X p i th tg a h) (hi : i < 8) (F : Fx (AP tg) h h') (hw : Wx tg h') (h50 : ∀ w t k, k < 4 → hI h' 50 k = evS S i th w t k) (hM : MMo (goS S X p i th) h') : PY S X p i th tg a h' := by
  obtain ⟨p1, p2, p3, p4, p5, p6, p7⟩ := P
  refine ⟨LY.pr p1 okX F.1, p2.ar p3 F (fun b z => ?_), hw, ?_, p5.fx p3 F (fun _ _ => rfl) (tAP p3 (by have := p5.1; omega) (by have := p5.1; omega)), h50, hM⟩
  · rcases z with z | z
    · exact Or.inl z
    · exact Or.inr (by omega)
  · rw [(F.2 32 (by have := p3.2.2; omega) (nAP p3 (by decide))).1]; exact p4
theorem X_goesOn {S : TB} {X : XT} {p i t w : Nat} {th : Int32} {tg : Nat → Nat} {a : Nat} {h : HS} (hWX : Wtx X) (hp : p < X.1) (hi : i < 8) (P : PY S X p i th tg a h) (ht : t < 40) (hwt : w ≤ t) : ∃ h', f_X11_goesOn (nI w) (nI t) h = some (goS S X p i th w t, h') ∧ PY S X p i th tg a h' ∧ Fx (AP tg) h h' := by
  have P0 := P
  obtain ⟨p1, p2, p3, p4, p5, p6, p7⟩ := P
  have h89 := p3.2.2
  have hx := ixb_n (i := t) (n := 40) ht (by decide)
  have hc : (nI t).toNatClampNeg = t := nI_clamp (by omega)
  have hz : inZ (nI t).toInt (0 : Int32).toInt (39 : Int32).toInt = true := by
    rw [inZ_t, nI_Z (by omega), z_0, show (39 : Int32).toInt = 39 from rfl]; omega
  have mk := mk_eq w (by omega)
  unfold f_X11_goesOn
  rw [f_isIn_eq, hz, Option.bind_some, if_pos rfl, if_pos hx, hc, mk]
  have fin : ∀ (g : HS), PY S X p i th tg a g → Fx (AP tg) h g → bt (hL g 52 t) w = true → ∃ h', (if ixb (nI t) 40 = true then (if ((hL g 53 t) &&& lN (2 ^ w)) = (0 : Int64) then (some (false, g)) else (some (true, g))) else none) = some (goS S X p i th w t, h') ∧ PY S X p i th tg a h' ∧ Fx (AP tg) h h' := by
    intro g Pg Fg hb
    have hm := Pg.2.2.2.2.2.2 t ht w (by omega)
    rw [hb, Bool.true_and] at hm
    rw [if_pos hx]
    by_cases c : (hL g 53 t &&& lN (2 ^ w)) = (0 : Int64)
    · have := (bt_and (x := hL g 53 t) (w := w) (by omega)).mp c
      rw [if_pos c, ← hm, show bt (hL g 53 t) w = false from this]
      exact ⟨g, rfl, Pg, Fg⟩
    · have : bt (hL g 53 t) w = true := by
        cases hv : bt (hL g 53 t) w
        · exact absurd ((bt_and (by omega)).mpr hv) c
        · rfl
      rw [if_neg c, ← hm, show bt (hL g 53 t) w = true from this]
      exact ⟨g, rfl, Pg, Fg⟩
  by_cases c : (hL h 52 t &&& lN (2 ^ w)) = (0 : Int64)
  · have hb0 := (bt_and (x := hL h 52 t) (w := w) (by omega)).mp c
    rw [if_pos c, if_pos hx, if_pos hx, if_pos hx]
    -- asked
    have F1 : Fx (AP tg) h (sL h 52 t (hL h 52 t ||| lN (2 ^ w))) := Fx.sL Fx.rf (Or.inl (Or.inr (Or.inr (Or.inl rfl))))
    have hw1 : Wx tg (sL h 52 t (hL h 52 t ||| lN (2 ^ w))) := p3
    obtain ⟨h2, s1, s2, s3, s4, s5⟩ := X_ruleS (h := sL h 52 t (hL h 52 t ||| lN (2 ^ w))) (LY.pr p1 okX F1.1) (p2.ar p3 F1 (fun b z => by
      rcases z with z | z
      · exact Or.inl z
      · exact Or.inr (by omega))) hWX hw1 hp (show hI (sL h 52 t _) 32 3 = nI p from p4) (fun w t k hk => p6 w t k hk) (nI w) (nI t) 0
    have q52 : ∀ k, hL h2 52 k = hL (sL h 52 t (hL h 52 t ||| lN (2 ^ w))) 52 k := (s5.2 52 (by show 52 < hN h; omega) (nAR hw1 (by decide) (by decide))).2.1
    have q53 : ∀ k, hL h2 53 k = hL h 53 k := fun k => by
      rw [(s5.2 53 (by show 53 < hN h; omega) (nAR hw1 (by decide) (by decide))).2.1 k, hL_sL, if_neg (by decide)]
    have F2 : Fx (AP tg) h h2 := F1.tr (s5.mono (fun _ _ z => Or.inl z))
    have e53 : hL (sL h 52 t (hL h 52 t ||| lN (2 ^ w))) 53 t = hL h 53 t := by rw [hL_sL, if_neg (by decide)]
    have build : ∀ y : Int64, bt y w = goS S X p i th w t → (∀ v, v < 41 → v ≠ w → bt y v = bt (hL h 53 t) v) → PY S X p i th tg a (sL h2 53 t y) ∧ Fx (AP tg) h (sL h2 53 t y) ∧ bt (hL (sL h2 53 t y) 52 t) w = true := by
      intro y hy1 hy2
      have F3 : Fx (AP tg) h (sL h2 53 t y) := Fx.sL F2 (Or.inl (Or.inr (Or.inr (Or.inr rfl))))
      have r52 : ∀ k, hL (sL h2 53 t y) 52 k = if k = t then hL h 52 t ||| lN (2 ^ w) else hL h 52 k := fun k => by
        rw [hL_sL, if_neg (by decide), q52, hL_sL, if_pos rfl]
      have r53 : ∀ k, hL (sL h2 53 t y) 53 k = if k = t then y else hL h 53 k := fun k => by
        rw [hL_sL, if_pos rfl, q53]
      refine ⟨P0.fx hi F3 (show Wx tg (sL h2 53 t y) from s3) (fun w t k hk => s2 w t k hk) (fun t' ht' w' hw' => ?_), F3, ?_⟩
      · show bt (hL (sL h2 53 t y) 53 t') w' = (bt (hL (sL h2 53 t y) 52 t') w' && _)
        rw [r52, r53]
        by_cases e : t' = t
        · rw [if_pos e, if_pos e, e, bt_or, bt_mk (by omega)]
          by_cases e2 : w' = w
          · rw [e2, hy1, decide_eq_true rfl, Bool.or_true, Bool.true_and]
          · rw [hy2 w' hw' e2, decide_eq_false (fun z => e2 z.symm), Bool.or_false]
            exact p7 t ht w' hw'
        · rw [if_neg e, if_neg e]; exact p7 t' ht' w' hw'
      · show bt (hL (sL h2 53 t y) 52 t) w = true
        rw [r52, if_pos rfl, bt_or, bt_mk (by omega), decide_eq_true rfl, Bool.or_true]
    rw [s1, Option.bind_some, e53]
    have hm0 := p7 t ht w (by omega)
    rw [show bt (hL h 52 t) w = false from hb0, Bool.false_and] at hm0
    by_cases cv : vR X p (evS S i th (nI w) (nI t)) 0 = 0
    · obtain ⟨b1, b2, b3⟩ := build (hL h 53 t ||| (0 : Int64)) (by
        rw [bt_or, bt_0, Bool.or_false]
        rw [show bt (hL h 53 t) w = false from hm0]
        unfold goS
        simp [cv]) (fun v _ _ => by rw [bt_or, bt_0, Bool.or_false])
      rw [if_pos cv, if_pos hx, Option.bind_some]
      exact fin _ b1 b2 b3
    · obtain ⟨b1, b2, b3⟩ := build (hL h 53 t ||| lN (2 ^ w)) (by
        rw [bt_or, bt_mk (by omega), decide_eq_true rfl, Bool.or_true]
        unfold goS
        simp [cv]) (fun v _ hv => by rw [bt_or, bt_mk (by omega), decide_eq_false (fun z => hv z.symm), Bool.or_false])
      rw [if_neg cv, if_pos hx, Option.bind_some]
      exact fin _ b1 b2 b3
  · have hb1 : bt (hL h 52 t) w = true := by
      cases hv : bt (hL h 52 t) w
      · exact absurd ((bt_and (by omega)).mpr hv) c
      · rfl
    rw [if_neg c, Option.bind_some]
    exact fin h P0 Fx.rf hb1
