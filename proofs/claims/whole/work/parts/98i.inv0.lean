/-! ===== what the makers leave ===== -/
theorem z_gX {h : HS} (e : gX = some h) : ∀ a, hN h ≤ a → hT h a = 0 := by
  have a := z_X11_init e
  exact a (Zr.nw (h := h00) (kd := 13) (ln := 0) (ns := 20) Zr.rf rfl (fun _ _ => rfl))
theorem z_gM {h : HS} (e : gM = some h) : ∀ a, hN h ≤ a → hT h a = 0 := by
  unfold gM at e
  cases hx : gX with
  | none => rw [hx] at e; cases e
  | some q =>
    rw [hx] at e
    have e' : f_X12_init 60 (hNew q 14 0 57) = some h := e
    have z := z_gX hx
    exact z_X12_init e' (Zr.nw (h := q) (kd := 14) (ln := 0) (ns := 57) Zr.rf (z _ (Nat.le_refl _)) z)
theorem gM_some : ∃ h, gM = some h := by
  have t := st_1
  cases e : gM with
  | some h => exact ⟨h, rfl⟩
  | none => unfold onS at t; rw [e] at t; cases t
abbrev T0 : TB := (0, fun _ _ => 0)
abbrev D0 : DT := (0, fun _ => 0, fun _ => 0)
abbrev X0 : XT := (1, fun _ => B1)
abbrev Z0 : SZ := (fun _ => false, fun _ => 0, fun _ => 0, fun _ _ => 0)
abbrev I0 : IM := (false, 0, 0, 0, fun _ _ => 0)
theorem rby_Z : ∀ k, k < 56 → 0 ≤ (rby.getD k 0).toInt ∧ (rby.getD k 0).toInt ≤ 255 := by decide
theorem inv0 {h : HS} (e : gM = some h) : INV h := by
  obtain ⟨a1, a2, a3, a4⟩ := of_decide_eq_true (onS_e e st_1)
  obtain ⟨b1, b2, b3, b4, b5, b6, b7, b8, b9, b10, b11⟩ := of_decide_eq_true (onS_e e st_2)
  obtain ⟨c1, c2, ⟨c3, c3'⟩, ⟨c4, c4'⟩, c5, c6, c7, c8, c9, c10⟩ := of_decide_eq_true (onS_e e st_3)
  have s4 := st_4
  unfold on3 at s4
  cases e3 : ap3 with
  | inl j => rw [e3] at s4; cases s4
  | inr q =>
    rw [e3] at s4
    obtain ⟨d1, d2, d3, d4, d5, d6, d7, d8, d9, d10, d11, d12, d13, d14, d15, d16⟩ := of_decide_eq_true (onS_e e s4)
    have y33 : hT h 33 = 1 := LY.t a3 1 (e := rfl)
    have y34 : hT h 34 = 1 := LY.t a3 2 (e := rfl)
    have y35 : hT h 35 = 1 := LY.t a3 3 (e := rfl)
    have zero : ∀ {P : Prop} (i : Nat), i < (0 : Nat) → P := fun i hi => absurd hi (Nat.not_lt_zero i)
    have q0 : q3 B1 = q := q3_eq (B := B1) e3
    refine ⟨T0, T0, T0, D0, (0, fun _ => 0), X0, I0, Z0, 0, tg0, ⟨?w1, ?w2, ?w3, ?w4, ?w5, ?w6, ?w7, ?w8⟩, ⟨a4, ?m1, ?m2, ?m3, ?m4, ?m5, ?m6, ?m7, ?m8, b11⟩, ⟨a3, ?x1, ⟨c1, c2⟩, ?x3, ?x4, ?x5, ?x6, ?x7, ?x8, ?x9, ?x10, c10⟩⟩
    case w1 => exact fun i hi => zero i hi
    case w2 => exact fun i hi => zero i hi
    case w3 => exact fun i hi => zero i hi
    case w4 => exact fun i hi => zero i hi
    case w5 => exact fun i hi => zero i hi
    case w6 => exact fun i hi => ⟨show 56 ≤ 160 by decide, rby_Z, q, e3⟩
    case w7 => exact fun z => by cases z
    case w8 => exact Nat.zero_lt_one
    case m1 => exact ⟨b1, by decide, fun i hi => zero i hi⟩
    case m2 => exact ⟨b2, by decide, fun i hi => zero i hi⟩
    case m3 => exact ⟨b3, by decide, fun i hi => zero i hi⟩
    case m4 => exact ⟨b4, by decide, fun i hi => zero i hi⟩
    case m5 => exact ⟨b5, by decide, fun i hi => zero i hi⟩
    case m6 => exact ⟨b6, by decide, fun i hi => by
      obtain rfl : i = 0 := by have : i < 1 := hi; omega
      exact ⟨b7, fun k hk => by rw [show 160 * 0 + k = k by omega]; exact b8 k hk⟩⟩
    case m7 => exact ⟨b9, fun z => by cases z⟩
    case m8 => exact fun j hj => ⟨b10 j hj, fun z => by cases z⟩
    case x1 =>
      refine ⟨fun a ha => ?_, z_gM e, by rw [a1]; exact Nat.le_refl _⟩
      unfold tg0 at ha
      rw [a1]
      by_cases p6 : a = 56
      · subst p6; decide
      by_cases p7 : a = 57
      · subst p7; decide
      by_cases p8 : a = 58
      · subst p8; decide
      by_cases p9 : a = 59
      · subst p9; decide
      rw [if_neg p6, if_neg p7, if_neg p8, if_neg p9] at ha
      exact absurd rfl ha
    case x3 => exact ⟨fun _ => 0, ⟨y33, c3, by decide, 27, c3', Or.inl ⟨rfl, rfl⟩⟩, fun i hi => zero i hi⟩
    case x4 => exact ⟨by decide, fun _ => 0, ⟨y34, c4, by decide, 27, c4', Or.inl ⟨rfl, rfl⟩⟩, fun i hi => zero i hi⟩
    case x5 => exact ⟨c5, by decide, fun i f hi _ => zero i hi⟩
    case x6 => exact ⟨c6, by decide, fun i hi => zero i hi⟩
    case x7 => exact ⟨c7, by decide, fun i hi => zero i hi⟩
    case x8 =>
      refine ⟨by decide, fun _ => 56, ⟨y35, d1, by decide, 59, d2, Or.inr ⟨by decide, rfl, d3, d4, fun i hi => ?_⟩⟩, fun i hi => ?_⟩
      · obtain rfl : i = 0 := by have : i < 1 := hi; omega
        exact d5
      · obtain rfl : i = 0 := by have : i < 1 := hi; omega
        refine ⟨57, 58, rfl, rfl, rfl, ?_⟩
        show Otx0 (q3 B1) h 56 57 58
        rw [q0]
        exact ⟨d6, d7, d8, d9, d10, d11, d12, d13, d14, d15, d16, by decide, by decide, by decide⟩
    case x9 => exact ⟨c8, fun z => by cases z⟩
    case x10 => exact fun j hj => ⟨(fun z => absurd (show (false : Bool) = true from z) (by decide)), (fun _ => c9 j hj)⟩
/-- the law's body: it ends well, and little is made -/
theorem L_law {scr : Nat → Int32} {L : Nat} (hL : L ≤ 384) : ∃ h', f_L_law scr L h00 = some (true, h') ∧ hN h' ≤ 64089 ∧ hS h' ≤ 520000 := by
  obtain ⟨h, e⟩ := gM_some
  obtain ⟨a1, a2, -, -⟩ := of_decide_eq_true (onS_e e st_1)
  obtain ⟨h', u1, u2, u3⟩ := L_loop (scr := scr) hL 64 0 1000 h (by omega) (by omega) (by omega) (inv0 e)
  refine ⟨h', ?_, by omega, by omega⟩
  have e0 := e
  unfold gM at e
  cases hx : gX with
  | none => rw [hx] at e; cases e
  | some q =>
    rw [hx] at e
    have e' : f_X12_init 60 (hNew q 14 0 57) = some h := e
    have hq : hN q = 60 := by have t := st_gX; rw [hx] at t; exact Option.some.inj t
    have z := z_gX hx
    unfold f_L_law
    have hx' : f_X11_init 32 (hNew h00 13 0 20) = some q := hx
    rw [show hN h00 = 32 from rfl, if_pos (show hT h00 32 = 0 from rfl)]
    unfold bh
    dsimp only
    rw [hx', Option.bind_some, hq, if_pos (z 60 (by omega))]
    rw [e', Option.bind_some]
    have u1' : l_L_law_18 scr L 32 60 1000 (0 : Int32) h = some (Sum.inr h') := u1
    rw [u1']
    rfl
