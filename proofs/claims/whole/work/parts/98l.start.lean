set_option maxHeartbeats 4000000 in
theorem whole_start {p : Program} {e : Env} {s : State} {m : MethodId} {below : List Frame} {meth : Method} {c : Code} (l : Launch) (hflags : l.flags = flags0) {b L : Nat} {xs : Nat → Int32} (hL : L ≤ 384) (C0 : lw_At p s m meth c b L xs) : W p l e room_1 s m #[Value.ref b] below meth c s.heap [] 0 0 (lw_Z below #[Value.ref b] s) (entryFrame m ([Value.ref b] : List Value).toArray 4) := by
  obtain ⟨G, g1, g2, g3, hK⟩ := KS_of C0
  obtain ⟨hx, hb, hr, hml, hown, hts, hX, hbl, hlocks, hgv⟩ := id C0
  obtain ⟨h', ef, n1, n2⟩ := L_law (scr := fun j => nI (G.2.1 (101 + j))) (L := G.2.1 100) (by rw [g3]; exact hL)
  have E := t_L_law (G := G) 0 rfl rfl ef
  have m1 : 32 ≤ hN h' := E.1
  have hl := lv_entry ([Value.ref b]) (n := 4) (Nat.le_of_ble_eq_true rfl)
  rw [lg_entry_eq]
  generalize (lg_sl ([Value.ref b]) ++ List.replicate (4 - (lg_sl ([Value.ref b])).length) Slot.unset).toArray = ls at hl ⊢
  have hl : lv_has ls 4 [(0, .ref b)] := hl
  have hls : Hls G ls 4 [.ref 28, dum, dum, dum] := by
    refine ⟨hl.1, hl.2.1, fun k v hk hv => ?_⟩
    match k, hk with
    | 0, hk =>
      cases hk
      show ls[0]? = some (.val (.ref (ad G 28)))
      rw [show ad G 28 = b from g2]
      exact hl.2.2 (0, .ref b) (List.mem_singleton.mpr rfl)
    | 1, hk => cases hk; exact absurd rfl hv
    | 2, hk => cases hk; exact absurd rfl hv
    | 3, hk => cases hk; exact absurd rfl hv
    | k + 4, hk => simp at hk
  have hRel : Rel G h00 s.heap := ⟨Nat.le_refl _, by rw [g1]; rfl, fun a ha => absurd rfl ha⟩
  have w := E.2.2 p l e room_1 s m #[Value.ref b] below meth c 32 0 (hN h' - 32) (hS h') ⟨hx, hb, hr, hml, hown, fun w h => hts w (List.mem_filter.mp h).1, hK, hlocks, (fun z => absurd (show (false : Bool) = true from z) (by decide)), Nat.le_of_ble_eq_true rfl, Nat.le_of_ble_eq_true rfl, Nat.le_trans (show hN h' - 32 ≤ 64089 by omega) (Nat.le_of_ble_eq_true rfl), Nat.le_trans n2 (Nat.le_of_ble_eq_true rfl), by show hN h' = 32 + (hN h' - 32); omega, by show hS h' = 0 + hS h'; omega⟩ 0 0 s.heap [] ls ⟨rfl, rfl, va_S.rf, hRel, hls⟩
  intro T hT X
  obtain ⟨t, a1, o, b1, b2, b3, Lc, b4, b5⟩ := w T hT X
  refine ⟨t, a1, o, b1, b2, b3.1, b4.1, b4.2.1, ?_⟩
  refine b4.2.2.weaken (fun q hq hlt => ?_) (by omega) (by omega)
  have := b5 q hq
  unfold Ad at this
  rw [g1] at this
  exact absurd hlt (Nat.not_lt.mpr this)
