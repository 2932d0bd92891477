theorem KS.to {G : GE} {s U : State} (hK : KS G s) (hW : s.WarmedH U.vm) (hq : ∀ a : Nat, a < s.heap.size → ¬ Ad G a → U.heap[a]? = s.heap[a]?) : KS G U := by
  obtain ⟨k1, k2, k3, k4, ⟨k5, k5b, k5c⟩, k6, k7, k8, k9, k10, k11, k12, k13, k14⟩ := hK
  have al := hW.alike
  refine ⟨va_K.moved al k1, fun q hq => va_Nw.warmM hW (k2 q hq), fun q hq => va_Nw.warmC hW (k3 q hq), fun q hq => (k4 q hq).moved al, ⟨k5.moved al, k5b.moved al, (k5c.moved al).kept hq⟩, fun i q h => vk_R.warm hW (k6 i q h), (k7.moved al).kept hq, (k8.moved al).kept hq, (k9.moved al).kept hq, (k10.moved al).kept hq, (k11.moved al).kept hq, (k12.moved al).kept hq, (k13.moved al).kept hq, k14⟩
theorem KS.same {G : GE} {s U : State} (hK : KS G s) (hv : U.vm = s.vm) (hh : U.heap = s.heap) : KS G U :=
  hK.to (by rw [hv]; exact State.WarmedH.refl s) (fun a _ _ => by rw [hh])
theorem Pc_blind {G : GE} {h : HS} {as : List Value} : FrameBlind (va_Pc as (fun U => Rel G h U.heap ∧ KS G U)) := by
  intro a U g mk q
  obtain ⟨q1, q2, q3⟩ := q
  exact ⟨q1, q2, q3.same rfl rfl⟩
def entL : List Value → List Value
  | [] => []
  | .long x :: vs => .long x :: dum :: entL vs
  | .double x :: vs => .double x :: dum :: entL vs
  | v :: vs => v :: entL vs
def ent (as : List Value) (n : Nat) : List Value := entL as ++ List.replicate (n - (entL as).length) dum
theorem cat_cv {G : GE} {v : Value} (hG : G.2.2.1 = .null ∨ ∃ t : Nat, G.2.2.1 = .ref t) (hn : ∀ x, v ≠ .double x) (hl : ∀ x, v ≠ .long x) : (cv G v).category = 1 := by
  rcases lv_cat (cv G v) with h | h
  · exact h
  · obtain ⟨x, hx⟩ := cv_cat2 hG hn h
    exact absurd hx (hl x)
theorem ent_args {G : GE} (hG : G.2.2.1 = .null ∨ ∃ t : Nat, G.2.2.1 = .ref t) : ∀ (as : List Value) (off k : Nat) (v : Value), (entL as)[k]? = some v → v ≠ dum → (off + k, cv G v) ∈ lv_args off (as.map (cv G))
  | [], off, k, v, h, _ => by simp [entL] at h
  | a :: vs, off, k, v, h, hv => by
    have two : ∀ a : Value, cv G a = a → a.category = 2 → (a :: dum :: entL vs)[k]? = some v → (off + k, cv G v) ∈ (off, cv G a) :: lv_args (if (cv G a).category = 2 then off + 2 else off + 1) (vs.map (cv G)) := by
      intro a ha hc h
      rw [ha, if_pos hc]
      match k, h with
      | 0, h => cases h; rw [ha]; exact List.mem_cons_self
      | 1, h => cases h; exact absurd rfl hv
      | k + 2, h =>
        refine List.mem_cons_of_mem _ ?_
        have := ent_args hG vs (off + 2) k v h hv
        rw [show off + 2 + k = off + (k + 2) by omega] at this
        exact this
    by_cases hl : ∃ x, a = .long x
    · obtain ⟨x, rfl⟩ := hl
      exact two _ rfl rfl h
    · by_cases hl2 : ∃ x, a = .double x
      · obtain ⟨x, rfl⟩ := hl2
        exact two _ rfl rfl h
      · have hl' : ∀ x, a ≠ .long x := fun x hx => hl ⟨x, hx⟩
        have hl2' : ∀ x, a ≠ .double x := fun x hx => hl2 ⟨x, hx⟩
        have hc := cat_cv hG hl2' hl'
        have e1 : entL (a :: vs) = a :: entL vs := by
          cases a <;> first | rfl | exact absurd rfl (hl' _) | exact absurd rfl (hl2' _)
        rw [e1] at h
        show (off + k, cv G v) ∈ (off, cv G a) :: lv_args (if (cv G a).category = 2 then off + 2 else off + 1) (vs.map (cv G))
        rw [if_neg (by omega)]
        match k, h with
        | 0, h => cases h; exact List.mem_cons_self
        | k + 1, h =>
          refine List.mem_cons_of_mem _ ?_
          have := ent_args hG vs (off + 1) k v h hv
          rw [show off + 1 + k = off + (k + 1) by omega] at this
          exact this
theorem ent_len {G : GE} (hG : G.2.2.1 = .null ∨ ∃ t : Nat, G.2.2.1 = .ref t) : ∀ (as : List Value), (lg_sl (as.map (cv G))).length = (entL as).length
  | [] => rfl
  | a :: vs => by
    have ih := ent_len hG vs
    by_cases hl : ∃ x, a = .long x
    · obtain ⟨x, rfl⟩ := hl
      show ([Slot.val (.long x), .second] ++ lg_sl (vs.map (cv G))).length = (Value.long x :: dum :: entL vs).length
      simp [ih]
    · by_cases hl2 : ∃ x, a = .double x
      · obtain ⟨x, rfl⟩ := hl2
        show ([Slot.val (.double x), .second] ++ lg_sl (vs.map (cv G))).length = (Value.double x :: dum :: entL vs).length
        simp [ih]
      · have hl' : ∀ x, a ≠ .long x := fun x hx => hl ⟨x, hx⟩
        have hl2' : ∀ x, a ≠ .double x := fun x hx => hl2 ⟨x, hx⟩
        have hc := cat_cv hG hl2' hl'
        have e1 : entL (a :: vs) = a :: entL vs := by
          cases a <;> first | rfl | exact absurd rfl (hl' _) | exact absurd rfl (hl2' _)
        rw [e1]
        show ((if (cv G a).category = 2 then [Slot.val (cv G a), .second] else [Slot.val (cv G a)]) ++ lg_sl (vs.map (cv G))).length = _
        rw [if_neg (by omega)]
        simp [ih]
/-- a method that a call may name: its words are among the tables' -/
def MS (y : MethodName) (mi : MI) (n : Nat) : Prop := (y.cls ≠ "java/lang/invoke/MethodHandle" ∧ y.cls ≠ "java/lang/invoke/VarHandle" ∧ (parseMethodDescriptor y.desc).map (fun d => d.parameters.length) = some n) ∧ Cond.code y mi.2.1 mi.2.2.1 mi.2.2.2.1 ∈ gT ∧ Cond.initialized y.cls ∈ gT ∧ mi.2.2.1 ≤ 51
def wS : List Value → Nat
  | [] => 0
  | .long _ :: vs => 2 + wS vs
  | .double _ :: vs => 2 + wS vs
  | _ :: vs => 1 + wS vs
theorem wS_cv {G : GE} (hG : G.2.2.1 = .null ∨ ∃ t : Nat, G.2.2.1 = .ref t) : ∀ st : List Value, ((st.map (cv G)).map fun v => v.category).sum ≤ wS st
  | [] => Nat.le_refl 0
  | a :: vs => by
    have ih := wS_cv hG vs
    show (cv G a).category + _ ≤ _
    by_cases h2 : (∃ x, a = .long x) ∨ ∃ x, a = .double x
    · rcases h2 with ⟨x, rfl⟩ | ⟨x, rfl⟩
      · exact Nat.add_le_add_left ih 2
      · exact Nat.add_le_add_left ih 2
    · have hl : ∀ x, a ≠ .long x := fun x hx => h2 (Or.inl ⟨x, hx⟩)
      have hdd : ∀ x, a ≠ .double x := fun x hx => h2 (Or.inr ⟨x, hx⟩)
      have hc := cat_cv hG hdd hl
      have e1 : wS (a :: vs) = 1 + wS vs := by
        cases a <;> first | rfl | exact absurd rfl (hl _) | exact absurd rfl (hdd _)
      rw [e1, hc]
      exact Nat.add_le_add_left ih 1
theorem good_app {pre : List Cond} {w : Cond} (h1 : ∀ x ∈ pre, x ∈ gT) (h2 : w ∈ gT) : GoodIn gT (pre ++ w :: gT) := by
  intro x hx
  have hm : x ∈ gT := by
    rcases List.mem_append.mp hx with h | h
    · exact h1 x h
    · rcases List.mem_cons.mp h with h | h
      · rw [h]; exact h2
      · exact h
  exact ⟨hm, gT_good x hm⟩
section
variable {G : GE} {d dC : Nat} {mi mic : MI} {pc : Nat} {ls st st0 as : List Value} {h h1 h' : HS} {r r1 : Option Value} {y : MethodName}
theorem ce_of (hy : y.cls = mi.1) (hpl : plainName y.cls = true) (hini : mi.2.2.2.2 = true → y.name = "<init>") (hlen : (entL as).length ≤ mi.2.2.1) {ls : List Value} (hls : ent as mi.2.2.1 = ls) (k : En G d mi 0 ls [] h r h') : CE G d y mi as h r h' := by
  subst hls
  refine ⟨k.1, k.2.1, fun l => ?_⟩
  refine Met.ofW (cc := mi.2.1) (maxL := mi.2.2.1) (ret := mi.2.2.2.1) hpl rfl ?_
  intro p e s m args below meth c s₁ B hml hv
  obtain ⟨rfl, hRel, hK⟩ := hv
  have hts := atoms_spec (ws := Cond.code y mi.2.1 mi.2.2.1 mi.2.2.2.1 :: gT) B.pre
  have hown : s.vm.findClass y.cls = some m.cls := findClass_of_methodNamed B.named
  have hin : meth.name = y.name := (name_of_methodNamed B.named B.method).1
  have hG := hK.2.2.2.2.2.2.2.2.2.2.2.2.2
  have hl := lv_entry (as.map (cv G)) (n := mi.2.2.1) (by rw [ent_len hG as]; exact hlen)
  rw [lg_entry_eq]
  have k1 := k.1
  have k2 := k.2.1
  refine k.2.2 p l e _ s m _ below meth c (hN h) (hS h) _ _ ⟨B.exec, B.bytes, B.returns, hml, by rw [← hy]; exact hown, fun w hw => hts w (List.mem_cons_of_mem _ hw), hK, B.notSynchronized, fun q => hin.trans (hini q), Nat.le_refl _, Nat.le_refl _, Nat.le_refl _, Nat.le_refl _, by show hN h' = hN h + (hN h' - hN h); omega, by show hS h' = hS h + (hS h' - hS h); omega⟩ 0 0 s.heap [] _ ⟨rfl, rfl, va_S.rf, hRel, hl.1, hl.2.1, fun j v hj hv => ?_⟩
  have hj2 : (entL as)[j]? = some v := by
    by_cases hlt : j < (entL as).length
    · unfold ent at hj
      rwa [List.getElem?_append_left hlt] at hj
    · unfold ent at hj
      rw [List.getElem?_append_right (by omega)] at hj
      exact absurd (List.eq_of_mem_replicate (List.mem_of_getElem? hj)) hv
  have := ent_args hG as 0 j v hj2 hv
  rw [Nat.zero_add] at this
  exact hl.2.2 _ this
theorem e_iret {x : Int32} {ty : FieldType} (hrt : mi.2.2.2.1 = some ty) (hn : narrow ty (.int x) = .int x) (hd : decode mi.2.1 pc = .ok (.ireturn, 1)) : En G d mi pc ls [.int x] h (some (.int x)) h := by
  refine ⟨Nat.le_refl _, Nat.le_refl _, fun p l e R s m args below meth c c0 s0 mc ms hC cells slots H locs lsr hD => ?_⟩
  obtain ⟨hx, hb, hr, hml, ho, ht, hK, hlk, hin, r1, r2, r3, r4, r5, r6⟩ := hC
  obtain ⟨d1, d2, hS, hRel, hl⟩ := hD
  have e1 : mc = cells := by omega
  have e2 : ms = slots := by omega
  subst e1; subst e2
  exact W.zret hx hb (hr.trans hrt) hn (fun t ht hW => ⟨rfl, by rw [ht]; exact hRel, hS.F ht⟩) hS.2.2 hd hlk
theorem e_lret {x : Int64} (hrt : mi.2.2.2.1 = some .long) (hd : decode mi.2.1 pc = .ok (.lreturn, 1)) : En G d mi pc ls [.long x] h (some (.long x)) h := by
  refine ⟨Nat.le_refl _, Nat.le_refl _, fun p l e R s m args below meth c c0 s0 mc ms hC cells slots H locs lsr hD => ?_⟩
  obtain ⟨hx, hb, hr, hml, ho, ht, hK, hlk, hin, r1, r2, r3, r4, r5, r6⟩ := hC
  obtain ⟨d1, d2, hS, hRel, hl⟩ := hD
  have e1 : mc = cells := by omega
  have e2 : ms = slots := by omega
  subst e1; subst e2
  exact W.lret hx hb (hr.trans hrt) (fun t ht hW => ⟨rfl, by rw [ht]; exact hRel, hS.F ht⟩) hS.2.2 hd hlk
theorem e_aret {v : Value} {ty : FieldType} (hrt : mi.2.2.2.1 = some ty) (hty : (∃ n, ty = .object n) ∨ ∃ t, ty = .array t) (hv : v = .null ∨ ∃ a, v = .ref a) (hd : decode mi.2.1 pc = .ok (.areturn, 1)) : En G d mi pc ls [v] h (some v) h := by
  refine ⟨Nat.le_refl _, Nat.le_refl _, fun p l e R s m args below meth c c0 s0 mc ms hC cells slots H locs lsr hD => ?_⟩
  obtain ⟨hx, hb, hr, hml, ho, ht, hK, hlk, hin, r1, r2, r3, r4, r5, r6⟩ := hC
  obtain ⟨d1, d2, hS, hRel, hl⟩ := hD
  have e1 : mc = cells := by omega
  have e2 : ms = slots := by omega
  subst e1; subst e2
  exact W.aret hx hb (hr.trans hrt) hty (hv.elim (fun e => by subst e; exact Or.inl rfl) (fun ⟨a, e⟩ => by subst e; exact Or.inr ⟨_, rfl⟩)) (fun t ht hW => ⟨rfl, by rw [ht]; exact hRel, hS.F ht⟩) hS.2.2 hd hlk
theorem e_vret (hrt : mi.2.2.2.1 = none) (hd : decode mi.2.1 pc = .ok (.return_, 1)) : En G d mi pc ls [] h none h := by
  refine ⟨Nat.le_refl _, Nat.le_refl _, fun p l e R s m args below meth c c0 s0 mc ms hC cells slots H locs lsr hD => ?_⟩
  obtain ⟨hx, hb, hr, hml, ho, ht, hK, hlk, hin, r1, r2, r3, r4, r5, r6⟩ := hC
  obtain ⟨d1, d2, hS, hRel, hl⟩ := hD
  have e1 : mc = cells := by omega
  have e2 : ms = slots := by omega
  subst e1; subst e2
  exact W.vret hx hb (hr.trans hrt) (fun t ht hW => ⟨rfl, by rw [ht]; exact hRel, hS.F ht⟩) hS.2.2 hd hlk
theorem run_cont {p : Program} {l : Launch} {e : Env} {R : Room} {s : State} {m : MethodId} {args : Array Value} {below : List Frame} {meth : Method} {c : Code} {H : Heap} {locs : List Loc} {cells slots mc ms : Nat} {Q : State → Prop} {lsr : Array Slot} {g rest : List Value} {a : Array Value} (hr : va_Run p l e R s m args below meth c H locs cells slots mc ms (F0 m pc lsr g) rest (Qr G r1 h1 a) (Ad G)) (hS : va_S (Ad G) s.heap H locs)
    (kk : ∀ (H1 : Heap) (locs1 : List Loc), va_S (Ad G) s.heap H1 locs1 → Rel G h1 H1 → W p l e R s m args below meth c H1 locs1 (cells + mc) (slots + ms) Q (F0 m (pc + 3) lsr ((r1.map (cv G)).toList ++ rest))) : W p l e R s m args below meth c H locs cells slots Q (F0 m pc lsr g) := by
  intro T hT X
  obtain ⟨v, st₀, t, T', L, h0, X', hL, e1, e2, ⟨hv, hRel, hz, hk⟩, st⟩ := hr T hT X
  cases hv
  rw [h0] at hz hk
  obtain ⟨t2, a1, b1⟩ := kk T'.heap (locs ++ L) ⟨Nat.le_trans hS.1 (by rw [e1]; exact hz), fun q h1 h2 => by rw [e1, hk q (Nat.lt_of_lt_of_le h1 hS.1) h2]; exact hS.2.1 q h1 h2, fun q hq => by
      rcases List.mem_append.mp hq with h | h
      · exact hS.2.2 q h
      · exact hL q h⟩ (by rw [e1]; exact hRel) T' rfl X'
  exact ⟨t2, st t2 a1, b1⟩
/-- a call of whatever sort: what is left is how the machine runs it -/
theorem e_call0 (hc : CE G dC y mic as h r1 h1) (kk : En G d mi (pc + 3) ls (r1.toList ++ st) h1 r h')
    (f : ∀ (p : Program) (l : Launch) (e : Env) (R : Room) (s : State) (m : MethodId) (args : Array Value) (below : List Frame) (meth : Method) (c : Code) (cells slots mc ms : Nat) (H : Heap) (locs : List Loc) (lsr : Array Slot),
      CallFix p m c mi.2.1 mi.2.2.1 s args gT mi.1 → KS G s → Rel G h H → va_S (Ad G) s.heap H locs → lsr.size = mi.2.2.1 → d ≤ R.frames → 70 * d ≤ R.locals → cells + mc ≤ R.cells → slots + ms ≤ R.slots →
      Met l y (Cond.code y mic.2.1 mic.2.2.1 mic.2.2.2.1 :: gT) ({ frames := dC, cells := mc, slots := ms, locals := 70 * dC }) (va_Pc (as.map (cv G)) (fun U => Rel G h U.heap ∧ KS G U)) (Qr G r1 h1) mc ms (Ad G) →
      (∀ U : State, U.heap = H → s.WarmedH U.vm → va_Pc (as.map (cv G)) (fun U => Rel G h U.heap ∧ KS G U) (as.map (cv G)).toArray U) →
      va_Run p l e R s m args below meth c H locs cells slots mc ms (F0 m pc lsr (st0.map (cv G))) (st.map (cv G)) (Qr G r1 h1 (as.map (cv G)).toArray) (Ad G)) : En G d mi pc ls st0 h r h' := by
  obtain ⟨c1, c2, hM⟩ := hc
  have k1 := kk.1
  have k2 := kk.2.1
  refine ⟨Nat.le_trans c1 k1, Nat.le_trans c2 k2, fun p l e R s m args below meth c c0 s0 mc ms hC cells slots H locs lsr hD => ?_⟩
  have hCC := hC
  obtain ⟨hx, hb, hr, hml, ho, ht, hK, hlk, hin, r1', r2', r3, r4, r5, r6⟩ := hC
  obtain ⟨d1, d2, hS, hRel, hl⟩ := hD
  refine run_cont (f p l e R s m args below meth c cells slots (hN h1 - hN h) (_root_.Jvm.Pilot.CThreeBallsLaw_law_r5125_ff5d20.hS h1 - _root_.Jvm.Pilot.CThreeBallsLaw_law_r5125_ff5d20.hS h) H locs lsr ⟨hx, hb, hml, ho, ht⟩ hK hRel hS hl.1 r1' r2' (by omega) (by omega) (hM l) (fun U hU hW => ⟨rfl, by rw [hU]; exact hRel, hK.to hW (fun a ha hn => by rw [hU]; exact hS.2.1 a ha hn)⟩)) hS (fun H1 locs1 hS1 hR1 => ?_)
  have w := kk.2.2 p l e R s m args below meth c c0 s0 mc ms hCC (cells + (hN h1 - hN h)) (slots + (_root_.Jvm.Pilot.CThreeBallsLaw_law_r5125_ff5d20.hS h1 - _root_.Jvm.Pilot.CThreeBallsLaw_law_r5125_ff5d20.hS h)) H1 locs1 lsr ⟨by omega, by omega, hS1, hR1, hl⟩
  rw [List.map_append] at w
  cases r1 with
  | none => exact w
  | some v => exact w
theorem e_callS {index : Nat} (hl1 : Cond.methodLink mi.1 index y ∈ gT) (hl2 : Cond.static y ∈ gT) (hm : MS y mic as.length) (hd : decode mi.2.1 pc = .ok (.invokestatic index, 3)) (hw : wS st ≤ 8) (hdd : dC + 1 ≤ d) (hst : st0 = as.reverse ++ st) (hc : CE G dC y mic as h r1 h1) (kk : En G d mi (pc + 3) ls (r1.toList ++ st) h1 r h') : En G d mi pc ls st0 h r h' := by
  subst hst
  refine e_call0 hc kk (fun p l e R s m args below meth c cells slots mc ms H locs lsr hF hK hRel hS hsz f1 f2 f3 f4 hM hP => ?_)
  obtain ⟨m1, m2, m3, m4⟩ := hm
  exact va_runS hF hM (va_cwS as.length hF.2.2.2.2 (good_app (pre := [.methodLink mi.1 index y, .static y, .initialized y.cls]) (by simp only [List.mem_cons, List.not_mem_nil, or_false, forall_eq_or_imp, forall_eq]; exact ⟨hl1, hl2, m3⟩) m2) rfl rfl rfl m1 ⟨by show dC + 1 ≤ _; omega, by show 8 + (mic.2.2.1 + 11) + 70 * dC ≤ _; omega⟩) ⟨Pc_blind, hP⟩ rfl (by rw [List.length_map]) hsz (by show List.map (cv G) (as.reverse ++ st) = _; rw [List.map_append, List.map_reverse]) (lv_room (Nat.le_trans (wS_cv hK.2.2.2.2.2.2.2.2.2.2.2.2.2 st) hw)) hd ⟨f3, f4⟩
theorem e_callV {index a ci : Nat} {q : vw_C} (hk : hT h a = ci + 1) (hci : ci < 14) (hq : vwCl[ci]? = some q) (hyc : y.cls = q.1) (hl1 : Cond.methodLink mi.1 index y ∈ gT) (hl2 : Cond.instanceMethod y ∈ gT) (hl3 : Cond.selects q.1 y y ∈ gT) (hm : MS y mic as.length) (hd : decode mi.2.1 pc = .ok (.invokevirtual index, 3)) (hw : wS st ≤ 8) (hdd : dC + 1 ≤ d) (hst : st0 = as.reverse ++ .ref a :: st) (hc : CE G dC y mic (.ref a :: as) h r1 h1) (kk : En G d mi (pc + 3) ls (r1.toList ++ st) h1 r h') : En G d mi pc ls st0 h r h' := by
  subst hst
  refine e_call0 hc kk (fun p l e R s m args below meth c cells slots mc ms H locs lsr hF hK hRel hS hsz f1 f2 f3 f4 hM hP => ?_)
  obtain ⟨m1, m2, m3, m4⟩ := hm
  have hrec : ∃ cellB : Cell, H[ad G a]? = some cellB ∧ cellB.vm.isStatics = false ∧ s.vm.findClass q.1 = some cellB.cls := by
    obtain ⟨cell, q1, q2, q3, -⟩ := hRel.ob hk hci hq
    exact ⟨cell, q1, by rw [q3]; rfl, by rw [q2]; exact (hK.1.1 ci q hq).2.1⟩
  exact va_runV (b := ad G a) (As := as.map (cv G)) hF hM (cwV as.length hF.2.2.2.2 (good_app (pre := [.methodLink mi.1 index y, .instanceMethod y, .selects q.1 y y, .initialized q.1]) (by simp only [List.mem_cons, List.not_mem_nil, or_false, forall_eq_or_imp, forall_eq]; exact ⟨hl1, hl2, hl3, by rw [← hyc]; exact m3⟩) m2) rfl rfl rfl ⟨hyc, m1⟩ ⟨by show dC + 1 ≤ _; omega, by show 8 + (mic.2.2.1 + 11) + 70 * dC ≤ _; omega⟩) ⟨Pc_blind, hrec, hP⟩ rfl (by rw [List.length_map]) hsz (by show List.map (cv G) (as.reverse ++ .ref a :: st) = _; rw [List.map_append, List.map_reverse]; rfl) (lv_room (Nat.le_trans (wS_cv hK.2.2.2.2.2.2.2.2.2.2.2.2.2 st) hw)) hd ⟨f3, f4⟩
theorem e_callI {index a : Nat} (hy1 : y.name = "<init>") (hl1 : Cond.methodLink mi.1 index y ∈ gT) (hl2 : Cond.instanceMethod y ∈ gT) (hm : MS y mic as.length) (hrn : mic.2.2.2.1 = none) (hd : decode mi.2.1 pc = .ok (.invokespecial index, 3)) (hw : wS st ≤ 8) (hdd : dC + 1 ≤ d) (hst : st0 = as.reverse ++ .ref a :: st) (hc : CE G dC y mic (.ref a :: as) h none h1) (kk : En G d mi (pc + 3) ls st h1 r h') : En G d mi pc ls st0 h r h' := by
  subst hst
  refine e_call0 hc kk (fun p l e R s m args below meth c cells slots mc ms H locs lsr hF hK hRel hS hsz f1 f2 f3 f4 hM hP => ?_)
  obtain ⟨m1, m2, m3, m4⟩ := hm
  rw [hrn] at hM m2
  exact va_runI (b := ad G a) (As := as.map (cv G)) hF hM (cwI as.length hF.2.2.2.2 (good_app (pre := []) (fun x h => by cases h) m2) rfl rfl rfl (hF.2.2.2.2 _ m3) (hF.2.2.2.2 _ hl1) (hF.2.2.2.2 _ hl2) hy1 m1 ⟨by show dC + 1 ≤ _; omega, by show 8 + (mic.2.2.1 + 11) + 70 * dC ≤ _; omega⟩) ⟨Pc_blind, hP⟩ rfl (by rw [List.length_map]) hsz (by show List.map (cv G) (as.reverse ++ .ref a :: st) = _; rw [List.map_append, List.map_reverse]; rfl) (lv_room (Nat.le_trans (wS_cv hK.2.2.2.2.2.2.2.2.2.2.2.2.2 st) hw)) hd ⟨f3, f4⟩
end
