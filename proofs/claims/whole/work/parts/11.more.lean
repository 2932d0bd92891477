section
variable {G : GE} {d dC : Nat} {mi mic : MI} {pc : Nat} {ls st st0 as : List Value} {h h1 h' : HS} {r r1 : Option Value} {y : MethodName}
theorem e_objI {index a : Nat} (hl : Cond.methodLink mi.1 index objectInit ∈ gT) (hd : decode mi.2.1 pc = .ok (.invokespecial index, 3)) (hw : wS st ≤ 8) (hdd : 1 ≤ d) (kk : En G d mi (pc + 3) ls st h r h') : En G d mi pc ls (.ref a :: st) h r h' :=
  ⟨kk.1, kk.2.1, fun p l e R s m args below meth c c0 s0 mc ms hC cells slots H locs lsr hD => by
    have hCC := hC
    obtain ⟨hx, hb, hr, hml, ho, ht, hK, hlk, hin, r1', r2', r3, r4, r5, r6⟩ := hC
    have hrm := lv_room (m := m) (pc := pc) (ls := lsr) (rest := (Value.ref a :: st).map (cv G)) (Nat.le_trans (wS_cv hK.2.2.2.2.2.2.2.2.2.2.2.2.2 st) hw)
    exact W.objInit hx hb ho (ht _ hl) (ht _ li_obj) (ht _ lo_obj) rfl (by rw [hml]; exact hD.2.2.2.2.1) rfl hd (by omega) (by omega) (kk.2.2 p l e R s m args below meth c c0 s0 mc ms hCC cells slots H locs lsr hD)⟩
theorem e_gsA {index : Nat} (hl : Cond.fieldLink mi.1 index "ThreeBalls" "ANSWER_PLACES" "[I" ∈ gT) (hd : decode mi.2.1 pc = .ok (.getstatic index, 3)) (kk : En G d mi (pc + 3) ls (.ref 26 :: st) h r h') : En G d mi pc ls st h r h' :=
  kk.link (fun hx hb ho ht hK hS hRel w => va_gets hx hb hK.2.2.2.2.2.2.2.2.1 hS ho (ht _ hl) (fun _ q => q) hd w)
theorem e_gsD {index : Nat} (hl : Cond.fieldLink mi.1 index "java/util/ArrayList" "DEFAULTCAPACITY_EMPTY_ELEMENTDATA" "[Ljava/lang/Object;" ∈ gT) (hd : decode mi.2.1 pc = .ok (.getstatic index, 3)) (kk : En G d mi (pc + 3) ls (.ref 27 :: st) h r h') : En G d mi pc ls st h r h' :=
  kk.link (fun hx hb ho ht hK hS hRel w => va_gets hx hb hK.2.2.2.2.2.2.2.2.2.2.1 hS ho (ht _ hl) (fun _ q => q) hd w)
theorem e_gsC {index : Nat} (hl : Cond.fieldLink mi.1 index "java/lang/String" "COMPACT_STRINGS" "Z" ∈ gT) (hd : decode mi.2.1 pc = .ok (.getstatic index, 3)) (kk : En G d mi (pc + 3) ls (.int 1 :: st) h r h') : En G d mi pc ls st h r h' :=
  kk.link (fun hx hb ho ht hK hS hRel w => va_gets hx hb hK.2.2.2.2.2.2.2.2.2.2.2.1 hS ho (ht _ hl) (fun _ q => q) hd w)
theorem e_gsS {index : Nat} (hl : Cond.fieldLink mi.1 index "jdk/internal/util/Preconditions" "SIOOBE_FORMATTER" "Ljava/util/function/BiFunction;" ∈ gT) (hd : decode mi.2.1 pc = .ok (.getstatic index, 3)) (kk : En G d mi (pc + 3) ls (.retAddr 0 :: st) h r h') : En G d mi pc ls st h r h' :=
  kk.link (fun hx hb ho ht hK hS hRel w => va_gets hx hb hK.2.2.2.2.2.2.2.2.2.2.2.2.1 hS ho (ht _ hl) (fun _ q => q) hd w)
theorem e_cV {index i : Nat} (hi : i < 13) (hl : Cond.fieldLink mi.1 index "java/lang/String" "value" "[B" ∈ gT) (hd : decode mi.2.1 pc = .ok (.getfield index, 3)) (kk : En G d mi (pc + 3) ls (.ref (13 + i) :: st) h r h') : En G d mi pc ls (.ref i :: st) h r h' :=
  kk.link (@fun p l e R s m args below meth c H locs cells slots Q lsr hx hb ho ht hK hS hRel w => by
    have hE := (hK.2.2.2.2.2.2.1.1 i hi).2.2.1
    have e1 : ad G i = G.2.1 i := ad_lo (by omega)
    have e2 : ad G (13 + i) = G.2.1 (13 + i) := ad_lo (by omega)
    show W _ _ _ _ _ _ _ _ _ _ _ _ _ _ _ (F0 m pc lsr (.ref (ad G i) :: st.map (cv G)))
    rw [e1]
    refine vk_getf hx hb hE hS ho (ht _ hl) (fun _ q => q) hd ?_
    show W _ _ _ _ _ _ _ _ _ _ _ _ _ _ _ (F0 m (pc + 3) lsr (.ref (G.2.1 (13 + i)) :: st.map (cv G)))
    rw [← e2]
    exact w)
theorem e_cC {index i : Nat} (hi : i < 13) (hl : Cond.fieldLink mi.1 index "java/lang/String" "coder" "B" ∈ gT) (hd : decode mi.2.1 pc = .ok (.getfield index, 3)) (kk : En G d mi (pc + 3) ls (.int 0 :: st) h r h') : En G d mi pc ls (.ref i :: st) h r h' :=
  kk.link (@fun p l e R s m args below meth c H locs cells slots Q lsr hx hb ho ht hK hS hRel w => by
    have hE := (hK.2.2.2.2.2.2.1.1 i hi).2.1
    have e1 : ad G i = G.2.1 i := ad_lo (by omega)
    show W _ _ _ _ _ _ _ _ _ _ _ _ _ _ _ (F0 m pc lsr (.ref (ad G i) :: st.map (cv G)))
    rw [e1]
    exact vk_getf hx hb hE hS ho (ht _ hl) (fun _ q => q) hd w)
theorem e_cBl {i : Nat} (hi : i < 13) (hd : decode mi.2.1 pc = .ok (.arraylength, 1)) (kk : En G d mi (pc + 1) ls (.int (nI (strLen.getD i 0)) :: st) h r h') : En G d mi pc ls (.ref (13 + i) :: st) h r h' :=
  kk.link (@fun p l e R s m args below meth c H locs cells slots Q lsr hx hb ho ht hK hS hRel w => by
    have hE := (hK.2.2.2.2.2.2.1.1 i hi).2.2.2
    have e1 : ad G (13 + i) = G.2.1 (13 + i) := ad_lo (by omega)
    show W _ _ _ _ _ _ _ _ _ _ _ _ _ _ _ (F0 m pc lsr (.ref (ad G (13 + i)) :: st.map (cv G)))
    rw [e1]
    exact va_tlen hx hb hE hS rfl hd w)
theorem e_cBa {i : Nat} {j : Int32} (hi : i < 13) (hin : vp_in j (strLen.getD i 0)) (hd : decode mi.2.1 pc = .ok (.baload, 1)) (kk : En G d mi (pc + 1) ls (.int ((strByt.getD i []).getD j.toNatClampNeg 0) :: st) h r h') : En G d mi pc ls (.int j :: .ref (13 + i) :: st) h r h' :=
  kk.link (@fun p l e R s m args below meth c H locs cells slots Q lsr hx hb ho ht hK hS hRel w => by
    have hE := (hK.2.2.2.2.2.2.1.1 i hi).2.2.2
    have e1 : ad G (13 + i) = G.2.1 (13 + i) := ad_lo (by omega)
    show W _ _ _ _ _ _ _ _ _ _ _ _ _ _ _ (F0 m pc lsr (.int j :: .ref (ad G (13 + i)) :: st.map (cv G)))
    rw [e1]
    exact va_tb hx hb hE hS hin rfl hd w)
theorem e_cAl (hd : decode mi.2.1 pc = .ok (.arraylength, 1)) (kk : En G d mi (pc + 1) ls (.int 6 :: st) h r h') : En G d mi pc ls (.ref 26 :: st) h r h' :=
  kk.link (@fun p l e R s m args below meth c H locs cells slots Q lsr hx hb ho ht hK hS hRel w => va_tlen hx hb hK.2.2.2.2.2.2.2.1 hS rfl hd w)
theorem e_cAa {j : Int32} (hin : vp_in j 6) (hd : decode mi.2.1 pc = .ok (.iaload, 1)) (kk : En G d mi (pc + 1) ls (.int (ansL.getD j.toNatClampNeg 0) :: st) h r h') : En G d mi pc ls (.int j :: .ref 26 :: st) h r h' :=
  kk.link (@fun p l e R s m args below meth c H locs cells slots Q lsr hx hb ho ht hK hS hRel w => va_ti hx hb hK.2.2.2.2.2.2.2.1 hS hin rfl hd w)
theorem e_cDl (hd : decode mi.2.1 pc = .ok (.arraylength, 1)) (kk : En G d mi (pc + 1) ls (.int 0 :: st) h r h') : En G d mi pc ls (.ref 27 :: st) h r h' :=
  kk.link (@fun p l e R s m args below meth c H locs cells slots Q lsr hx hb ho ht hK hS hRel w => va_tlen hx hb hK.2.2.2.2.2.2.2.2.2.1 hS rfl hd w)
theorem Rel.recv {s : State} {H : Heap} {a ci : Nat} {q : vw_C} (hR : Rel G h H) (hK : KS G s) (hk : hT h a = ci + 1) (hci : ci < 14) (hq : vwCl[ci]? = some q) : ∃ cellB : Cell, H[ad G a]? = some cellB ∧ cellB.vm.isStatics = false ∧ s.vm.findClass q.1 = some cellB.cls := by
  obtain ⟨cell, q1, q2, q3, -⟩ := hR.ob hk hci hq
  exact ⟨cell, q1, by rw [q3]; rfl, by rw [q2]; exact (hK.1.1 ci q hq).2.1⟩
theorem e_castS {index a ci : Nat} {q : vw_C} (hk : hT h a = ci + 1) (hci : ci < 14) (hq : vwCl[ci]? = some q) (hl : Cond.classLink mi.1 index q.1 ∈ gT) (hd : decode mi.2.1 pc = .ok (.checkcast index, 3)) (kk : En G d mi (pc + 3) ls (.ref a :: st) h r h') : En G d mi pc ls (.ref a :: st) h r h' :=
  kk.link (fun hx hb ho ht hK hS hRel w => va_castS hx hb ho (ht _ hl) (hK.1.1 ci q hq).2 (hRel.recv hK hk hci hq) hd w)
theorem e_castY {index a ci : Nat} {q : vw_C} {nm : String} (hk : hT h a = ci + 1) (hci : ci < 14) (hq : vwCl[ci]? = some q) (hl : Cond.classLink mi.1 index nm ∈ gT) (hca : (q.1, nm) ∈ castL) (hd : decode mi.2.1 pc = .ok (.checkcast index, 3)) (kk : En G d mi (pc + 3) ls (.ref a :: st) h r h') : En G d mi pc ls (.ref a :: st) h r h' :=
  kk.link (fun hx hb ho ht hK hS hRel w => va_castY hx hb ho (ht _ hl) (hK.2.2.1 _ hca) (hRel.recv hK hk hci hq) hd w)
theorem e_instS {index a ci : Nat} {q : vw_C} (hk : hT h a = ci + 1) (hci : ci < 14) (hq : vwCl[ci]? = some q) (hl : Cond.classLink mi.1 index q.1 ∈ gT) (hd : decode mi.2.1 pc = .ok (.instanceof index, 3)) (kk : En G d mi (pc + 3) ls (.int 1 :: st) h r h') : En G d mi pc ls (.ref a :: st) h r h' :=
  kk.link (fun hx hb ho ht hK hS hRel w => va_instS hx hb ho (ht _ hl) (hK.1.1 ci q hq).2 (hRel.recv hK hk hci hq) hd w)
theorem e_instY {index a ci : Nat} {q : vw_C} {nm : String} (hk : hT h a = ci + 1) (hci : ci < 14) (hq : vwCl[ci]? = some q) (hl : Cond.classLink mi.1 index nm ∈ gT) (hca : (q.1, nm) ∈ castL) (hd : decode mi.2.1 pc = .ok (.instanceof index, 3)) (kk : En G d mi (pc + 3) ls (.int 1 :: st) h r h') : En G d mi pc ls (.ref a :: st) h r h' :=
  kk.link (fun hx hb ho ht hK hS hRel w => va_instY hx hb ho (ht _ hl) (hK.2.2.1 _ hca) (hRel.recv hK hk hci hq) hd w)
theorem e_instN {index a ci : Nat} {q : vw_C} {nm : String} (hk : hT h a = ci + 1) (hci : ci < 14) (hq : vwCl[ci]? = some q) (hl : Cond.classLink mi.1 index nm ∈ gT) (hca : (q.1, nm) ∈ ncL) (hd : decode mi.2.1 pc = .ok (.instanceof index, 3)) (kk : En G d mi (pc + 3) ls (.int 0 :: st) h r h') : En G d mi pc ls (.ref a :: st) h r h' :=
  kk.link (fun hx hb ho ht hK hS hRel w => va_instNo hx hb ho (ht _ hl) (hK.2.2.2.1 _ hca) (hRel.recv hK hk hci hq) hd w)
theorem e_anewO {index : Nat} {n : Int32} (w1 : Cond.classLink mi.1 index "java/lang/Object" ∈ gT) (hn : ¬ n < 0) (hs : n.toNatClampNeg ≤ 60000000) (hd : decode mi.2.1 pc = .ok (.anewarray index, 3)) (kk : En G d mi (pc + 3) ls (.ref (hN h) :: st) (hNew h 18 n.toNatClampNeg n.toNatClampNeg) r h') : En G d mi pc ls (.int n :: st) h r h' := by
  have k1 : hN h + 1 ≤ hN h' := kk.1
  have k2 : hS h + n.toNatClampNeg ≤ hS h' := kk.2.1
  refine ⟨by omega, by omega, fun p l e R s m args below meth c c0 s0 mc ms hC cells slots H locs lsr hD => ?_⟩
  have hCC := hC
  obtain ⟨hx, hb, hr, hml, ho, ht, hK, hlk, hin, r1, r2, r3, r4, r5, r6⟩ := hC
  obtain ⟨d1, d2, hS, hRel, hl⟩ := hD
  refine W.anew hx hb ho (ht _ w1) (va_AO.use hK.2.2.2.2.1.1) rfl hd rfl hn (by omega) (by omega) (by omega) fun cA kA comp f1 f2 f3 f4 => ?_
  generalize hH1 : H.push ({ cls := cA, slots := Array.replicate n.toNatClampNeg .null, vm := .none } : Cell) = H1
  have z1 : H1.size = H.size + 1 := by rw [← hH1, Array.size_push]
  have e1 : H1[H.size]? = some (arrV cA n.toNatClampNeg (fun _ => .null)) := by rw [← hH1, Array.getElem?_push_size, ← arrV_new]
  have o1 : ∀ q : Nat, q < H.size → H1[q]? = H[q]? := fun q hq => by rw [← hH1, Array.getElem?_push, if_neg (Nat.ne_of_lt hq)]
  have hsz := hRel.sz
  obtain ⟨kA', comp', g1, g2, g3, g4⟩ := (arr_of hK (kd := 18) (by decide) (by decide)).2
  have hcA : cA = G.2.2.2.2 18 := Option.some.inj (f1.symm.trans g4)
  have w := kk.2.2 p l e R s m args below meth c c0 s0 mc ms hCC (cells + 1) (slots + n.toNatClampNeg) H1 locs lsr ⟨by show hN h + 1 = _; omega, by show _root_.Jvm.Pilot.CThreeBallsLaw_law_r5125_ff5d20.hS h + n.toNatClampNeg = _; omega, S_new hS z1 o1, hRel.new (by omega) z1 o1 ⟨fun q => absurd q (by rw [show hT (hNew h 18 n.toNatClampNeg n.toNatClampNeg) (hN h) = 18 from va_up_self _ _ _]; omega), fun _ => ?_⟩, hl⟩
  · rw [← hsz]
    exact w
  · rw [show hT (hNew h 18 n.toNatClampNeg n.toNatClampNeg) (hN h) = 18 from va_up_self _ _ _, show hLn (hNew h 18 n.toNatClampNeg n.toNatClampNeg) (hN h) = n.toNatClampNeg from va_up_self _ _ _, hsz, e1, hcA]
    congr 2
    funext j
    exact rdv_new0 (ty := .object "java/lang/Object") rfl
theorem e_callU {index a ci : Nat} {q : vw_C} {x : MethodName} {owner : String} {b0 : ByteArray} {m0 : Nat} {r0 : Option FieldType} (hk : hT h a = ci + 1) (hci : ci < 14) (hq : vwCl[ci]? = some q) (hl1 : Cond.methodLink mi.1 index x ∈ gT) (hl2 : Cond.sameMethod x.cls owner x.name x.desc ∈ gT) (hl3 : Cond.instanceMethod ⟨owner, x.name, x.desc⟩ ∈ gT) (hl4 : Cond.selects q.1 x y ∈ gT) (hl5 : Cond.instanceMethod y ∈ gT) (hl6 : Cond.code ⟨owner, x.name, x.desc⟩ b0 m0 r0 ∈ gT) (hol : owner ≠ "java/lang/invoke/MethodHandle" ∧ owner ≠ "java/lang/invoke/VarHandle" ∧ (parseMethodDescriptor x.desc).map (fun d => d.parameters.length) = some as.length) (hm : MS y mic as.length) (hd : decode mi.2.1 pc = .ok (.invokevirtual index, 3)) (hw : wS st ≤ 8) (hdd : dC + 1 ≤ d) (hst : st0 = as.reverse ++ .ref a :: st) (hc : CE G dC y mic (.ref a :: as) h r1 h1) (kk : En G d mi (pc + 3) ls (r1.toList ++ st) h1 r h') : En G d mi pc ls st0 h r h' := by
  subst hst
  refine e_call0 hc kk (fun p l e R s m args below meth c cells slots mc ms H locs lsr hF hK hRel hS hsz f1 f2 f3 f4 hM hP => ?_)
  obtain ⟨m1, m2, m3, m4⟩ := hm
  exact va_runU (b := ad G a) (As := as.map (cv G)) hF hM (va_cwO as.length hF.2.2.2.2 (good_app (pre := [.methodLink mi.1 index x, .sameMethod x.cls owner x.name x.desc, .instanceMethod ⟨owner, x.name, x.desc⟩, .selects q.1 x y, .instanceMethod y, .initialized y.cls]) (by simp only [List.mem_cons, List.not_mem_nil, or_false, forall_eq_or_imp, forall_eq]; exact ⟨hl1, hl2, hl3, hl4, hl5, m3⟩) m2) rfl rfl rfl hl6 hol ⟨by show dC + 1 ≤ _; omega, by show 8 + (mic.2.2.1 + 11) + 70 * dC ≤ _; omega⟩) ⟨Pc_blind, hRel.recv hK hk hci hq, hP⟩ rfl (by rw [List.length_map]) hsz (by show List.map (cv G) (as.reverse ++ .ref a :: st) = _; rw [List.map_append, List.map_reverse]; rfl) (lv_room (Nat.le_trans (wS_cv hK.2.2.2.2.2.2.2.2.2.2.2.2.2 st) hw)) hd ⟨f3, f4⟩
theorem e_callSU {index a ci : Nat} {q : vw_C} (hk : hT h a = ci + 1) (hci : ci < 14) (hq : vwCl[ci]? = some q) (hl1 : Cond.methodLink mi.1 index y ∈ gT) (hl2 : Cond.sameMethod y.cls y.cls y.name y.desc ∈ gT) (hl3 : Cond.superclass mi.1 y.cls ∈ gT) (hl4 : Cond.instanceMethod y ∈ gT) (hyn : y.name ≠ "<init>") (hm : MS y mic as.length) (hd : decode mi.2.1 pc = .ok (.invokespecial index, 3)) (hw : wS st ≤ 8) (hdd : dC + 1 ≤ d) (hst : st0 = as.reverse ++ .ref a :: st) (hc : CE G dC y mic (.ref a :: as) h r1 h1) (kk : En G d mi (pc + 3) ls (r1.toList ++ st) h1 r h') : En G d mi pc ls st0 h r h' := by
  subst hst
  refine e_call0 hc kk (fun p l e R s m args below meth c cells slots mc ms H locs lsr hF hK hRel hS hsz f1 f2 f3 f4 hM hP => ?_)
  obtain ⟨m1, m2, m3, m4⟩ := hm
  exact va_runSU (b := ad G a) (As := as.map (cv G)) (hK.1.1 ci q hq).2 hF hM (va_cwSU as.length hF.2.2.2.2 (good_app (pre := [.methodLink mi.1 index y, .sameMethod y.cls y.cls y.name y.desc, .superclass mi.1 y.cls, .instanceMethod y, .initialized y.cls]) (by simp only [List.mem_cons, List.not_mem_nil, or_false, forall_eq_or_imp, forall_eq]; exact ⟨hl1, hl2, hl3, hl4, m3⟩) m2) rfl rfl rfl ⟨hyn, m1.2.2⟩ ⟨by show dC + 1 ≤ _; omega, by show 8 + (mic.2.2.1 + 11) + 70 * dC ≤ _; omega⟩) ⟨Pc_blind, hRel.recv hK hk hci hq, hP⟩ rfl (by rw [List.length_map]) hsz (by show List.map (cv G) (as.reverse ++ .ref a :: st) = _; rw [List.map_append, List.map_reverse]; rfl) (lv_room (Nat.le_trans (wS_cv hK.2.2.2.2.2.2.2.2.2.2.2.2.2 st) hw)) hd ⟨f3, f4⟩
theorem e_callSN {index : Nat} {host : String} (hl1 : (mi.1, index, y, host) ∈ nestL) (hl2 : Cond.static y ∈ gT) (hm : MS y mic as.length) (hd : decode mi.2.1 pc = .ok (.invokestatic index, 3)) (hw : wS st ≤ 8) (hdd : dC + 1 ≤ d) (hst : st0 = as.reverse ++ st) (hc : CE G dC y mic as h r1 h1) (kk : En G d mi (pc + 3) ls (r1.toList ++ st) h1 r h') : En G d mi pc ls st0 h r h' := by
  subst hst
  refine e_call0 hc kk (fun p l e R s m args below meth c cells slots mc ms H locs lsr hF hK hRel hS hsz f1 f2 f3 f4 hM hP => ?_)
  obtain ⟨m1, m2, m3, m4⟩ := hm
  exact va_runSN hF hM ⟨va_cnB as.length hF.2.2.2.2 (good_app (pre := []) (fun x h => by cases h) m2) rfl rfl rfl (hK.2.1 _ hl1) (hF.2.2.2.2 _ m3) m1 ⟨by show dC + 1 ≤ _; omega, by show 8 + (mic.2.2.1 + 11) + 70 * dC ≤ _; omega⟩, hF.2.2.2.2 _ hl2, trivial⟩ ⟨Pc_blind, hP⟩ rfl (by rw [List.length_map]) hsz (by show List.map (cv G) (as.reverse ++ st) = _; rw [List.map_append, List.map_reverse]) (lv_room (Nat.le_trans (wS_cv hK.2.2.2.2.2.2.2.2.2.2.2.2.2 st) hw)) hd ⟨f3, f4⟩
theorem e_callIN {index a : Nat} {host : String} (hy1 : y.name = "<init>") (hl1 : (mi.1, index, y, host) ∈ nestL) (hl2 : Cond.instanceMethod y ∈ gT) (hm : MS y mic as.length) (hrn : mic.2.2.2.1 = none) (hd : decode mi.2.1 pc = .ok (.invokespecial index, 3)) (hw : wS st ≤ 8) (hdd : dC + 1 ≤ d) (hst : st0 = as.reverse ++ .ref a :: st) (hc : CE G dC y mic (.ref a :: as) h none h1) (kk : En G d mi (pc + 3) ls st h1 r h') : En G d mi pc ls st0 h r h' := by
  subst hst
  refine e_call0 hc kk (fun p l e R s m args below meth c cells slots mc ms H locs lsr hF hK hRel hS hsz f1 f2 f3 f4 hM hP => ?_)
  obtain ⟨m1, m2, m3, m4⟩ := hm
  rw [hrn] at hM m2
  exact va_runIN (b := ad G a) (As := as.map (cv G)) hF hM ⟨va_cnB as.length hF.2.2.2.2 (good_app (pre := []) (fun x h => by cases h) m2) rfl rfl rfl (hK.2.1 _ hl1) (hF.2.2.2.2 _ m3) m1 ⟨by show dC + 1 ≤ _; omega, by show 8 + (mic.2.2.1 + 11) + 70 * dC ≤ _; omega⟩, hy1, hF.2.2.2.2 _ hl2⟩ ⟨Pc_blind, hP⟩ rfl (by rw [List.length_map]) hsz (by show List.map (cv G) (as.reverse ++ .ref a :: st) = _; rw [List.map_append, List.map_reverse]; rfl) (lv_room (Nat.le_trans (wS_cv hK.2.2.2.2.2.2.2.2.2.2.2.2.2 st) hw)) hd ⟨f3, f4⟩
/-- a call of a constant text's own method -/
theorem e_callVc {index i : Nat} (hi : i < 13) (hyc : y.cls = "java/lang/String") (hl1 : Cond.methodLink mi.1 index y ∈ gT) (hl2 : Cond.instanceMethod y ∈ gT) (hl3 : Cond.selects "java/lang/String" y y ∈ gT) (hm : MS y mic as.length) (hd : decode mi.2.1 pc = .ok (.invokevirtual index, 3)) (hw : wS st ≤ 8) (hdd : dC + 1 ≤ d) (hst : st0 = as.reverse ++ .ref i :: st) (hc : CE G dC y mic (.ref i :: as) h r1 h1) (kk : En G d mi (pc + 3) ls (r1.toList ++ st) h1 r h') : En G d mi pc ls st0 h r h' := by
  subst hst
  refine e_call0 hc kk (fun p l e R s m args below meth c cells slots mc ms H locs lsr hF hK hRel hS hsz f1 f2 f3 f4 hM hP => ?_)
  obtain ⟨m1, m2, m3, m4⟩ := hm
  have hrec : ∃ cellB : Cell, H[ad G i]? = some cellB ∧ cellB.vm.isStatics = false ∧ s.vm.findClass "java/lang/String" = some cellB.cls := by
    rw [ad_lo (by omega)]
    exact vk_recv hK.2.2.2.2.2.2.1 hi hS
  exact va_runV (b := ad G i) (As := as.map (cv G)) hF hM (cwV as.length hF.2.2.2.2 (good_app (pre := [.methodLink mi.1 index y, .instanceMethod y, .selects "java/lang/String" y y, .initialized "java/lang/String"]) (by simp only [List.mem_cons, List.not_mem_nil, or_false, forall_eq_or_imp, forall_eq]; exact ⟨hl1, hl2, hl3, by rw [← hyc]; exact m3⟩) m2) rfl rfl rfl ⟨hyc, m1⟩ ⟨by show dC + 1 ≤ _; omega, by show 8 + (mic.2.2.1 + 11) + 70 * dC ≤ _; omega⟩) ⟨Pc_blind, hrec, hP⟩ rfl (by rw [List.length_map]) hsz (by show List.map (cv G) (as.reverse ++ .ref i :: st) = _; rw [List.map_append, List.map_reverse]; rfl) (lv_room (Nat.le_trans (wS_cv hK.2.2.2.2.2.2.2.2.2.2.2.2.2 st) hw)) hd ⟨f3, f4⟩
/-- ends, with the answer and the heap as they are told -/
theorem z_iret {x : Int32} {ty : FieldType} (hrt : mi.2.2.2.1 = some ty) (hn : narrow ty (.int x) = .int x) (hd : decode mi.2.1 pc = .ok (.ireturn, 1)) (e1 : r = some (.int x)) (e2 : h' = h) : En G d mi pc ls [.int x] h r h' := by rw [e1, e2]; exact e_iret hrt hn hd
theorem z_bret {b : Bool} (hrt : mi.2.2.2.1 = some .boolean) (hd : decode mi.2.1 pc = .ok (.ireturn, 1)) (e1 : r = some (.int (b2i b))) (e2 : h' = h) : En G d mi pc ls [.int (b2i b)] h r h' := by rw [e1, e2]; exact e_iret hrt (by cases b <;> rfl) hd
theorem z_lret {x : Int64} (hrt : mi.2.2.2.1 = some .long) (hd : decode mi.2.1 pc = .ok (.lreturn, 1)) (e1 : r = some (.long x)) (e2 : h' = h) : En G d mi pc ls [.long x] h r h' := by rw [e1, e2]; exact e_lret hrt hd
theorem z_aret {v : Value} {ty : FieldType} (hrt : mi.2.2.2.1 = some ty) (hty : (∃ n, ty = .object n) ∨ ∃ t, ty = .array t) (hv : v = .null ∨ ∃ a, v = .ref a) (hd : decode mi.2.1 pc = .ok (.areturn, 1)) (e1 : r = some v) (e2 : h' = h) : En G d mi pc ls [v] h r h' := by rw [e1, e2]; exact e_aret hrt hty hv hd
theorem z_vret (hrt : mi.2.2.2.1 = none) (hd : decode mi.2.1 pc = .ok (.return_, 1)) (e1 : r = none) (e2 : h' = h) : En G d mi pc ls [] h r h' := by rw [e1, e2]; exact e_vret hrt hd
/-- an index that is a known number -/
def ixIs (i : Int32) (k n : Nat) : Prop := i.toNatClampNeg = k ∧ ¬ i < 0 ∧ k < n
theorem ix_nI {k n : Nat} (h : k < n) (hn : n < 2 ^ 31) : ixIs (nI k) k n := ⟨nI_clamp (by omega), nI_pos (by omega), h⟩
theorem ixIs.in {i : Int32} {k n : Nat} (h : ixIs i k n) : vp_in i n := fun q => q.elim h.2.1 (fun z => by have := h.1; have := h.2.2; omega)
theorem x_iald {a k : Nat} {i : Int32} (hk : hT h a = 15) (hix : ixIs i k (hLn h a)) (hd : decode mi.2.1 pc = .ok (.iaload, 1)) (kk : En G d mi (pc + 1) ls (.int (hI h a k) :: st) h r h') : En G d mi pc ls (.int i :: .ref a :: st) h r h' := e_iald hk hix.in hd (by rw [hix.1]; exact kk)
theorem x_zald {a k : Nat} {i : Int32} (hk : hT h a = 17) (hix : ixIs i k (hLn h a)) (hd : decode mi.2.1 pc = .ok (.baload, 1)) (kk : En G d mi (pc + 1) ls (.int (hI h a k) :: st) h r h') : En G d mi pc ls (.int i :: .ref a :: st) h r h' := e_zald hk hix.in hd (by rw [hix.1]; exact kk)
theorem x_lald {a k : Nat} {i : Int32} (hk : hT h a = 16) (hix : ixIs i k (hLn h a)) (hd : decode mi.2.1 pc = .ok (.laload, 1)) (kk : En G d mi (pc + 1) ls (.long (hL h a k) :: st) h r h') : En G d mi pc ls (.int i :: .ref a :: st) h r h' := e_lald hk hix.in hd (by rw [hix.1]; exact kk)
theorem x_iast {a k : Nat} {i x : Int32} (hk : hT h a = 15) (hix : ixIs i k (hLn h a)) (hd : decode mi.2.1 pc = .ok (.iastore, 1)) (kk : En G d mi (pc + 1) ls st (sI h a k x) r h') : En G d mi pc ls (.int x :: .int i :: .ref a :: st) h r h' := e_iast hk hix.in hd (by rw [hix.1]; exact kk)
theorem x_zast {a k : Nat} {i x : Int32} (hk : hT h a = 17) (hix : ixIs i k (hLn h a)) (hx01 : x = 0 ∨ x = 1) (hd : decode mi.2.1 pc = .ok (.bastore, 1)) (kk : En G d mi (pc + 1) ls st (sI h a k x) r h') : En G d mi pc ls (.int x :: .int i :: .ref a :: st) h r h' := e_zast hk hix.in hx01 hd (by rw [hix.1]; exact kk)
theorem x_last {a k : Nat} {i : Int32} {x : Int64} (hk : hT h a = 16) (hix : ixIs i k (hLn h a)) (hd : decode mi.2.1 pc = .ok (.lastore, 1)) (kk : En G d mi (pc + 1) ls st (sL h a k x) r h') : En G d mi pc ls (.long x :: .int i :: .ref a :: st) h r h' := e_last hk hix.in hd (by rw [hix.1]; exact kk)
theorem e_getI {a ci k index : Nat} (hk : hT h a = ci + 1) (hf : FL mi.1 index ci k) (hd : decode mi.2.1 pc = .ok (.getfield index, 3)) (hv : rdv h a k (tyC ci k) = .int (hI h a k)) (kk : En G d mi (pc + 3) ls (.int (hI h a k) :: st) h r h') : En G d mi pc ls (.ref a :: st) h r h' := e_get hk hf hd hv kk
theorem e_getL {a ci k index : Nat} (hk : hT h a = ci + 1) (hf : FL mi.1 index ci k) (hd : decode mi.2.1 pc = .ok (.getfield index, 3)) (hv : rdv h a k (tyC ci k) = .long (hL h a k)) (kk : En G d mi (pc + 3) ls (.long (hL h a k) :: st) h r h') : En G d mi pc ls (.ref a :: st) h r h' := e_get hk hf hd hv kk
theorem e_getR {a ci k index b : Nat} (hk : hT h a = ci + 1) (hf : FL mi.1 index ci k) (hd : decode mi.2.1 pc = .ok (.getfield index, 3)) (hv : rdv h a k (tyC ci k) = va_rf (hR h a k)) (hb : hR h a k = some b) (kk : En G d mi (pc + 3) ls (.ref b :: st) h r h') : En G d mi pc ls (.ref a :: st) h r h' := e_get hk hf hd (hv.trans (by rw [hb]; rfl)) kk
end
