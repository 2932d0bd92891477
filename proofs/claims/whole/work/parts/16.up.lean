/-! a static method called by a class that inherits it -/
section
variable {p : Program} {l : Launch} {e : Env} {R : Room} {s : State} {m : MethodId} {args : Array Value} {below : List Frame} {meth : Method} {c : Code} {T : State} {locs : List Loc} {cells slots : Nat}
theorem su_cold {Q : Unit → Pre} {E : CtlPost} {dd : Bool} {acts : List Action} {u s₀ : State} {f : JFrame} {index ci n cn : Nat} {mm : MethodId} {dk ck : Class} {cf : ClassFile} {name desc : String} (hs : u.topJava?.isSome) (hp : e.platform.polymorphicOnlyByInvokevirtual = true) (hW : s₀.WarmedH u.vm) (hE : s₀.MethodEntryUp e u.vm f.method.cls index cn mm ci) (h1 : s₀.vm.classes[f.method.cls]? = some dk) (h2 : dk.cf = some cf)
    (h3 : cf.constantPool[index]? = some (if false then .interfaceMethodref ci n else .methodref ci n)) (h4 : cf.constantPool.nameAndType? n = some (name, desc)) (hck : s₀.vm.classes[cn]? = some ck) (hno : (ck.methods.any fun x => x.name == name && !x.isStatic && signaturePolymorphic ck x) = false) :
    wp (Op.invokestatic.sem index) Q E e dd acts (u.setTop f) ↔ wp (Op.invokestatic.sem index) Q E e dd acts ((u.setVm (u.vm.calledUp f.method.cls ci index cn mm)).setTop f) := by
  obtain ⟨hgc, -, hWn, hgm⟩ := hE.classFirst
  generalize hv1 : u.vm.noted f.method.cls ci (.cls cn) = v1 at hgc hWn hgm
  generalize hv2 : u.vm.calledUp f.method.cls ci index cn mm = v2 at hgm
  have hr := hE.ready
  have hcr := hE.classReady
  have hW2 := hE.warmed
  rw [hv2] at hr hcr hW2
  obtain ⟨k0, hk0, e0⟩ := hW.alike.2.2 _ _ h1
  obtain ⟨k2, hk2, e2⟩ := hW2.alike.2.2 _ _ h1
  obtain ⟨a1, ha1, f1⟩ := hWn.alike.2.2 _ _ hck
  obtain ⟨a2, ha2, f2⟩ := hW2.alike.2.2 _ _ hck
  have m0 := memberRef_ask_via (e := e) hk0 (by rw [e0]; exact h2) h3 h4
  have m2 := memberRef_ask_via (e := e) hk2 (by rw [e2]; exact h2) h3 h4
  have n1 : (a1.methods.any fun x => x.name == name && !x.isStatic && signaturePolymorphic a1 x) = false := by rw [f1]; exact hno
  have n2 : (a2.methods.any fun x => x.name == name && !x.isStatic && signaturePolymorphic a2 x) = false := by rw [f2]; exact hno
  have t1 : (u.setVm v1).topJava?.isSome := hs
  have t2 : (u.setVm v2).topJava?.isSome := hs
  have L1 : ∀ {Q' : ClassId → Pre} {d' : Bool} {ac : List Action}, wp (Jvm.resolveClassAt ci) Q' E e d' ac (u.setTop f) ↔ Q' cn d' ac ((u.setVm v1).setTop f) := W.resolveClassAt_links (t := u.setTop f) (State.method?_setTop f hs) hgc (by rw [hWn.alike.2.1]; exact Nat.le_of_eq hW.alike.2.1.symm)
  have L2 : ∀ {Q' : MethodId → Pre} {d' : Bool} {ac : List Action}, wp (Jvm.resolveMethodAt index) Q' E e d' ac ((u.setVm v1).setTop f) ↔ Q' mm d' ac ((u.setVm v2).setTop f) := W.resolveMethodAt_links (t := (u.setVm v1).setTop f) (State.method?_setTop f t1) hgm (by show v2.classes.size ≤ v1.classes.size; rw [hW2.alike.2.1, hWn.alike.2.1]; exact Nat.le_refl _)
  simp [Op.invokestatic.sem, hp, Seam.memberRefOf, State.method?_setTop f hs, State.method?_setTop f t2, m0, m2, L1, L2, W.resolveClassAt_ready (s := (u.setVm v2).setTop f) (State.method?_setTop f t2) hcr, ha1, ha2, n1, n2, W.resolveMethodAt_ready (s := (u.setVm v2).setTop f) (State.method?_setTop f t2) hr, -Array.any_eq_true]
theorem su_stand (X : Stand p l e R s m args below meth c T locs cells slots) (hx : p.tables.exec = Jvm.exec) {own owner : String} {index : Nat} {x : MethodName} (ho : s.vm.findClass own = some m.cls) (hl : (Cond.methodLink own index x).before args s = true) (hsm : (Cond.sameMethod x.cls owner x.name x.desc).before args s = true)
    (hon : owner ≠ "java/lang/invoke/MethodHandle" ∧ owner ≠ "java/lang/invoke/VarHandle") {m' : MethodId} {meth' : Method} {k' : Class} (hn : s.methodNamed? ⟨owner, x.name, x.desc⟩ = some m') (hm' : s.vm.method? m' = some meth') (hst : meth'.isStatic = true) (hk' : s.vm.classes[m'.cls]? = some k') (hi : k'.init = .initialized)
    {g : JFrame} (hg : g.method = m) {as rest : List Value} (hlen : as.length = meth'.sig.parameters.length) (hstk : g.stack = as.reverse ++ rest) (hd : decode c.code g.pc = .ok (.invokestatic index, 3)) :
    ∃ vm', Stand p l e R s m args below meth c (T.setVm vm') locs cells slots ∧ ∀ target, (∀ acts, Steps p.tables e below (doInvoke e ((T.setVm vm').setTop { g with stack := rest }) acts m' as.toArray).1 target) → Steps p.tables e below (T.setTop g) target := by
  subst hg
  obtain ⟨cn, ck, r1, hcn, hck, hni, hf, hn1⟩ := Cond.sameMethod_found hsm
  cases hn.symm.trans hn1
  obtain ⟨ci, hlk, hright⟩ := Cond.methodLink_specUp ho hcn hck hni hf hl e.platform (by rw [X.admits.platform]) (by rw [X.admits.platform])
  have hE : s.MethodEntryUp e T.vm g.method.cls index cn m' ci := State.methodEntryUp X.warmed hlk hright
  obtain ⟨kx, hkx, hnx⟩ := className_of_methodNamed hn
  cases hk'.symm.trans hkx
  obtain ⟨dk, cfile, nt, mn, md, ck', _, _, hdk, hcf, hcp, hnt, -, -, hck', -, hnp, -⟩ := hlk.here
  cases hck.symm.trans hck'
  obtain ⟨d2, hd2, ed2⟩ := hE.warmed.alike.2.2 _ _ hdk
  obtain ⟨q2, hq2, eq2⟩ := hE.warmed.alike.2.2 _ _ hk'
  obtain ⟨c2, hc2, ec2⟩ := hE.warmed.alike.2.2 _ _ hck
  have z1 : (ck.methods.any fun y => y.name == mn && !y.isStatic && signaturePolymorphic ck y) = false := by simp [hnp]
  have z2 : (c2.methods.any fun y => y.name == mn && !y.isStatic && signaturePolymorphic c2 y) = false := by rw [ec2]; exact z1
  have hcp2 : cfile.constantPool[index]? = some (if false then .interfaceMethodref ci nt else .methodref ci nt) := hcp
  refine ⟨_, X.noted hE.warmed, fun target hrest => ?_⟩
  jvm_step X.here [hx, hd, su_cold (e := e) (u := T) (s₀ := s) (f := g) X.here.top (by rw [X.admits.platform]) X.warmed hE hdk hcf hcp2 hnt hck z1,
    Op.invokestatic.wp_ready (e := e) (s := T.setVm (T.vm.calledUp g.method.cls ci index cn m')) (k := q2) (meth := meth') (m := m') (args := as) (rest := rest) (f := g) X.here.top ⟨ci, mn, md, false, cn, c2, memberRef_ask_via (e := e) hd2 (by rw [ed2]; exact hcf) hcp2 hnt, hE.classReady, hc2, z2⟩ hE.ready hq2
      (by show (T.vm.calledUp g.method.cls ci index cn m').method? m' = some meth'; rw [hE.warmed.alike.method?]; exact hm') (by rw [eq2]; show signaturePolymorphic k' meth' = false; simp [signaturePolymorphic, hnx, hon.1, hon.2]) hst (by rw [eq2]; exact hi) hlen hstk]
  exact fun acts => hrest _
end
section
variable {p : Program} {l : Launch} {e : Env} {R : Room} {s : State} {m : MethodId} {args : Array Value} {below : List Frame} {meth : Method} {c : Code} {H : Heap} {locs : List Loc} {cells slots : Nat}
theorem su_run {x : MethodName} {owner own : String} {bytes cc : ByteArray} {maxL nL mc ms index : Nat} {ret : Option FieldType} {ws : List Cond} {rm : Room} {Pc : Array Value → State → Prop} {Qc : Array Value → State → Outcome → State → Prop} {free : Addr → Prop} {Ts : List Cond} {As rest : List Value} {g : JFrame}
    (S : CallFix p m c cc nL s args Ts own) (hM : Met l ⟨owner, x.name, x.desc⟩ ws rm Pc Qc mc ms free) (hG : GoodIn Ts ws) (hcw : Cond.code ⟨owner, x.name, x.desc⟩ bytes maxL ret ∈ ws) (hrc : rm.cells = mc) (hrs : rm.slots = ms) (hR : rm.frames + 1 ≤ R.frames ∧ 8 + (maxL + 11) + rm.locals ≤ R.locals)
    (hl : (Cond.methodLink own index x).before args s = true) (hsm : (Cond.sameMethod x.cls owner x.name x.desc).before args s = true) (hst : (Cond.static ⟨owner, x.name, x.desc⟩).before args s = true) (hini : (Cond.initialized owner).before args s = true) (hon : owner ≠ "java/lang/invoke/MethodHandle" ∧ owner ≠ "java/lang/invoke/VarHandle") (hn : ∀ sig, parseMethodDescriptor x.desc = some sig → As.length = sig.parameters.length)
    (hp : PreS s H Pc As) (hg : g.method = m) (hsize : g.locals.size = nL) (hstack : g.stack = As.reverse ++ rest) (hW : 2 * g.monitorRoom + (rest.map fun v => v.category).sum ≤ 8) (hdg : decode cc g.pc = .ok (.invokestatic index, 3)) (hf : cells + mc ≤ R.cells ∧ slots + ms ≤ R.slots) :
    va_Run p l e R s m args below meth c H locs cells slots mc ms g rest (Qc As.toArray) free := by
  obtain ⟨hx, hb, hml, ho, ht⟩ := S
  have hcode := ht _ (hG _ hcw).1
  have hK : Back l R p e below s args ⟨owner, x.name, x.desc⟩ 3 8 (PreOf R mc ms Pc) (PostOf Qc mc ms free) := back_of (bytes := bytes) (maxL := maxL) (ret := ret) hM hp.1 hrc hrs hR.1 hR.2 (pay_in ht hG) hcw (fun a' U hW => word_at hW (Or.inl (by first | rfl | simp [Cond.onTables, Cond.keeps, Cond.steady])) hini)
  intro T hT X
  obtain ⟨mk0, hnamed⟩ := Cond.code_named hcode
  obtain ⟨methM, cM, hmethM, -, -, -, -, -, -, hsigM⟩ := Cond.code_spec hnamed hcode
  have hstatic : methM.isStatic = true := Cond.static_spec hnamed hmethM hst
  obtain ⟨kP, hkP, -⟩ := className_of_methodNamed hnamed
  have hinitP : kP.init = .initialized := Cond.initialized_spec (findClass_of_methodNamed hnamed) hkP hini
  obtain ⟨vm₁, X₁, hstep₁⟩ := su_stand X hx ho hl hsm hon hnamed hmethM hstatic hkP hinitP (g := g) hg (as := As) (rest := rest) (hn _ hsigM) hstack (by rw [hb]; exact hdg)
  obtain ⟨v, B, X', hpost, hsteps⟩ := hK m meth c ⟨T.setVm vm₁, locs, cells, slots⟩ { g with stack := rest } (.invokestatic index) mk0 As.toArray X₁ hg (hsize.trans hml.symm) (by rw [hb]; exact hdg) hW (X₁.named hnamed) ⟨hf.1, hf.2, hp.2 (T.setVm vm₁) hT X₁.warmed⟩
  obtain ⟨U', l2, c2, s2⟩ := B
  obtain ⟨g', mk, t, L, e1, e2, hq, h1, hL, h2, h3⟩ := hpost
  dsimp only [Pt.U, Pt.locs, Pt.cells, Pt.slots] at X' e1 e2 h1 h2 h3 hsteps
  subst h1; subst h2; subst h3
  exact ⟨v, (T.setVm vm₁).calling g' mk As.toArray, t, U', L, hT, X', hL, e1, e2, hq, fun target h => hstep₁ _ fun acts => by rw [doInvoke_state]; exact hsteps.trans h⟩
end
section
variable {G : GE} {d dC : Nat} {mi mic : MI} {pc : Nat} {ls st st0 as : List Value} {h h1 h' : HS} {r : Option Value} {v : Value}
theorem su1 {index : Nat} {x : MethodName} {owner : String} (hl1 : Cond.methodLink mi.1 index x ∈ gT) (hsm : Cond.sameMethod x.cls owner x.name x.desc ∈ gT) (hl2 : Cond.static ⟨owner, x.name, x.desc⟩ ∈ gT) (hc : CE G dC ⟨owner, x.name, x.desc⟩ mic as h (some v) h1) (hm : MS ⟨owner, x.name, x.desc⟩ mic as.length) (hd : decode mi.2.1 pc = .ok (.invokestatic index, 3)) (hst : st0 = as.reverse ++ st) (hw : wS st ≤ 8) (hdd : dC + 1 ≤ d) (kk : En G d mi (pc + 3) ls (v :: st) h1 r h') : En G d mi pc ls st0 h r h' := by
  subst hst
  refine e_call0 hc kk (fun p l e R s m args below meth c cells slots mc ms H locs lsr hF hK hRel hS hsz f1 f2 f3 f4 hM hP => ?_)
  obtain ⟨m1, m2, m3, m4⟩ := hm
  have ht := hF.2.2.2.2
  exact su_run hF hM (good_app (pre := []) (fun x h => by cases h) m2) List.mem_cons_self rfl rfl ⟨by show dC + 1 ≤ _; omega, by show 8 + (mic.2.2.1 + 11) + 70 * dC ≤ _; omega⟩ (ht _ hl1) (ht _ hsm) (ht _ hl2) (ht _ m3) ⟨m1.1, m1.2.1⟩ (fun sig hs => by
    have h2 := m1.2.2
    rw [show (⟨owner, x.name, x.desc⟩ : MethodName).desc = x.desc from rfl, hs] at h2
    rw [List.length_map]
    exact (Option.some.inj h2).symm) ⟨Pc_blind, hP⟩ rfl hsz (by show List.map (cv G) (as.reverse ++ st) = _; rw [List.map_append, List.map_reverse]) (lv_room (Nat.le_trans (wS_cv hK.2.2.2.2.2.2.2.2.2.2.2.2.2 st) hw)) hd ⟨f3, f4⟩
end
section
variable {G : GE} {d dC : Nat} {mi mic : MI} {pc : Nat} {ls st st0 as : List Value} {h h1 h' : HS} {r : Option Value} {v : Value} {y : MethodName}
theorem s1w {index : Nat} (hl1 : Cond.methodLink mi.1 index y ∈ gT) (hl2 : Cond.static y ∈ gT) (hm : MS y mic as.length) (h40 : mic.2.2.1 ≤ 40) (hd : decode mi.2.1 pc = .ok (.invokestatic index, 3)) (hc : CE G dC y mic as h (some v) h1) (hst : st0 = as.reverse ++ st) (hw : wS st ≤ 16) (hdd : dC + 1 ≤ d) (kk : En G d mi (pc + 3) ls (v :: st) h1 r h') : En G d mi pc ls st0 h r h' := by
  subst hst
  refine e_call0 hc kk (fun p l e R s m args below meth c cells slots mc ms H locs lsr hF hK hRel hS hsz f1 f2 f3 f4 hM hP => ?_)
  obtain ⟨m1, m2, m3, m4⟩ := hm
  have ht := hF.2.2.2.2
  have hcode := ht _ m2
  have hsum := wS_cv hK.2.2.2.2.2.2.2.2.2.2.2.2.2 st
  have hK2 : Back l R p e below s args y 3 16 (PreOf R mc ms (va_Pc (as.map (cv G)) (fun U => Rel G h U.heap ∧ KS G U))) (PostOf (Qr G (some v) h1) mc ms (Ad G)) := back_of (bytes := mic.2.1) (maxL := mic.2.2.1) (ret := mic.2.2.2.1) hM Pc_blind rfl rfl (by show dC + 1 ≤ _; omega) (by show 16 + (mic.2.2.1 + 11) + 70 * dC ≤ _; omega) (pay_in ht (good_app (pre := []) (fun x h => by cases h) m2)) List.mem_cons_self (fun a' U hW => word_at hW (Or.inl (by first | rfl | simp [Cond.onTables, Cond.keeps, Cond.steady])) (ht _ m3))
  obtain ⟨hx, hb, hml, ho, -⟩ := hF
  intro T hT X
  obtain ⟨v', vm₁, ⟨U', l2, c2, s2⟩, hW₁, X', ⟨g', mk, t, L, e1, e2, hq, g1, hL, g2, g3⟩, sx⟩ := callS X hx (bytes := mic.2.1) (maxL := mic.2.2.1) (ret := mic.2.2.2.1) ho (ht _ hl1) (ht _ hl2) (ht _ m3) hcode ⟨m1.1, m1.2.1⟩ hK2 (g := F0 m pc lsr ((as.reverse ++ st).map (cv G))) rfl (hsz.trans hml.symm) (argsL := as.map (cv G)) (rest := st.map (cv G)) (fun sig hs => by
    have h2 := m1.2.2
    rw [hs] at h2
    rw [List.length_map]
    exact (Option.some.inj h2).symm) (by show List.map (cv G) (as.reverse ++ st) = _; rw [List.map_append, List.map_reverse]) (by show 2 * 0 + _ ≤ 16; omega) (by rw [hb]; exact hd) (fun vm₁ hW₁ => ⟨f3, f4, hP (T.setVm vm₁) hT hW₁⟩)
  dsimp only [Pt.U, Pt.locs, Pt.cells, Pt.slots] at X' e1 e2 g1 g2 g3 sx
  subst g1; subst g2; subst g3
  exact ⟨v', (T.setVm vm₁).calling g' mk (as.map (cv G)).toArray, t, U', L, hT, X', hL, e1, e2, hq, sx⟩
end
