/-! the abstract heap: cells by handles; 0..31 are constants, the rest come in the order of their making -/
abbrev HS : Type := (Nat × Nat) × (Nat → Nat) × (Nat → Nat) × (Nat → Nat → Int32) × (Nat → Nat → Int64) × (Nat → Nat → Option Nat)
def hN (h : HS) : Nat := h.1.1
def hS (h : HS) : Nat := h.1.2
def hT (h : HS) : Nat → Nat := h.2.1
def hLn (h : HS) : Nat → Nat := h.2.2.1
def hI (h : HS) : Nat → Nat → Int32 := h.2.2.2.1
def hL (h : HS) : Nat → Nat → Int64 := h.2.2.2.2.1
def hR (h : HS) : Nat → Nat → Option Nat := h.2.2.2.2.2
def up2 {α : Type} (f : Nat → Nat → α) (a k : Nat) (v : α) : Nat → Nat → α := fun b j => if b = a then (if j = k then v else f b j) else f b j
def sI (h : HS) (a k : Nat) (v : Int32) : HS := (h.1, h.2.1, h.2.2.1, up2 (hI h) a k v, hL h, hR h)
def sL (h : HS) (a k : Nat) (v : Int64) : HS := (h.1, h.2.1, h.2.2.1, hI h, up2 (hL h) a k v, hR h)
def sR (h : HS) (a k : Nat) (v : Option Nat) : HS := (h.1, h.2.1, h.2.2.1, hI h, hL h, up2 (hR h) a k v)
def hNew (h : HS) (kd ln ns : Nat) : HS := ((hN h + 1, hS h + ns), va_up (hT h) (hN h) kd, va_up (hLn h) (hN h) ln, (fun a k => if a = hN h then 0 else hI h a k), (fun a k => if a = hN h then 0 else hL h a k), (fun a k => if a = hN h then none else hR h a k))
/-- a method: whose it is, its bytes, its locals, what it answers, whether it makes -/
abbrev MI : Type := String × ByteArray × Nat × Option FieldType × Bool
/-- a launch: where the new cells begin, where the constants are, an unknown value, the numbers of the tables -/
abbrev GE : Type := Nat × (Nat → Nat) × Value × va_G × (Nat → ClassId)
abbrev dum : Value := .float 0
def ad (G : GE) (a : Nat) : Nat := if a < 32 then G.2.1 a else G.1 + (a - 32)
def cv (G : GE) : Value → Value
  | .ref a => .ref (ad G a)
  | .retAddr _ => G.2.2.1
  | v => v
def rdv (h : HS) (a k : Nat) (ty : FieldType) : Value := match ty with
  | .long => .long (hL h a k)
  | .object _ => va_rf (hR h a k)
  | .array _ => va_rf (hR h a k)
  | _ => .int (hI h a k)
def tyC (ci : Nat) : Nat → FieldType := match ci with
  | 0 => tyJx4a65c
  | 1 => tyX0
  | 2 => tyX1
  | 3 => tyX2
  | 4 => tyX3
  | 5 => tyX4
  | 6 => tyX5
  | 7 => tyX6
  | 8 => tyX7
  | 9 => tyX8
  | 10 => tyX9
  | 11 => tyX10
  | 12 => tyX11
  | 13 => tyX12
  | _ => fun _ => .int
def elT (kd : Nat) : FieldType := match kd with
  | 15 => .int
  | 16 => .long
  | 17 => .boolean
  | 18 => .object "java/lang/Object"
  | _ => .array .int
def cellOK (G : GE) (h : HS) (a : Nat) (H : Heap) : Prop :=
  (hT h a ≤ 14 → ∃ q : vw_C, vwCl[hT h a - 1]? = some q ∧ t_OB (ad G a) (G.2.2.2.1.1 (hT h a - 1)) q.2.2 (G.2.2.2.1.2 (hT h a - 1)) H (fun k => cv G (rdv h a k (tyC (hT h a - 1) k)))) ∧
  (14 < hT h a → H[ad G a]? = some (arrV (G.2.2.2.2 (hT h a)) (hLn h a) (fun j => cv G (rdv h a j (elT (hT h a))))))
def Rel (G : GE) (h : HS) (H : Heap) : Prop := 32 ≤ hN h ∧ H.size + 32 = G.1 + hN h ∧ ∀ a : Nat, hT h a ≠ 0 → 32 ≤ a ∧ a < hN h ∧ hT h a ≤ 19 ∧ cellOK G h a H
def tysG (G : GE) : List (ClassId × FieldType) := [(G.2.2.2.2 15, .int), (G.2.2.2.2 16, .long), (G.2.2.2.2 17, .boolean), (G.2.2.2.2 18, .object "java/lang/Object"), (G.2.2.2.2 19, .array .int)]
def Ad (G : GE) : Nat → Prop := fun q => G.1 ≤ q
def gT : List Cond := lw_tbl.filter goodWord
def nestL : List (String × Nat × MethodName × String) := [(RX11, 44, ⟨RX6, "<init>", "()V"⟩, RX11), (RX11, 51, ⟨RX5, "<init>", "()V"⟩, RX11), (RX11, 66, ⟨RX2, "<init>", "()V"⟩, RX11), (RX2, 61, ⟨RX11, "isIn", "(III)Z"⟩, RX11), (RX5, 29, ⟨RX11, "isIn", "(III)Z"⟩, RX11)]
def castL : List (String × String) := [(RX0, RX8), (RX1, RX8), (RX4, RX8), (RX7, RX8), (RX10, RX8), (RX1, RX4), (RX7, RX10), (RX0, "java/lang/Object"), (RX1, "java/lang/Object"), (RX3, "java/lang/Object"), (RX4, "java/lang/Object"), (RX7, "java/lang/Object"), (RX8, "java/lang/Object"), (RX9, "java/lang/Object"), (RX10, "java/lang/Object"), ("[I", "java/lang/Cloneable"), ("[I", "java/lang/Object")]
def ncL : List (String × String) := [(RX8, RX4), (RX10, RX4), (RX7, RX4), (RX0, RX4), (RX8, RX10), (RX4, RX10), (RX0, RX10), (RX1, RX10), (RX8, RX7), (RX4, RX7), (RX10, RX7), (RX0, RX7), (RX1, RX7), (RX8, RX0), (RX4, RX0), (RX10, RX0), (RX7, RX0), (RX1, RX0), (RX8, RX1), (RX4, RX1), (RX10, RX1), (RX7, RX1), (RX0, RX1)]
def strL : List (String × Nat × String) := [("ThreeBalls", 92, "play price < odds + seems ; skill 99 < odds ; leave 2 ;"), ("ThreeBalls$Reader", 106, "odds"), ("ThreeBalls$Reader", 112, "price"), ("ThreeBalls$Reader", 114, "bear"), ("ThreeBalls$Reader", 116, "seems"), ("ThreeBalls$Reader", 118, "won"), ("ThreeBalls$Reader", 120, "tries"), ("ThreeBalls$Reader", 122, "or"), ("ThreeBalls$Reader", 124, "and"), ("ThreeBalls$Reader", 126, "not"), ("ThreeBalls$Reader", 128, "play"), ("ThreeBalls$Reader", 130, "skill"), ("ThreeBalls$Reader", 132, "leave")]
def strLen : List Nat := [55, 4, 5, 4, 5, 3, 5, 2, 3, 3, 4, 5, 5]
def strByt : List (List Int32) := [[112, 108, 97, 121, 32, 112, 114, 105, 99, 101, 32, 60, 32, 111, 100, 100, 115, 32, 43, 32, 115, 101, 101, 109, 115, 32, 59, 32, 115, 107, 105, 108, 108, 32, 57, 57, 32, 60, 32, 111, 100, 100, 115, 32, 59, 32, 108, 101, 97, 118, 101, 32, 50, 32, 59], [111, 100, 100, 115], [112, 114, 105, 99, 101], [98, 101, 97, 114], [115, 101, 101, 109, 115], [119, 111, 110], [116, 114, 105, 101, 115], [111, 114], [97, 110, 100], [110, 111, 116], [112, 108, 97, 121], [115, 107, 105, 108, 108], [108, 101, 97, 118, 101]]
def ansL : List Int32 := [100000, 10000, 1000, 100, 10, 1]
def AOa (U : State) : Prop := ∃ (comp c : ClassId) (k : Class), U.vm.findClass "[I" = some comp ∧ (U.vm.classes.findIdx? fun (x : Class) => match x.kind with | .array component _ => component == comp | _ => false) = some c ∧ U.vm.classes[c]? = some k ∧ k.kind = .array comp (.array .int) ∧ U.vm.findClass "[[I" = some c
theorem AOa.moved {u U : State} (hvm : u.vm.Alike U.vm) (h : AOa u) : AOa U := by
  obtain ⟨comp, c, k, h1, h2, h3, h4, h5⟩ := h
  obtain ⟨k', hk', he⟩ := hvm.2.2 _ _ h3
  have hi : (U.vm.classes.findIdx? fun (x : Class) => match x.kind with | .array component _ => component == comp | _ => false) = some c := by
    have e1 := va_idx_bare u.vm comp
    have e2 := va_idx_bare U.vm comp
    have e3 : u.vm.bare = U.vm.bare := by first | exact hvm.bare_eq | exact hvm.bare_eq.symm
    rw [e3] at e1
    exact e2.symm.trans (e1.trans h2)
  exact ⟨comp, c, k', by rw [hvm.findClass]; exact h1, hi, hk', by rw [he]; exact h4, by rw [hvm.findClass]; exact h5⟩
/-- what the tables, the statics and the constants say, in a state -/
def KS (G : GE) (U : State) : Prop :=
  va_K G.2.2.2.1 vwCl (tysG G) U ∧ (∀ q ∈ nestL, va_Nw (.methodLinkNest q.1 q.2.1 q.2.2.1 q.2.2.2) U) ∧ (∀ q ∈ castL, va_Nw (.castable q.1 q.2) U) ∧ (∀ q ∈ ncL, va_Nc q.1 q.2 U) ∧
  (va_AO "java/lang/Object" U ∧ AOa U ∧ va_T .int (G.2.1 28) (G.2.1 100) (fun j => .int (nI (G.2.1 (101 + j)))) (Ad G) U U.heap) ∧
  (∀ (i : Nat) (q : String × Nat × String), strL[i]? = some q → vk_R q.1 q.2.1 q.2.2 (G.2.1 i) U) ∧
  vk_S 13 strLen strByt G.2.1 (fun i => G.2.1 (13 + i)) (Ad G) U U.heap ∧
  va_T .int (G.2.1 26) 6 (fun j => .int (ansL.getD j 0)) (Ad G) U U.heap ∧ va_Z "ThreeBalls" "ANSWER_PLACES" "[I" (.ref (G.2.1 26)) (Ad G) U U.heap ∧
  va_T (.object "java/lang/Object") (G.2.1 27) 0 (fun _ => .null) (Ad G) U U.heap ∧ va_Z "java/util/ArrayList" "DEFAULTCAPACITY_EMPTY_ELEMENTDATA" "[Ljava/lang/Object;" (.ref (G.2.1 27)) (Ad G) U U.heap ∧
  va_Z "java/lang/String" "COMPACT_STRINGS" "Z" (.int 1) (Ad G) U U.heap ∧ va_Z "jdk/internal/util/Preconditions" "SIOOBE_FORMATTER" "Ljava/util/function/BiFunction;" G.2.2.1 (Ad G) U U.heap ∧ (G.2.2.1 = .null ∨ ∃ t : Nat, G.2.2.1 = .ref t)
def Cx (G : GE) (d : Nat) (mi : MI) (h' : HS) (p : Program) (R : Room) (s : State) (m : MethodId) (args : Array Value) (meth : Method) (c : Code) (c0 s0 mc ms : Nat) : Prop :=
  p.tables.exec = Jvm.exec ∧ c.code = mi.2.1 ∧ meth.sig.returnType = mi.2.2.2.1 ∧ c.maxLocals = mi.2.2.1 ∧ s.vm.findClass mi.1 = some m.cls ∧ (∀ w ∈ gT, w.before args s = true) ∧ KS G s ∧ meth.locks = false ∧ (mi.2.2.2.2 = true → meth.name = "<init>") ∧
  d ≤ R.frames ∧ 70 * d ≤ R.locals ∧ mc ≤ R.cells ∧ ms ≤ R.slots ∧ hN h' = c0 + mc ∧ hS h' = s0 + ms
def Hls (G : GE) (lsr : Array Slot) (nL : Nat) (ls : List Value) : Prop := lsr.size = nL ∧ lv_wf lsr ∧ ∀ (k : Nat) (v : Value), ls[k]? = some v → v ≠ dum → lsr[k]? = some (.val (cv G v))
def Dy (G : GE) (mi : MI) (h : HS) (s : State) (c0 s0 cells slots : Nat) (H : Heap) (locs : List Loc) (lsr : Array Slot) (ls : List Value) : Prop :=
  hN h = c0 + cells ∧ hS h = s0 + slots ∧ va_S (Ad G) s.heap H locs ∧ Rel G h H ∧ Hls G lsr mi.2.2.1 ls
def Qr (G : GE) (r : Option Value) (h' : HS) : Array Value → State → Outcome → State → Prop := fun _ st oc t => oc = .returned (r.map (cv G)) ∧ Rel G h' t.heap ∧ va_F (Ad G) st t
/-- from this place of the method it comes to its end, with this answer and this heap -/
def En (G : GE) (d : Nat) (mi : MI) (pc : Nat) (ls st : List Value) (h : HS) (r : Option Value) (h' : HS) : Prop :=
  hN h ≤ hN h' ∧ hS h ≤ hS h' ∧ ∀ (p : Program) (l : Launch) (e : Env) (R : Room) (s : State) (m : MethodId) (args : Array Value) (below : List Frame) (meth : Method) (c : Code) (c0 s0 mc ms : Nat), Cx G d mi h' p R s m args meth c c0 s0 mc ms →
    ∀ (cells slots : Nat) (H : Heap) (locs : List Loc) (lsr : Array Slot), Dy G mi h s c0 s0 cells slots H locs lsr ls →
      W p l e R s m args below meth c H locs cells slots (MQ below (Qr G r h') args s mc ms (Ad G)) (F0 m pc lsr (st.map (cv G)))
/-- the method, called so, answers so -/
def CE (G : GE) (d : Nat) (y : MethodName) (mi : MI) (as : List Value) (h : HS) (r : Option Value) (h' : HS) : Prop :=
  hN h ≤ hN h' ∧ hS h ≤ hS h' ∧ ∀ l : Launch, Met l y (Cond.code y mi.2.1 mi.2.2.1 mi.2.2.2.1 :: gT) ({ frames := d, cells := hN h' - hN h, slots := hS h' - hS h, locals := 70 * d }) (va_Pc (as.map (cv G)) (fun U => Rel G h U.heap ∧ KS G U)) (Qr G r h') (hN h' - hN h) (hS h' - hS h) (Ad G)
section
variable {G : GE} {d : Nat} {mi : MI} {pc pc' : Nat} {ls ls' st st' : List Value} {h h' : HS} {r : Option Value}
theorem En.pure (k : En G d mi pc' ls st' h r h') (f : ∀ {p : Program} {l : Launch} {e : Env} {R : Room} {s : State} {m : MethodId} {args : Array Value} {below : List Frame} {meth : Method} {c : Code} {H : Heap} {locs : List Loc} {cells slots : Nat} {Q : State → Prop} {lsr : Array Slot}, p.tables.exec = Jvm.exec → c.code = mi.2.1 → W p l e R s m args below meth c H locs cells slots Q (F0 m pc' lsr (st'.map (cv G))) → W p l e R s m args below meth c H locs cells slots Q (F0 m pc lsr (st.map (cv G)))) : En G d mi pc ls st h r h' :=
  ⟨k.1, k.2.1, fun p l e R s m args below meth c c0 s0 mc ms hC cells slots H locs lsr hD => f hC.1 hC.2.1 (k.2.2 p l e R s m args below meth c c0 s0 mc ms hC cells slots H locs lsr hD)⟩
theorem En.load (k : En G d mi pc' ls st' h r h') (f : ∀ {p : Program} {l : Launch} {e : Env} {R : Room} {s : State} {m : MethodId} {args : Array Value} {below : List Frame} {meth : Method} {c : Code} {H : Heap} {locs : List Loc} {cells slots : Nat} {Q : State → Prop} {lsr : Array Slot}, p.tables.exec = Jvm.exec → c.code = mi.2.1 → Hls G lsr mi.2.2.1 ls → W p l e R s m args below meth c H locs cells slots Q (F0 m pc' lsr (st'.map (cv G))) → W p l e R s m args below meth c H locs cells slots Q (F0 m pc lsr (st.map (cv G)))) : En G d mi pc ls st h r h' :=
  ⟨k.1, k.2.1, fun p l e R s m args below meth c c0 s0 mc ms hC cells slots H locs lsr hD => f hC.1 hC.2.1 hD.2.2.2.2 (k.2.2 p l e R s m args below meth c c0 s0 mc ms hC cells slots H locs lsr hD)⟩
theorem En.link (k : En G d mi pc' ls st' h r h') (f : ∀ {p : Program} {l : Launch} {e : Env} {R : Room} {s : State} {m : MethodId} {args : Array Value} {below : List Frame} {meth : Method} {c : Code} {H : Heap} {locs : List Loc} {cells slots : Nat} {Q : State → Prop} {lsr : Array Slot}, p.tables.exec = Jvm.exec → c.code = mi.2.1 → s.vm.findClass mi.1 = some m.cls → (∀ w ∈ gT, w.before args s = true) → KS G s → va_S (Ad G) s.heap H locs → Rel G h H → W p l e R s m args below meth c H locs cells slots Q (F0 m pc' lsr (st'.map (cv G))) → W p l e R s m args below meth c H locs cells slots Q (F0 m pc lsr (st.map (cv G)))) : En G d mi pc ls st h r h' :=
  ⟨k.1, k.2.1, fun p l e R s m args below meth c c0 s0 mc ms hC cells slots H locs lsr hD => f hC.1 hC.2.1 hC.2.2.2.2.1 hC.2.2.2.2.2.1 hC.2.2.2.2.2.2.1 hD.2.2.1 hD.2.2.2.1 (k.2.2 p l e R s m args below meth c c0 s0 mc ms hC cells slots H locs lsr hD)⟩
theorem En.two {P : Prop} {pc2 : Nat} {st2 : List Value} (kt : P → En G d mi pc' ls st' h r h') (kf : ¬ P → En G d mi pc2 ls st2 h r h') (f : ∀ {p : Program} {l : Launch} {e : Env} {R : Room} {s : State} {m : MethodId} {args : Array Value} {below : List Frame} {meth : Method} {c : Code} {H : Heap} {locs : List Loc} {cells slots : Nat} {Q : State → Prop} {lsr : Array Slot}, p.tables.exec = Jvm.exec → c.code = mi.2.1 → (P → W p l e R s m args below meth c H locs cells slots Q (F0 m pc' lsr (st'.map (cv G)))) → (¬ P → W p l e R s m args below meth c H locs cells slots Q (F0 m pc2 lsr (st2.map (cv G)))) → W p l e R s m args below meth c H locs cells slots Q (F0 m pc lsr (st.map (cv G)))) : En G d mi pc ls st h r h' := by
  by_cases hP : P
  · have k := kt hP
    exact ⟨k.1, k.2.1, fun p l e R s m args below meth c c0 s0 mc ms hC cells slots H locs lsr hD => f hC.1 hC.2.1 (fun _ => k.2.2 p l e R s m args below meth c c0 s0 mc ms hC cells slots H locs lsr hD) (fun q => absurd hP q)⟩
  · have k := kf hP
    exact ⟨k.1, k.2.1, fun p l e R s m args below meth c c0 s0 mc ms hC cells slots H locs lsr hD => f hC.1 hC.2.1 (fun q => absurd q hP) (fun _ => k.2.2 p l e R s m args below meth c c0 s0 mc ms hC cells slots H locs lsr hD)⟩
end
