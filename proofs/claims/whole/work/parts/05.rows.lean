def nkl (ls : List Value) (i : Nat) : Bool := match i with
  | 0 => true
  | j + 1 => match ls.getD j dum with
    | .long _ => false
    | .double _ => false
    | _ => true
def st1 (ls : List Value) (i : Nat) (v : Value) : List Value := ls.set i v
def st2 (ls : List Value) (i : Nat) (v : Value) : List Value := (ls.set i v).set (i + 1) dum
def lvp (G : GE) (ls : List Value) : List (Nat × Value) := (List.range ls.length).filterMap (fun k => match ls[k]? with
  | some v => if v = dum then none else some (k, cv G v)
  | none => none)
theorem lvp_mem {G : GE} {ls : List Value} {q : Nat × Value} : q ∈ lvp G ls ↔ ∃ v, ls[q.1]? = some v ∧ v ≠ dum ∧ q.2 = cv G v := by
  unfold lvp
  rw [List.mem_filterMap]
  constructor
  · rintro ⟨k, hk, h⟩
    cases hv : ls[k]? with
    | none => rw [hv] at h; cases h
    | some v =>
      rw [hv] at h
      by_cases hd : v = dum
      · simp [hd] at h
      · simp only [hd, if_false] at h
        cases h
        exact ⟨v, hv, hd, rfl⟩
  · rintro ⟨v, h1, h2, h3⟩
    refine ⟨q.1, List.mem_range.mpr (List.getElem?_eq_some_iff.mp h1).1, ?_⟩
    rw [h1]
    simp only [h2, if_false]
    rw [← h3]
theorem Hls.has {G : GE} {lsr : Array Slot} {nL : Nat} {ls : List Value} (hl : Hls G lsr nL ls) : lv_has lsr nL (lvp G ls) :=
  ⟨hl.1, hl.2.1, fun q hq => by
    obtain ⟨v, h1, h2, h3⟩ := lvp_mem.mp hq
    rw [h3]; exact hl.2.2 q.1 v h1 h2⟩
theorem nkl_get {ls : List Value} {i k : Nat} {w : Value} (hk : nkl ls i = true) (h : ls[k]? = some w) : k + 1 = i → (∀ x, w ≠ .long x) ∧ ∀ x, w ≠ .double x := by
  intro e
  subst e
  unfold nkl at hk
  simp only at hk
  rw [List.getD_eq_getElem?_getD, h] at hk
  refine ⟨fun x hx => ?_, fun x hx => ?_⟩
  · subst hx; cases hk
  · subst hx; cases hk
theorem cv_cat2 {G : GE} {v : Value} (hG : G.2.2.1 = .null ∨ ∃ t : Nat, G.2.2.1 = .ref t) (hn : ∀ x, v ≠ .double x) (h : (cv G v).category = 2) : ∃ x, v = .long x := by
  cases v with
  | long x => exact ⟨x, rfl⟩
  | double x => exact absurd rfl (hn x)
  | retAddr x =>
    simp only [cv] at h
    rcases hG with e | ⟨t, e⟩ <;> rw [e] at h <;> cases h
  | _ => cases h
theorem Hls_st1 {G : GE} {lsr' : Array Slot} {nL i : Nat} {ls : List Value} {v : Value} (hG : G.2.2.1 = .null ∨ ∃ t : Nat, G.2.2.1 = .ref t) (hkl : nkl ls i = true) (h : lv_has lsr' nL ((i, cv G v) :: (lvp G ls).filter (fun q => !(q.1 == i) && !(q.1 + 1 == i && q.2.category == 2)))) : Hls G lsr' nL (st1 ls i v) := by
  refine ⟨h.1, h.2.1, fun k w hk hw => ?_⟩
  unfold st1 at hk
  by_cases e : k = i
  · subst e
    rw [List.getElem?_set] at hk
    simp only [if_true] at hk
    split at hk
    · cases hk
      exact h.2.2 (k, cv G v) List.mem_cons_self
    · cases hk
  · rw [List.getElem?_set_ne (fun q => e q.symm)] at hk
    have h2 := nkl_get hkl hk
    refine h.2.2 (k, cv G w) (List.mem_cons_of_mem _ (List.mem_filter.mpr ⟨lvp_mem.mpr ⟨w, hk, hw, rfl⟩, ?_⟩))
    simp only [Bool.and_eq_true, Bool.not_eq_true', beq_eq_false_iff_ne, ne_eq, Bool.and_eq_false_iff, e, not_false_eq_true, true_and]
    by_cases e2 : k + 1 = i
    · right
      intro hc
      obtain ⟨x, hx⟩ := cv_cat2 hG (h2 e2).2 hc
      exact (h2 e2).1 x hx
    · left; exact e2
theorem Hls_st2 {G : GE} {lsr' : Array Slot} {nL i : Nat} {ls : List Value} {v : Value} (hG : G.2.2.1 = .null ∨ ∃ t : Nat, G.2.2.1 = .ref t) (hkl : nkl ls i = true) (h : lv_has lsr' nL ((i, cv G v) :: (lvp G ls).filter (fun q => !(q.1 == i) && (!(q.1 == i + 1) && !(q.1 + 1 == i && q.2.category == 2))))) : Hls G lsr' nL (st2 ls i v) := by
  refine ⟨h.1, h.2.1, fun k w hk hw => ?_⟩
  unfold st2 at hk
  by_cases e1 : k = i + 1
  · subst e1
    rw [List.getElem?_set] at hk
    simp only [if_true] at hk
    split at hk
    · cases hk; exact absurd rfl hw
    · cases hk
  · rw [List.getElem?_set_ne (fun q => e1 q.symm)] at hk
    by_cases e : k = i
    · subst e
      rw [List.getElem?_set] at hk
      simp only [if_true] at hk
      split at hk
      · cases hk
        exact h.2.2 (k, cv G v) List.mem_cons_self
      · cases hk
    · rw [List.getElem?_set_ne (fun q => e q.symm)] at hk
      have h2 := nkl_get hkl hk
      refine h.2.2 (k, cv G w) (List.mem_cons_of_mem _ (List.mem_filter.mpr ⟨lvp_mem.mpr ⟨w, hk, hw, rfl⟩, ?_⟩))
      simp only [Bool.and_eq_true, Bool.not_eq_true', beq_eq_false_iff_ne, ne_eq, Bool.and_eq_false_iff, e, e1, not_false_eq_true, true_and]
      by_cases e2 : k + 1 = i
      · right
        intro hc
        obtain ⟨x, hx⟩ := cv_cat2 hG (h2 e2).2 hc
        exact (h2 e2).1 x hx
      · left; exact e2
section
variable {G : GE} {d : Nat} {mi : MI} {pc : Nat} {ls st : List Value} {h h' : HS} {r : Option Value}
theorem e_iadd {x y : Int32} (hd : decode mi.2.1 pc = .ok (.iadd, 1)) (k : En G d mi (pc + 1) ls (.int (x + y) :: st) h r h') : En G d mi pc ls (.int y :: .int x :: st) h r h' := k.pure (fun hx hb w => lv_iadd hx hb hd w)
theorem e_isub {x y : Int32} (hd : decode mi.2.1 pc = .ok (.isub, 1)) (k : En G d mi (pc + 1) ls (.int (x - y) :: st) h r h') : En G d mi pc ls (.int y :: .int x :: st) h r h' := k.pure (fun hx hb w => lv_isub hx hb hd w)
theorem e_imul {x y : Int32} (hd : decode mi.2.1 pc = .ok (.imul, 1)) (k : En G d mi (pc + 1) ls (.int (x * y) :: st) h r h') : En G d mi pc ls (.int y :: .int x :: st) h r h' := k.pure (fun hx hb w => lv_imul hx hb hd w)
theorem e_iand {x y : Int32} (hd : decode mi.2.1 pc = .ok (.iand, 1)) (k : En G d mi (pc + 1) ls (.int (x &&& y) :: st) h r h') : En G d mi pc ls (.int y :: .int x :: st) h r h' := k.pure (fun hx hb w => lv_iand hx hb hd w)
theorem e_ior {x y : Int32} (hd : decode mi.2.1 pc = .ok (.ior, 1)) (k : En G d mi (pc + 1) ls (.int (x ||| y) :: st) h r h') : En G d mi pc ls (.int y :: .int x :: st) h r h' := k.pure (fun hx hb w => lv_ior hx hb hd w)
theorem e_ishl {x y : Int32} (hd : decode mi.2.1 pc = .ok (.ishl, 1)) (k : En G d mi (pc + 1) ls (.int (x <<< (y &&& 31)) :: st) h r h') : En G d mi pc ls (.int y :: .int x :: st) h r h' := k.pure (fun hx hb w => lv_ishl hx hb hd w)
theorem e_ishr {x y : Int32} (hd : decode mi.2.1 pc = .ok (.ishr, 1)) (k : En G d mi (pc + 1) ls (.int (x >>> (y &&& 31)) :: st) h r h') : En G d mi pc ls (.int y :: .int x :: st) h r h' := k.pure (fun hx hb w => lv_ishr hx hb hd w)
theorem e_iushr {x y : Int32} (hd : decode mi.2.1 pc = .ok (.iushr, 1)) (k : En G d mi (pc + 1) ls (.int ((x.toUInt32 >>> (y.toUInt32 &&& Int32.toUInt32 31)).toInt32) :: st) h r h') : En G d mi pc ls (.int y :: .int x :: st) h r h' := k.pure (fun hx hb w => lv_iushr hx hb hd rfl w)
theorem e_idiv {x y : Int32} (hd : decode mi.2.1 pc = .ok (.idiv, 1)) (hne : ¬ y = 0) (k : En G d mi (pc + 1) ls (.int (x / y) :: st) h r h') : En G d mi pc ls (.int y :: .int x :: st) h r h' := k.pure (fun hx hb w => lv_idiv hx hb hd hne w)
theorem e_irem {x y : Int32} (hd : decode mi.2.1 pc = .ok (.irem, 1)) (hne : ¬ y = 0) (k : En G d mi (pc + 1) ls (.int (x - x / y * y) :: st) h r h') : En G d mi pc ls (.int y :: .int x :: st) h r h' := k.pure (fun hx hb w => lv_irem hx hb hd hne w)
theorem e_ineg {x : Int32} (hd : decode mi.2.1 pc = .ok (.ineg, 1)) (k : En G d mi (pc + 1) ls (.int (-x) :: st) h r h') : En G d mi pc ls (.int x :: st) h r h' := k.pure (fun hx hb w => lv_ineg hx hb hd w)
theorem e_ladd {x y : Int64} (hd : decode mi.2.1 pc = .ok (.ladd, 1)) (k : En G d mi (pc + 1) ls (.long (x + y) :: st) h r h') : En G d mi pc ls (.long y :: .long x :: st) h r h' := k.pure (fun hx hb w => lv_ladd hx hb hd w)
theorem e_lsub {x y : Int64} (hd : decode mi.2.1 pc = .ok (.lsub, 1)) (k : En G d mi (pc + 1) ls (.long (x - y) :: st) h r h') : En G d mi pc ls (.long y :: .long x :: st) h r h' := k.pure (fun hx hb w => lv_lsub hx hb hd w)
theorem e_lmul {x y : Int64} (hd : decode mi.2.1 pc = .ok (.lmul, 1)) (k : En G d mi (pc + 1) ls (.long (x * y) :: st) h r h') : En G d mi pc ls (.long y :: .long x :: st) h r h' := k.pure (fun hx hb w => lv_lmul hx hb hd w)
theorem e_land {x y : Int64} (hd : decode mi.2.1 pc = .ok (.land, 1)) (k : En G d mi (pc + 1) ls (.long (x &&& y) :: st) h r h') : En G d mi pc ls (.long y :: .long x :: st) h r h' := k.pure (fun hx hb w => lv_land hx hb hd w)
theorem e_lor {x y : Int64} (hd : decode mi.2.1 pc = .ok (.lor, 1)) (k : En G d mi (pc + 1) ls (.long (x ||| y) :: st) h r h') : En G d mi pc ls (.long y :: .long x :: st) h r h' := k.pure (fun hx hb w => lv_lor hx hb hd w)
theorem e_ldiv {x y : Int64} (hd : decode mi.2.1 pc = .ok (.ldiv, 1)) (hne : ¬ y = 0) (k : En G d mi (pc + 1) ls (.long (x / y) :: st) h r h') : En G d mi pc ls (.long y :: .long x :: st) h r h' := k.pure (fun hx hb w => lv_ldiv hx hb hd hne w)
theorem e_lrem {x y : Int64} (hd : decode mi.2.1 pc = .ok (.lrem, 1)) (hne : ¬ y = 0) (k : En G d mi (pc + 1) ls (.long (x - x / y * y) :: st) h r h') : En G d mi pc ls (.long y :: .long x :: st) h r h' := k.pure (fun hx hb w => lv_lrem hx hb hd hne w)
theorem e_lneg {x : Int64} (hd : decode mi.2.1 pc = .ok (.lneg, 1)) (k : En G d mi (pc + 1) ls (.long (-x) :: st) h r h') : En G d mi pc ls (.long x :: st) h r h' := k.pure (fun hx hb w => lv_lneg hx hb hd w)
theorem e_lshl {x : Int64} {y : Int32} (hd : decode mi.2.1 pc = .ok (.lshl, 1)) (k : En G d mi (pc + 1) ls (.long (x <<< (y.toInt64 &&& 63)) :: st) h r h') : En G d mi pc ls (.int y :: .long x :: st) h r h' := k.pure (fun hx hb w => lv_lshl hx hb hd rfl w)
theorem e_lshr {x : Int64} {y : Int32} (hd : decode mi.2.1 pc = .ok (.lshr, 1)) (k : En G d mi (pc + 1) ls (.long (x >>> (y.toInt64 &&& 63)) :: st) h r h') : En G d mi pc ls (.int y :: .long x :: st) h r h' := k.pure (fun hx hb w => lv_lshr hx hb hd rfl w)
theorem e_lcmp {x y : Int64} (hd : decode mi.2.1 pc = .ok (.lcmp, 1)) (k : En G d mi (pc + 1) ls (.int (lg_cmp x y) :: st) h r h') : En G d mi pc ls (.long y :: .long x :: st) h r h' := k.pure (fun hx hb w => W.lcmp hx hb hd w)
theorem e_i2l {x : Int32} (hd : decode mi.2.1 pc = .ok (.i2l, 1)) (k : En G d mi (pc + 1) ls (.long x.toInt64 :: st) h r h') : En G d mi pc ls (.int x :: st) h r h' := k.pure (fun hx hb w => lv_i2l hx hb hd rfl w)
theorem e_l2i {x : Int64} (hd : decode mi.2.1 pc = .ok (.l2i, 1)) (k : En G d mi (pc + 1) ls (.int x.toInt32 :: st) h r h') : En G d mi pc ls (.long x :: st) h r h' := k.pure (fun hx hb w => lv_l2i hx hb hd rfl w)
theorem e_i2b {x : Int32} (hd : decode mi.2.1 pc = .ok (.i2b, 1)) (k : En G d mi (pc + 1) ls (.int x.toInt8.toInt32 :: st) h r h') : En G d mi pc ls (.int x :: st) h r h' := k.pure (fun hx hb w => lv_i2b hx hb hd rfl w)
theorem e_i2s {x : Int32} (hd : decode mi.2.1 pc = .ok (.i2s, 1)) (k : En G d mi (pc + 1) ls (.int x.toInt16.toInt32 :: st) h r h') : En G d mi pc ls (.int x :: st) h r h' := k.pure (fun hx hb w => lv_i2s hx hb hd rfl w)
theorem e_i2c {x : Int32} (hd : decode mi.2.1 pc = .ok (.i2c, 1)) (k : En G d mi (pc + 1) ls (.int (x.toUInt32 % 65536).toInt32 :: st) h r h') : En G d mi pc ls (.int x :: st) h r h' := k.pure (fun hx hb w => lv_i2c hx hb hd rfl w)
theorem e_iconst {n : Int} {v : Int32} (hd : decode mi.2.1 pc = .ok (.iconst n, 1)) (hv : Int32.ofInt n = v) (k : En G d mi (pc + 1) ls (.int v :: st) h r h') : En G d mi pc ls (st) h r h' := k.pure (fun hx hb w => lv_iconst hx hb hd hv w)
theorem e_bipush {n : Int} {v : Int32} (hd : decode mi.2.1 pc = .ok (.bipush n, 2)) (hv : (Int8.ofInt n).toInt32 = v) (k : En G d mi (pc + 2) ls (.int v :: st) h r h') : En G d mi pc ls (st) h r h' := k.pure (fun hx hb w => lv_bipush hx hb hd hv w)
theorem e_sipush {n : Int} {v : Int32} (hd : decode mi.2.1 pc = .ok (.sipush n, 3)) (hv : (Int16.ofInt n).toInt32 = v) (k : En G d mi (pc + 3) ls (.int v :: st) h r h') : En G d mi pc ls (st) h r h' := k.pure (fun hx hb w => lv_sipush hx hb hd hv w)
theorem e_lconst {n : Fin 2} {v : Int64} (hd : decode mi.2.1 pc = .ok (.lconst n, 1)) (hv : Int64.ofNat (n : Nat) = v) (k : En G d mi (pc + 1) ls (.long v :: st) h r h') : En G d mi pc ls (st) h r h' := k.pure (fun hx hb w => lv_lconst hx hb hd hv w)
theorem e_null  (hd : decode mi.2.1 pc = .ok (.aconst_null, 1)) (k : En G d mi (pc + 1) ls (.null :: st) h r h') : En G d mi pc ls (st) h r h' := k.pure (fun hx hb w => lv_null hx hb hd w)
theorem e_dupi {x : Int32} (hd : decode mi.2.1 pc = .ok (.dup, 1)) (k : En G d mi (pc + 1) ls (.int x :: .int x :: st) h r h') : En G d mi pc ls (.int x :: st) h r h' := k.pure (fun hx hb w => lv_dup hx hb hd rfl w)
theorem e_dupr {a : Nat} (hd : decode mi.2.1 pc = .ok (.dup, 1)) (k : En G d mi (pc + 1) ls (.ref a :: .ref a :: st) h r h') : En G d mi pc ls (.ref a :: st) h r h' := k.pure (fun hx hb w => lv_dup hx hb hd rfl w)
theorem e_popi {x : Int32} (hd : decode mi.2.1 pc = .ok (.pop, 1)) (k : En G d mi (pc + 1) ls (st) h r h') : En G d mi pc ls (.int x :: st) h r h' := k.pure (fun hx hb w => lv_pop hx hb hd rfl w)
theorem e_popr {a : Nat} (hd : decode mi.2.1 pc = .ok (.pop, 1)) (k : En G d mi (pc + 1) ls (st) h r h') : En G d mi pc ls (.ref a :: st) h r h' := k.pure (fun hx hb w => lv_pop hx hb hd rfl w)
theorem e_dup_x1i {x : Int32} {a : Nat} (hd : decode mi.2.1 pc = .ok (.dup_x1, 1)) (k : En G d mi (pc + 1) ls (.int x :: .ref a :: .int x :: st) h r h') : En G d mi pc ls (.int x :: .ref a :: st) h r h' := k.pure (fun hx hb w => lv_dup_x1 hx hb hd rfl rfl w)
theorem e_dup_x1r {a b : Nat} (hd : decode mi.2.1 pc = .ok (.dup_x1, 1)) (k : En G d mi (pc + 1) ls (.ref a :: .ref b :: .ref a :: st) h r h') : En G d mi pc ls (.ref a :: .ref b :: st) h r h' := k.pure (fun hx hb w => lv_dup_x1 hx hb hd rfl rfl w)
theorem e_dup2ir {x : Int32} {a : Nat} (hd : decode mi.2.1 pc = .ok (.dup2, 1)) (k : En G d mi (pc + 1) ls (.int x :: .ref a :: .int x :: .ref a :: st) h r h') : En G d mi pc ls (.int x :: .ref a :: st) h r h' := k.pure (fun hx hb w => lv_dup2_11 hx hb hd rfl rfl w)
theorem e_dup2ii {x y : Int32} (hd : decode mi.2.1 pc = .ok (.dup2, 1)) (k : En G d mi (pc + 1) ls (.int x :: .int y :: .int x :: .int y :: st) h r h') : En G d mi pc ls (.int x :: .int y :: st) h r h' := k.pure (fun hx hb w => lv_dup2_11 hx hb hd rfl rfl w)
theorem e_iload_n {k : Fin 4} {x : Int32} (hd : decode mi.2.1 pc = .ok (.iload_n k, 1)) (hl : ls[(k : Nat)]? = some (.int x)) (kk : En G d mi (pc + 1) ls (.int x :: st) h r h') : En G d mi pc ls st h r h' := kk.load (fun hx hb hL w => lv_iload_n hx hb hd rfl (hL.2.2 _ _ hl (fun q => by cases q)) w)
theorem e_iload {i : Nat} {x : Int32} (hd : decode mi.2.1 pc = .ok (.iload i, 2)) (hl : ls[i]? = some (.int x)) (kk : En G d mi (pc + 2) ls (.int x :: st) h r h') : En G d mi pc ls st h r h' := kk.load (fun hx hb hL w => lv_iload hx hb hd (hL.2.2 _ _ hl (fun q => by cases q)) w)
theorem e_lload_n {k : Fin 4} {x : Int64} (hd : decode mi.2.1 pc = .ok (.lload_n k, 1)) (hl : ls[(k : Nat)]? = some (.long x)) (kk : En G d mi (pc + 1) ls (.long x :: st) h r h') : En G d mi pc ls st h r h' := kk.load (fun hx hb hL w => lv_lload_n hx hb hd rfl (hL.2.2 _ _ hl (fun q => by cases q)) w)
theorem e_lload {i : Nat} {x : Int64} (hd : decode mi.2.1 pc = .ok (.lload i, 2)) (hl : ls[i]? = some (.long x)) (kk : En G d mi (pc + 2) ls (.long x :: st) h r h') : En G d mi pc ls st h r h' := kk.load (fun hx hb hL w => lv_lload hx hb hd (hL.2.2 _ _ hl (fun q => by cases q)) w)
theorem e_aload_n {k : Fin 4} {a : Nat} (hd : decode mi.2.1 pc = .ok (.aload_n k, 1)) (hl : ls[(k : Nat)]? = some (.ref a)) (kk : En G d mi (pc + 1) ls (.ref a :: st) h r h') : En G d mi pc ls st h r h' := kk.load (fun hx hb hL w => lv_aload_n hx hb hd rfl (hL.2.2 _ _ hl (fun q => by cases q)) w)
theorem e_aload {i : Nat} {a : Nat} (hd : decode mi.2.1 pc = .ok (.aload i, 2)) (hl : ls[i]? = some (.ref a)) (kk : En G d mi (pc + 2) ls (.ref a :: st) h r h') : En G d mi pc ls st h r h' := kk.load (fun hx hb hL w => lv_aload hx hb hd (hL.2.2 _ _ hl (fun q => by cases q)) w)
theorem e_aload_nN {k : Fin 4} (hd : decode mi.2.1 pc = .ok (.aload_n k, 1)) (hl : ls[(k : Nat)]? = some .null) (kk : En G d mi (pc + 1) ls (.null :: st) h r h') : En G d mi pc ls st h r h' := kk.load (fun hx hb hL w => lv_aload_nN hx hb hd rfl (hL.2.2 _ _ hl (fun q => by cases q)) w)
theorem e_aloadN {i : Nat} (hd : decode mi.2.1 pc = .ok (.aload i, 2)) (hl : ls[i]? = some .null) (kk : En G d mi (pc + 2) ls (.null :: st) h r h') : En G d mi pc ls st h r h' := kk.load (fun hx hb hL w => lv_aloadN hx hb hd (hL.2.2 _ _ hl (fun q => by cases q)) w)
theorem e_istore_n {k : Fin 4} {x : Int32} (hd : decode mi.2.1 pc = .ok (.istore_n k, 1)) (hn : (k : Nat) < mi.2.2.1) (hkl : nkl ls (k : Nat) = true) {ls' : List Value} (hs : st1 ls (k : Nat) (.int x) = ls') (kk : En G d mi (pc + 1) ls' st h r h') : En G d mi pc ls (.int x :: st) h r h' := by
  subst hs
  exact ⟨kk.1, kk.2.1, fun p l e R s m args below meth c c0 s0 mc ms hC cells slots H locs lsr hD => lv_istore_n hC.1 hC.2.1 hd rfl hD.2.2.2.2.has hn rfl (fun ls' hl' => kk.2.2 p l e R s m args below meth c c0 s0 mc ms hC cells slots H locs ls' ⟨hD.1, hD.2.1, hD.2.2.1, hD.2.2.2.1, Hls_st1 (v := .int x) hC.2.2.2.2.2.2.1.2.2.2.2.2.2.2.2.2.2.2.2.2 hkl hl'⟩)⟩
theorem e_istore {i : Nat} {x : Int32} (hd : decode mi.2.1 pc = .ok (.istore i, 2)) (hn : i < mi.2.2.1) (hkl : nkl ls i = true) {ls' : List Value} (hs : st1 ls i (.int x) = ls') (kk : En G d mi (pc + 2) ls' st h r h') : En G d mi pc ls (.int x :: st) h r h' := by
  subst hs
  exact ⟨kk.1, kk.2.1, fun p l e R s m args below meth c c0 s0 mc ms hC cells slots H locs lsr hD => lv_istore hC.1 hC.2.1 hd hD.2.2.2.2.has hn rfl (fun ls' hl' => kk.2.2 p l e R s m args below meth c c0 s0 mc ms hC cells slots H locs ls' ⟨hD.1, hD.2.1, hD.2.2.1, hD.2.2.2.1, Hls_st1 (v := .int x) hC.2.2.2.2.2.2.1.2.2.2.2.2.2.2.2.2.2.2.2.2 hkl hl'⟩)⟩
theorem e_lstore_n {k : Fin 4} {x : Int64} (hd : decode mi.2.1 pc = .ok (.lstore_n k, 1)) (hn : (k : Nat) + 1 < mi.2.2.1) (hkl : nkl ls (k : Nat) = true) {ls' : List Value} (hs : st2 ls (k : Nat) (.long x) = ls') (kk : En G d mi (pc + 1) ls' st h r h') : En G d mi pc ls (.long x :: st) h r h' := by
  subst hs
  exact ⟨kk.1, kk.2.1, fun p l e R s m args below meth c c0 s0 mc ms hC cells slots H locs lsr hD => lv_lstore_n hC.1 hC.2.1 hd rfl hD.2.2.2.2.has hn rfl (fun ls' hl' => kk.2.2 p l e R s m args below meth c c0 s0 mc ms hC cells slots H locs ls' ⟨hD.1, hD.2.1, hD.2.2.1, hD.2.2.2.1, Hls_st2 (v := .long x) hC.2.2.2.2.2.2.1.2.2.2.2.2.2.2.2.2.2.2.2.2 hkl hl'⟩)⟩
theorem e_lstore {i : Nat} {x : Int64} (hd : decode mi.2.1 pc = .ok (.lstore i, 2)) (hn : i + 1 < mi.2.2.1) (hkl : nkl ls i = true) {ls' : List Value} (hs : st2 ls i (.long x) = ls') (kk : En G d mi (pc + 2) ls' st h r h') : En G d mi pc ls (.long x :: st) h r h' := by
  subst hs
  exact ⟨kk.1, kk.2.1, fun p l e R s m args below meth c c0 s0 mc ms hC cells slots H locs lsr hD => lv_lstore hC.1 hC.2.1 hd hD.2.2.2.2.has hn rfl (fun ls' hl' => kk.2.2 p l e R s m args below meth c c0 s0 mc ms hC cells slots H locs ls' ⟨hD.1, hD.2.1, hD.2.2.1, hD.2.2.2.1, Hls_st2 (v := .long x) hC.2.2.2.2.2.2.1.2.2.2.2.2.2.2.2.2.2.2.2.2 hkl hl'⟩)⟩
theorem e_astore_n {k : Fin 4} {a : Nat} (hd : decode mi.2.1 pc = .ok (.astore_n k, 1)) (hn : (k : Nat) < mi.2.2.1) (hkl : nkl ls (k : Nat) = true) {ls' : List Value} (hs : st1 ls (k : Nat) (.ref a) = ls') (kk : En G d mi (pc + 1) ls' st h r h') : En G d mi pc ls (.ref a :: st) h r h' := by
  subst hs
  exact ⟨kk.1, kk.2.1, fun p l e R s m args below meth c c0 s0 mc ms hC cells slots H locs lsr hD => lv_astore_n hC.1 hC.2.1 hd rfl hD.2.2.2.2.has hn rfl (fun ls' hl' => kk.2.2 p l e R s m args below meth c c0 s0 mc ms hC cells slots H locs ls' ⟨hD.1, hD.2.1, hD.2.2.1, hD.2.2.2.1, Hls_st1 (v := .ref a) hC.2.2.2.2.2.2.1.2.2.2.2.2.2.2.2.2.2.2.2.2 hkl hl'⟩)⟩
theorem e_astore {i : Nat} {a : Nat} (hd : decode mi.2.1 pc = .ok (.astore i, 2)) (hn : i < mi.2.2.1) (hkl : nkl ls i = true) {ls' : List Value} (hs : st1 ls i (.ref a) = ls') (kk : En G d mi (pc + 2) ls' st h r h') : En G d mi pc ls (.ref a :: st) h r h' := by
  subst hs
  exact ⟨kk.1, kk.2.1, fun p l e R s m args below meth c c0 s0 mc ms hC cells slots H locs lsr hD => lv_astore hC.1 hC.2.1 hd hD.2.2.2.2.has hn rfl (fun ls' hl' => kk.2.2 p l e R s m args below meth c c0 s0 mc ms hC cells slots H locs ls' ⟨hD.1, hD.2.1, hD.2.2.1, hD.2.2.2.1, Hls_st1 (v := .ref a) hC.2.2.2.2.2.2.1.2.2.2.2.2.2.2.2.2.2.2.2.2 hkl hl'⟩)⟩
theorem e_astore_nN {k : Fin 4} (hd : decode mi.2.1 pc = .ok (.astore_n k, 1)) (hn : (k : Nat) < mi.2.2.1) (hkl : nkl ls (k : Nat) = true) {ls' : List Value} (hs : st1 ls (k : Nat) (.null) = ls') (kk : En G d mi (pc + 1) ls' st h r h') : En G d mi pc ls (.null :: st) h r h' := by
  subst hs
  exact ⟨kk.1, kk.2.1, fun p l e R s m args below meth c c0 s0 mc ms hC cells slots H locs lsr hD => lv_astore_nN hC.1 hC.2.1 hd rfl hD.2.2.2.2.has hn rfl (fun ls' hl' => kk.2.2 p l e R s m args below meth c c0 s0 mc ms hC cells slots H locs ls' ⟨hD.1, hD.2.1, hD.2.2.1, hD.2.2.2.1, Hls_st1 (v := .null) hC.2.2.2.2.2.2.1.2.2.2.2.2.2.2.2.2.2.2.2.2 hkl hl'⟩)⟩
theorem e_astoreN {i : Nat} (hd : decode mi.2.1 pc = .ok (.astore i, 2)) (hn : i < mi.2.2.1) (hkl : nkl ls i = true) {ls' : List Value} (hs : st1 ls i (.null) = ls') (kk : En G d mi (pc + 2) ls' st h r h') : En G d mi pc ls (.null :: st) h r h' := by
  subst hs
  exact ⟨kk.1, kk.2.1, fun p l e R s m args below meth c c0 s0 mc ms hC cells slots H locs lsr hD => lv_astoreN hC.1 hC.2.1 hd hD.2.2.2.2.has hn rfl (fun ls' hl' => kk.2.2 p l e R s m args below meth c c0 s0 mc ms hC cells slots H locs ls' ⟨hD.1, hD.2.1, hD.2.2.1, hD.2.2.2.1, Hls_st1 (v := .null) hC.2.2.2.2.2.2.1.2.2.2.2.2.2.2.2.2.2.2.2.2 hkl hl'⟩)⟩
theorem e_iinc {i : Nat} {n : Int} {x v : Int32} (hd : decode mi.2.1 pc = .ok (.iinc i n, 3)) (hl : ls[i]? = some (.int x)) (hv : x + Int32.ofInt n = v) (hn : i < mi.2.2.1) (hkl : nkl ls i = true) {ls' : List Value} (hs : st1 ls i (.int v) = ls') (kk : En G d mi (pc + 3) ls' st h r h') : En G d mi pc ls st h r h' := by
  subst hs
  obtain ⟨k, hk⟩ := List.getElem?_of_mem (show (i, Value.int x) ∈ lvp G ls from lvp_mem.mpr ⟨_, hl, (fun q => by cases q), rfl⟩)
  exact ⟨kk.1, kk.2.1, fun p l e R s m args below meth c c0 s0 mc ms hC cells slots H locs lsr hD => lv_iinc hC.1 hC.2.1 hd hD.2.2.2.2.has hk hv hn rfl (fun ls' hl' => kk.2.2 p l e R s m args below meth c c0 s0 mc ms hC cells slots H locs ls' ⟨hD.1, hD.2.1, hD.2.2.1, hD.2.2.2.1, Hls_st1 (v := .int v) hC.2.2.2.2.2.2.1.2.2.2.2.2.2.2.2.2.2.2.2.2 hkl hl'⟩)⟩
theorem e_if_eq {x : Int32} {off : Int} {tgt : Nat} (hd : decode mi.2.1 pc = .ok (.ifCond .eq off, 3)) (ht : (pc : Int) + off = (tgt : Int)) (kt : x = 0 → En G d mi tgt ls st h r h') (kf : ¬ (x = 0) → En G d mi (pc + 3) ls st h r h') : En G d mi pc ls (.int x :: st) h r h' := En.two kt kf (fun hx hb wt wf => lv_if_eq hx hb hd ht wt wf)
theorem e_icmp_eq {x y : Int32} {off : Int} {tgt : Nat} (hd : decode mi.2.1 pc = .ok (.if_icmp .eq off, 3)) (ht : (pc : Int) + off = (tgt : Int)) (kt : x = y → En G d mi tgt ls st h r h') (kf : ¬ (x = y) → En G d mi (pc + 3) ls st h r h') : En G d mi pc ls (.int y :: .int x :: st) h r h' := En.two kt kf (fun hx hb wt wf => lv_icmp_eq hx hb hd ht wt wf)
theorem e_if_ne {x : Int32} {off : Int} {tgt : Nat} (hd : decode mi.2.1 pc = .ok (.ifCond .ne off, 3)) (ht : (pc : Int) + off = (tgt : Int)) (kt : ¬ x = 0 → En G d mi tgt ls st h r h') (kf : x = 0 → En G d mi (pc + 3) ls st h r h') : En G d mi pc ls (.int x :: st) h r h' := En.two kf kt (fun hx hb wt wf => lv_if_ne hx hb hd ht wf wt)
theorem e_icmp_ne {x y : Int32} {off : Int} {tgt : Nat} (hd : decode mi.2.1 pc = .ok (.if_icmp .ne off, 3)) (ht : (pc : Int) + off = (tgt : Int)) (kt : ¬ x = y → En G d mi tgt ls st h r h') (kf : x = y → En G d mi (pc + 3) ls st h r h') : En G d mi pc ls (.int y :: .int x :: st) h r h' := En.two kf kt (fun hx hb wt wf => lv_icmp_ne hx hb hd ht wf wt)
theorem e_if_lt {x : Int32} {off : Int} {tgt : Nat} (hd : decode mi.2.1 pc = .ok (.ifCond .lt off, 3)) (ht : (pc : Int) + off = (tgt : Int)) (kt : x < 0 → En G d mi tgt ls st h r h') (kf : ¬ (x < 0) → En G d mi (pc + 3) ls st h r h') : En G d mi pc ls (.int x :: st) h r h' := En.two kt kf (fun hx hb wt wf => lv_if_lt hx hb hd ht wt wf)
theorem e_icmp_lt {x y : Int32} {off : Int} {tgt : Nat} (hd : decode mi.2.1 pc = .ok (.if_icmp .lt off, 3)) (ht : (pc : Int) + off = (tgt : Int)) (kt : x < y → En G d mi tgt ls st h r h') (kf : ¬ (x < y) → En G d mi (pc + 3) ls st h r h') : En G d mi pc ls (.int y :: .int x :: st) h r h' := En.two kt kf (fun hx hb wt wf => lv_icmp_lt hx hb hd ht wt wf)
theorem e_if_ge {x : Int32} {off : Int} {tgt : Nat} (hd : decode mi.2.1 pc = .ok (.ifCond .ge off, 3)) (ht : (pc : Int) + off = (tgt : Int)) (kt : 0 ≤ x → En G d mi tgt ls st h r h') (kf : ¬ (0 ≤ x) → En G d mi (pc + 3) ls st h r h') : En G d mi pc ls (.int x :: st) h r h' := En.two kt kf (fun hx hb wt wf => lv_if_ge hx hb hd ht wt wf)
theorem e_icmp_ge {x y : Int32} {off : Int} {tgt : Nat} (hd : decode mi.2.1 pc = .ok (.if_icmp .ge off, 3)) (ht : (pc : Int) + off = (tgt : Int)) (kt : y ≤ x → En G d mi tgt ls st h r h') (kf : ¬ (y ≤ x) → En G d mi (pc + 3) ls st h r h') : En G d mi pc ls (.int y :: .int x :: st) h r h' := En.two kt kf (fun hx hb wt wf => lv_icmp_ge hx hb hd ht wt wf)
theorem e_if_gt {x : Int32} {off : Int} {tgt : Nat} (hd : decode mi.2.1 pc = .ok (.ifCond .gt off, 3)) (ht : (pc : Int) + off = (tgt : Int)) (kt : 0 < x → En G d mi tgt ls st h r h') (kf : ¬ (0 < x) → En G d mi (pc + 3) ls st h r h') : En G d mi pc ls (.int x :: st) h r h' := En.two kt kf (fun hx hb wt wf => lv_if_gt hx hb hd ht wt wf)
theorem e_icmp_gt {x y : Int32} {off : Int} {tgt : Nat} (hd : decode mi.2.1 pc = .ok (.if_icmp .gt off, 3)) (ht : (pc : Int) + off = (tgt : Int)) (kt : y < x → En G d mi tgt ls st h r h') (kf : ¬ (y < x) → En G d mi (pc + 3) ls st h r h') : En G d mi pc ls (.int y :: .int x :: st) h r h' := En.two kt kf (fun hx hb wt wf => lv_icmp_gt hx hb hd ht wt wf)
theorem e_if_le {x : Int32} {off : Int} {tgt : Nat} (hd : decode mi.2.1 pc = .ok (.ifCond .le off, 3)) (ht : (pc : Int) + off = (tgt : Int)) (kt : x ≤ 0 → En G d mi tgt ls st h r h') (kf : ¬ (x ≤ 0) → En G d mi (pc + 3) ls st h r h') : En G d mi pc ls (.int x :: st) h r h' := En.two kt kf (fun hx hb wt wf => lv_if_le hx hb hd ht wt wf)
theorem e_icmp_le {x y : Int32} {off : Int} {tgt : Nat} (hd : decode mi.2.1 pc = .ok (.if_icmp .le off, 3)) (ht : (pc : Int) + off = (tgt : Int)) (kt : x ≤ y → En G d mi tgt ls st h r h') (kf : ¬ (x ≤ y) → En G d mi (pc + 3) ls st h r h') : En G d mi pc ls (.int y :: .int x :: st) h r h' := En.two kt kf (fun hx hb wt wf => lv_icmp_le hx hb hd ht wt wf)
theorem e_goto {off : Int} {tgt : Nat} (hd : decode mi.2.1 pc = .ok (.goto off, 3)) (ht : (pc : Int) + off = (tgt : Int)) (k : En G d mi tgt ls st h r h') : En G d mi pc ls st h r h' := k.pure (fun hx hb w => lv_goto hx hb hd ht w)
theorem e_ifnull {off : Int} {a : Nat} (hd : decode mi.2.1 pc = .ok (.ifnull off, 3)) (k : En G d mi (pc + 3) ls st h r h') : En G d mi pc ls (.ref a :: st) h r h' := k.pure (fun hx hb w => lv_ifnull hx hb hd w)
theorem e_ifnullN {off : Int} {tgt : Nat} (hd : decode mi.2.1 pc = .ok (.ifnull off, 3)) (ht : (pc : Int) + off = (tgt : Int)) (k : En G d mi tgt ls st h r h') : En G d mi pc ls (.null :: st) h r h' := k.pure (fun hx hb w => lv_ifnullN hx hb hd ht w)
theorem e_ifnonnull {off : Int} {tgt a : Nat} (hd : decode mi.2.1 pc = .ok (.ifnonnull off, 3)) (ht : (pc : Int) + off = (tgt : Int)) (k : En G d mi tgt ls st h r h') : En G d mi pc ls (.ref a :: st) h r h' := k.pure (fun hx hb w => lv_ifnonnull hx hb hd ht w)
theorem e_ifnonnullN {off : Int} (hd : decode mi.2.1 pc = .ok (.ifnonnull off, 3)) (k : En G d mi (pc + 3) ls st h r h') : En G d mi pc ls (.null :: st) h r h' := k.pure (fun hx hb w => lv_ifnonnullN hx hb hd w)
theorem e_acmp_eq {off : Int} {tgt a : Nat} (hd : decode mi.2.1 pc = .ok (.if_acmp .eq off, 3)) (ht : (pc : Int) + off = (tgt : Int)) (k : En G d mi tgt ls st h r h') : En G d mi pc ls (.ref a :: .ref a :: st) h r h' := k.pure (fun hx hb w => lv_acmp_eq (rx := some (ad G a)) (ry := some (ad G a)) hx hb hd ht (fun _ => w) (fun q => absurd rfl q))
theorem e_lookup {dflt : Int} {ps : Array (Int × Int)} {len : Nat} {x : Int32} {off : Int} {tgt : Nat} (hd : decode mi.2.1 pc = .ok (.lookupswitch dflt ps, len)) (hp : (ps.toList.zip (ps.toList.drop 1)).all (fun (a, next) => a.1 < next.1) = true) (ho : Op.lookupswitch.offset ps.toList dflt x.toInt = off) (ht : (pc : Int) + off = (tgt : Int)) (k : En G d mi tgt ls st h r h') : En G d mi pc ls (.int x :: st) h r h' := k.pure (fun hx hb w => lv_lookup hx hb hd hp ho ht w)
theorem e_tableOut {dflt lo hi : Int} {offs : Array Int} {len : Nat} {x : Int32} {tgt : Nat} (hd : decode mi.2.1 pc = .ok (.tableswitch dflt lo hi offs, len)) (hh : x.toInt < lo ∨ hi < x.toInt) (ht : (pc : Int) + dflt = (tgt : Int)) (k : En G d mi tgt ls st h r h') : En G d mi pc ls (.int x :: st) h r h' := k.pure (fun hx hb w => lv_tableOut hx hb hd hh ht w)
theorem e_tableIn {dflt lo hi : Int} {offs : Array Int} {len : Nat} {x : Int32} {off : Int} {tgt : Nat} (hd : decode mi.2.1 pc = .ok (.tableswitch dflt lo hi offs, len)) (h1 : ¬ x.toInt < lo) (h2 : ¬ hi < x.toInt) (ho : offs[(x.toInt - lo).toNat]? = some off) (ht : (pc : Int) + off = (tgt : Int)) (k : En G d mi tgt ls st h r h') : En G d mi pc ls (.int x :: st) h r h' := k.pure (fun hx hb w => lv_tableIn hx hb hd h1 h2 ho ht w)
theorem e_ldc {index : Nat} {v : Int32} (hw : Cond.constant mi.1 index v ∈ gT) (hd : decode mi.2.1 pc = .ok (.ldc index, 2)) (k : En G d mi (pc + 2) ls (.int v :: st) h r h') : En G d mi pc ls st h r h' := k.link (fun hx hb ho ht _ _ _ w => lv_ldc hx hb ho (ht _ hw) hd w)
theorem e_ldcw {index : Nat} {v : Int32} (hw : Cond.constant mi.1 index v ∈ gT) (hd : decode mi.2.1 pc = .ok (.ldc_w index, 3)) (k : En G d mi (pc + 3) ls (.int v :: st) h r h') : En G d mi pc ls st h r h' := k.link (fun hx hb ho ht _ _ _ w => lv_ldcw hx hb ho (ht _ hw) hd w)
theorem e_ldc2 {index : Nat} {v : Int64} (hw : Cond.constantLong mi.1 index v ∈ gT) (hd : decode mi.2.1 pc = .ok (.ldc2_w index, 3)) (k : En G d mi (pc + 3) ls (.long v :: st) h r h') : En G d mi pc ls st h r h' := k.link (fun hx hb ho ht _ _ _ w => lv_ldc2 hx hb ho (ht _ hw) hd w)
theorem e_ldcS {index i : Nat} {tx : String} (hi : strL[i]? = some (mi.1, index, tx)) (hi2 : i < 32) (hd : decode mi.2.1 pc = .ok (.ldc index, 2)) (k : En G d mi (pc + 2) ls (.ref i :: st) h r h') : En G d mi pc ls st h r h' := k.link (fun hx hb ho _ hK _ _ w => va_ldcS hx hb ho (hK.2.2.2.2.2.1 i _ hi) hd (by rw [show G.2.1 i = ad G i from (if_pos hi2).symm]; exact w))
def isRf : Value → Bool
  | .ref _ => true
  | .null => true
  | _ => false
def isC1 : Value → Bool
  | .ref _ => true
  | .null => true
  | .int _ => true
  | _ => false
theorem isC1_cat {v : Value} (hv : isC1 v = true) : (cv G v).category = 1 := by
  cases v <;> first | rfl | cases hv
theorem e_dup {v : Value} (hd : decode mi.2.1 pc = .ok (.dup, 1)) (hv : isC1 v = true) (k : En G d mi (pc + 1) ls (v :: v :: st) h r h') : En G d mi pc ls (v :: st) h r h' := k.pure (fun hx hb w => lv_dup hx hb hd (isC1_cat hv) w)
theorem e_pop {v : Value} (hd : decode mi.2.1 pc = .ok (.pop, 1)) (hv : isC1 v = true) (k : En G d mi (pc + 1) ls st h r h') : En G d mi pc ls (v :: st) h r h' := k.pure (fun hx hb w => lv_pop hx hb hd (isC1_cat hv) w)
theorem e_dup_x1 {v u : Value} (hd : decode mi.2.1 pc = .ok (.dup_x1, 1)) (hv : isC1 v = true) (hu : isC1 u = true) (k : En G d mi (pc + 1) ls (v :: u :: v :: st) h r h') : En G d mi pc ls (v :: u :: st) h r h' := k.pure (fun hx hb w => lv_dup_x1 hx hb hd (isC1_cat hv) (isC1_cat hu) w)
theorem e_dup2 {v u : Value} (hd : decode mi.2.1 pc = .ok (.dup2, 1)) (hv : isC1 v = true) (hu : isC1 u = true) (k : En G d mi (pc + 1) ls (v :: u :: v :: u :: st) h r h') : En G d mi pc ls (v :: u :: st) h r h' := k.pure (fun hx hb w => lv_dup2_11 hx hb hd (isC1_cat hv) (isC1_cat hu) w)
theorem g_aload_n {k : Fin 4} {v : Value} (hd : decode mi.2.1 pc = .ok (.aload_n k, 1)) (hl : ls[(k : Nat)]? = some v) (hv : isRf v = true) (kk : En G d mi (pc + 1) ls (v :: st) h r h') : En G d mi pc ls st h r h' := by
  cases v <;> first | exact e_aload_n hd hl kk | exact e_aload_nN hd hl kk | cases hv
theorem g_aload {i : Nat} {v : Value} (hd : decode mi.2.1 pc = .ok (.aload i, 2)) (hl : ls[i]? = some v) (hv : isRf v = true) (kk : En G d mi (pc + 2) ls (v :: st) h r h') : En G d mi pc ls st h r h' := by
  cases v <;> first | exact e_aload hd hl kk | exact e_aloadN hd hl kk | cases hv
theorem g_astore_n {k : Fin 4} {v : Value} (hd : decode mi.2.1 pc = .ok (.astore_n k, 1)) (hn : (k : Nat) < mi.2.2.1) (hkl : nkl ls k = true) (hv : isRf v = true) {ls' : List Value} (hs : st1 ls k v = ls') (kk : En G d mi (pc + 1) ls' st h r h') : En G d mi pc ls (v :: st) h r h' := by
  cases v <;> first | exact e_astore_n hd hn hkl hs kk | exact e_astore_nN hd hn hkl hs kk | cases hv
theorem g_astore {i : Nat} {v : Value} (hd : decode mi.2.1 pc = .ok (.astore i, 2)) (hn : i < mi.2.2.1) (hkl : nkl ls i = true) (hv : isRf v = true) {ls' : List Value} (hs : st1 ls i v = ls') (kk : En G d mi (pc + 2) ls' st h r h') : En G d mi pc ls (v :: st) h r h' := by
  cases v <;> first | exact e_astore hd hn hkl hs kk | exact e_astoreN hd hn hkl hs kk | cases hv
def b2i (b : Bool) : Int32 := if b then 1 else 0
theorem b2i_0 {b : Bool} : b2i b = 0 ↔ b = false := by cases b <;> decide
theorem b2i_1 {b : Bool} : b2i b = 1 ↔ b = true := by cases b <;> decide
theorem e_ifB_eq {b : Bool} {off : Int} {tgt : Nat} (hd : decode mi.2.1 pc = .ok (.ifCond .eq off, 3)) (ht : (pc : Int) + off = (tgt : Int)) (kt : b = false → En G d mi tgt ls st h r h') (kf : b = true → En G d mi (pc + 3) ls st h r h') : En G d mi pc ls (.int (b2i b) :: st) h r h' := e_if_eq hd ht (fun q => kt (b2i_0.mp q)) (fun q => kf (by cases b with | true => rfl | false => exact absurd rfl q))
theorem e_ifB_ne {b : Bool} {off : Int} {tgt : Nat} (hd : decode mi.2.1 pc = .ok (.ifCond .ne off, 3)) (ht : (pc : Int) + off = (tgt : Int)) (kt : b = true → En G d mi tgt ls st h r h') (kf : b = false → En G d mi (pc + 3) ls st h r h') : En G d mi pc ls (.int (b2i b) :: st) h r h' := e_if_ne hd ht (fun q => kt (by cases b with | true => rfl | false => exact absurd rfl q)) (fun q => kf (b2i_0.mp q))
theorem e_ci {x y : Int32} (e : x = y) (k : En G d mi pc ls (.int y :: st) h r h') : En G d mi pc ls (.int x :: st) h r h' := by rw [e]; exact k
theorem e_cl {x y : Int64} (e : x = y) (k : En G d mi pc ls (.long y :: st) h r h') : En G d mi pc ls (.long x :: st) h r h' := by rw [e]; exact k
theorem e_eq {ls2 st2 : List Value} {h2 : HS} (e1 : ls = ls2) (e2 : st = st2) (e3 : h = h2) (k : En G d mi pc ls2 st2 h2 r h') : En G d mi pc ls st h r h' := by rw [e1, e2, e3]; exact k
/-- fewer known locals -/
def lwk : List Value → List Value → Prop
  | [], [] => True
  | a :: as, b :: bs => (b = dum ∨ b = a) ∧ lwk as bs
  | _, _ => False
theorem lwk_get : ∀ (as bs : List Value), lwk as bs → ∀ (k : Nat) (v : Value), bs[k]? = some v → v ≠ dum → as[k]? = some v
  | [], [], _, k, v, h, _ => by simp at h
  | a :: as, b :: bs, hw, 0, v, h, hv => by
    cases h
    rcases hw.1 with e | e
    · exact absurd e hv
    · rw [e]; rfl
  | a :: as, b :: bs, hw, k + 1, v, h, hv => lwk_get as bs hw.2 k v h hv
  | [], _ :: _, hw, _, _, _, _ => hw.elim
  | _ :: _, [], hw, _, _, _, _ => hw.elim
theorem e_wk {ls2 : List Value} (hw : lwk ls ls2) (k : En G d mi pc ls2 st h r h') : En G d mi pc ls st h r h' :=
  ⟨k.1, k.2.1, fun p l e R s m args below meth c c0 s0 mc ms hC cells slots H locs lsr hD => k.2.2 p l e R s m args below meth c c0 s0 mc ms hC cells slots H locs lsr ⟨hD.1, hD.2.1, hD.2.2.1, hD.2.2.2.1, hD.2.2.2.2.1, hD.2.2.2.2.2.1, fun j v hj hv => hD.2.2.2.2.2.2 j v (lwk_get _ _ hw j v hj hv) hv⟩⟩
end
