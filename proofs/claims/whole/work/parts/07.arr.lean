def okTy (ty : FieldType) : Bool := match ty with
  | .float => false
  | .double => false
  | _ => true
theorem kfo {ci : Nat} {q : vw_C} (h : vwCl[ci]? = some q) : ∀ k, k < q.2.2 → okTy (tyC ci k) = true := by
  match ci, h with
  | 0, h => cases h; exact (by decide +kernel : ∀ k, k < 3 → okTy (tyJx4a65c k) = true)
  | 1, h => cases h; exact (by decide +kernel : ∀ k, k < 8 → okTy (tyX0 k) = true)
  | 2, h => cases h; exact (by decide +kernel : ∀ k, k < 8 → okTy (tyX1 k) = true)
  | 3, h => cases h; exact (by decide +kernel : ∀ k, k < 3 → okTy (tyX2 k) = true)
  | 4, h => cases h; exact (by decide +kernel : ∀ k, k < 5 → okTy (tyX3 k) = true)
  | 5, h => cases h; exact (by decide +kernel : ∀ k, k < 8 → okTy (tyX4 k) = true)
  | 6, h => cases h; exact (by decide +kernel : ∀ k, k < 5 → okTy (tyX5 k) = true)
  | 7, h => cases h; exact (by decide +kernel : ∀ k, k < 9 → okTy (tyX6 k) = true)
  | 8, h => cases h; exact (by decide +kernel : ∀ k, k < 8 → okTy (tyX7 k) = true)
  | 9, h => cases h; exact (by decide +kernel : ∀ k, k < 8 → okTy (tyX8 k) = true)
  | 10, h => cases h; exact (by decide +kernel : ∀ k, k < 4 → okTy (tyX9 k) = true)
  | 11, h => cases h; exact (by decide +kernel : ∀ k, k < 8 → okTy (tyX10 k) = true)
  | 12, h => cases h; exact (by decide +kernel : ∀ k, k < 20 → okTy (tyX11 k) = true)
  | 13, h => cases h; exact (by decide +kernel : ∀ k, k < 57 → okTy (tyX12 k) = true)
  | k + 14, h => simp [vwCl] at h
theorem rdv_new0 {G : GE} {h : HS} {kd ln ns k : Nat} {ty : FieldType} (ho : okTy ty = true) : defaultValue ty = cv G (rdv (hNew h kd ln ns) (hN h) k ty) := by
  cases ty <;> simp_all [rdv, hNew, hI, hL, hR, hN, okTy, defaultValue, cv, va_rf]
theorem rdv_newb {h : HS} {kd ln ns b : Nat} (hb : b ≠ hN h) (k : Nat) (ty : FieldType) : rdv (hNew h kd ln ns) b k ty = rdv h b k ty := by
  have hb' : ¬ b = h.1.1 := hb
  cases ty <;> simp [rdv, hNew, hI, hL, hR, hN, hb']
theorem Rel.new {G : GE} {h : HS} {H H2 : Heap} {kd ln ns : Nat} (hR : Rel G h H) (hkd : kd ≤ 19) (z : H2.size = H.size + 1) (oq : ∀ q : Nat, q < H.size → H2[q]? = H[q]?) (hc : cellOK G (hNew h kd ln ns) (hN h) H2) : Rel G (hNew h kd ln ns) H2 := by
  have hs := hR.sz
  obtain ⟨a1, a2, a3⟩ := hR
  have eN : hN (hNew h kd ln ns) = hN h + 1 := rfl
  have eT : ∀ b, b ≠ hN h → hT (hNew h kd ln ns) b = hT h b := fun b hb => va_up_ne _ _ hb
  have eL : ∀ b, b ≠ hN h → hLn (hNew h kd ln ns) b = hLn h b := fun b hb => va_up_ne _ _ hb
  refine ⟨by rw [eN]; omega, by rw [eN]; omega, fun b hb => ?_⟩
  by_cases e : b = hN h
  · subst e
    exact ⟨a1, by rw [eN]; omega, by rw [show hT (hNew h kd ln ns) (hN h) = kd from va_up_self _ _ _]; exact hkd, hc⟩
  · rw [eT b e] at hb
    obtain ⟨b1, b2, b3, b4⟩ := a3 b hb
    refine ⟨b1, by rw [eN]; omega, by rw [eT b e]; exact b3, ?_⟩
    have hlt : ad G b < H.size := by rw [← hs, ad_hi b1, ad_hi a1]; omega
    have hq := oq (ad G b) hlt
    unfold cellOK at b4 ⊢
    rw [eT b e, eL b e]
    refine ⟨fun q => ?_, fun q => ?_⟩
    · obtain ⟨x, x1, x2⟩ := b4.1 q
      exact ⟨x, x1, (x2.kept hq).to (fun k _ => by rw [rdv_newb e])⟩
    · rw [hq, b4.2 q]
      congr 2
      funext j
      rw [rdv_newb e]
theorem arr_of {G : GE} {s : State} (hK : KS G s) {kd : Nat} (h1 : 14 < kd) (h2 : kd ≤ 19) : ArrOfT s (G.2.2.2.2 kd) (elT kd) ∧ va_RA s (G.2.2.2.2 kd) (elT kd) := by
  have h := hK.1.2
  rcases (show kd = 15 ∨ kd = 16 ∨ kd = 17 ∨ kd = 18 ∨ kd = 19 by omega) with e | e | e | e | e <;> subst e
  · exact h 0 _ rfl
  · exact h 1 _ rfl
  · exact h 2 _ rfl
  · exact h 3 _ rfl
  · exact h 4 _ rfl
section
variable {G : GE} {d : Nat} {mi : MI} {pc : Nat} {ls st : List Value} {h h' : HS} {r : Option Value}
theorem Rel.ar {H : Heap} {a kd : Nat} (hR : Rel G h H) (hk : hT h a = kd) (hkd : 14 < kd) : H[ad G a]? = some (arrV (G.2.2.2.2 kd) (hLn h a) (fun j => cv G (rdv h a j (elT kd)))) ∧ kd ≤ 19 := by
  subst hk
  obtain ⟨p1, p2, p3, p4⟩ := hR.2.2 a (by omega)
  exact ⟨p4.2 hkd, p3⟩
theorem e_alen {a kd : Nat} (hk : hT h a = kd) (hkd : 14 < kd) (hd : decode mi.2.1 pc = .ok (.arraylength, 1)) (kk : En G d mi (pc + 1) ls (.int (nI (hLn h a)) :: st) h r h') : En G d mi pc ls (.ref a :: st) h r h' :=
  kk.link (@fun p l e R s m args below meth c H locs cells slots Q lsr hx hb ho ht hK hS hRel w => by
    obtain ⟨hc, hle⟩ := hRel.ar hk hkd
    exact W.alen hx hb hc ((arr_of hK hkd hle).1 _ _) (by rw [arrV_size]; rfl) rfl rfl hd w)
theorem arr_in {cA : ClassId} {n : Nat} {f : Nat → Value} {i : Int32} (hin : vp_in i n) : ¬ (i < 0 ∨ (arrV cA n f).slots.size ≤ i.toNatClampNeg) := by rw [arrV_size]; exact hin
theorem arr_rd {cA : ClassId} {n : Nat} {f : Nat → Value} {i : Int32} (hin : vp_in i n) : (arrV cA n f).slots[i.toNatClampNeg]? = some (f i.toNatClampNeg) := arrV_read _ _ (Nat.not_le.mp fun q => hin (Or.inr q))
theorem e_iald {a : Nat} {i : Int32} (hk : hT h a = 15) (hin : vp_in i (hLn h a)) (hd : decode mi.2.1 pc = .ok (.iaload, 1)) (kk : En G d mi (pc + 1) ls (.int (hI h a i.toNatClampNeg) :: st) h r h') : En G d mi pc ls (.int i :: .ref a :: st) h r h' :=
  kk.link (@fun p l e R s m args below meth c H locs cells slots Q lsr hx hb ho ht hK hS hRel w => by
    obtain ⟨hc, hle⟩ := hRel.ar hk (by decide)
    exact W.iald hx hb hc ((arr_of hK (by decide) hle).1 _ _) (fun q => by cases q) (arr_in hin) (arr_rd hin) rfl rfl hd w)
theorem e_zald {a : Nat} {i : Int32} (hk : hT h a = 17) (hin : vp_in i (hLn h a)) (hd : decode mi.2.1 pc = .ok (.baload, 1)) (kk : En G d mi (pc + 1) ls (.int (hI h a i.toNatClampNeg) :: st) h r h') : En G d mi pc ls (.int i :: .ref a :: st) h r h' :=
  kk.link (@fun p l e R s m args below meth c H locs cells slots Q lsr hx hb ho ht hK hS hRel w => by
    obtain ⟨hc, hle⟩ := hRel.ar hk (by decide)
    exact W.zald hx hb hc ((arr_of hK (by decide) hle).1 _ _) (fun q => by cases q) (arr_in hin) (arr_rd hin) rfl rfl hd w)
theorem e_lald {a : Nat} {i : Int32} (hk : hT h a = 16) (hin : vp_in i (hLn h a)) (hd : decode mi.2.1 pc = .ok (.laload, 1)) (kk : En G d mi (pc + 1) ls (.long (hL h a i.toNatClampNeg) :: st) h r h') : En G d mi pc ls (.int i :: .ref a :: st) h r h' :=
  kk.link (@fun p l e R s m args below meth c H locs cells slots Q lsr hx hb ho ht hK hS hRel w => by
    obtain ⟨hc, hle⟩ := hRel.ar hk (by decide)
    exact W.lald hx hb hc ((arr_of hK (by decide) hle).1 _ _) (fun q => by cases q) (arr_in hin) (arr_rd hin) rfl rfl hd w)
theorem e_aald {a kd : Nat} {i : Int32} {v : Value} (hk : hT h a = kd) (hkd : 17 < kd) (hin : vp_in i (hLn h a)) (hv : va_rf (hR h a i.toNatClampNeg) = v) (hd : decode mi.2.1 pc = .ok (.aaload, 1)) (kk : En G d mi (pc + 1) ls (v :: st) h r h') : En G d mi pc ls (.int i :: .ref a :: st) h r h' := by
  subst hv
  refine kk.link (@fun p l e R s m args below meth c H locs cells slots Q lsr hx hb ho ht hK hS hRel w => ?_)
  obtain ⟨hc, hle⟩ := hRel.ar hk (by omega)
  rcases (show kd = 18 ∨ kd = 19 by omega) with e | e <;> subst e
  · exact W.aald hx hb hc ((arr_of hK (by decide) hle).1 _ _) rfl (fun q => by cases q) (arr_in hin) (arr_rd hin) rfl rfl hd w
  · exact W.aald hx hb hc ((arr_of hK (by decide) hle).1 _ _) rfl (fun q => by cases q) (arr_in hin) (arr_rd hin) rfl rfl hd w
theorem Rel.put {H H2 : Heap} {h2 : HS} {a kd j : Nat} {v : Value} (hR : Rel G h H) (hk : hT h a = kd) (hkd : 14 < kd) (e1 : hN h2 = hN h) (e2 : ∀ b, hT h2 b = hT h b) (e3 : ∀ b, hLn h2 b = hLn h b) (e4 : ∀ b, b ≠ a → ∀ k ty, rdv h2 b k ty = rdv h b k ty) (e5 : ∀ k, k ≠ j → rdv h2 a k (elT kd) = rdv h a k (elT kd)) (e6 : rdv h2 a j (elT kd) = v) (g1 : H2[ad G a]? = some ((arrV (G.2.2.2.2 kd) (hLn h a) (fun j => cv G (rdv h a j (elT kd)))).setSlot j (cv G v))) (g2 : H2.size = H.size) (g3 : ∀ q : Nat, q ≠ ad G a → H2[q]? = H[q]?) : Rel G h2 H2 := by
  refine hR.upd (by omega) e1 e2 e3 e4 g2 g3 ⟨fun q => absurd q (by rw [e2]; omega), fun _ => ?_⟩
  rw [e2, e3, hk, g1, arrV_store]
  congr 2
  funext q
  by_cases hq : q = j
  · subst hq
    rw [e6]
    simp [updV]
  · rw [e5 q hq]
    simp [updV, hq]
theorem Rel.Aa {H : Heap} {a : Nat} (hR : Rel G h H) (hk : hT h a ≠ 0) : Ad G (ad G a) := by
  show G.1 ≤ ad G a
  rw [ad_hi (hR.2.2 a hk).1]
  omega
theorem e_iast {a : Nat} {i x : Int32} (hk : hT h a = 15) (hin : vp_in i (hLn h a)) (hd : decode mi.2.1 pc = .ok (.iastore, 1)) (kk : En G d mi (pc + 1) ls st (sI h a i.toNatClampNeg x) r h') : En G d mi pc ls (.int x :: .int i :: .ref a :: st) h r h' :=
  ⟨kk.1, kk.2.1, fun p l e R s m args below meth c c0 s0 mc ms hC cells slots H locs lsr hD => by
    obtain ⟨hc, hle⟩ := hD.2.2.2.1.ar hk (by decide)
    refine W.iast hC.1 hC.2.1 hc ((arr_of hC.2.2.2.2.2.2.1 (by decide) hle).1 _ _) (fun q => by cases q) (arr_in hin) rfl rfl hd (fun H2 g1 g2 g3 => ?_)
    exact kk.2.2 p l e R s m args below meth c c0 s0 mc ms hC cells slots H2 _ lsr ⟨hD.1, hD.2.1, hD.2.2.1.put g2 g3 (hD.2.2.2.1.Aa (by omega)), hD.2.2.2.1.put (v := .int x) hk (by decide) rfl (fun _ => rfl) (fun _ => rfl) (fun b hb j ty => rdv_sI hb j ty) (fun j hj => rdv_sIk hj _) (by simp [rdv, elT, sI, hI, up2]) g1 g2 g3, hD.2.2.2.2⟩⟩
theorem e_zast {a : Nat} {i x : Int32} (hk : hT h a = 17) (hin : vp_in i (hLn h a)) (hx01 : x = 0 ∨ x = 1) (hd : decode mi.2.1 pc = .ok (.bastore, 1)) (kk : En G d mi (pc + 1) ls st (sI h a i.toNatClampNeg x) r h') : En G d mi pc ls (.int x :: .int i :: .ref a :: st) h r h' :=
  ⟨kk.1, kk.2.1, fun p l e R s m args below meth c c0 s0 mc ms hC cells slots H locs lsr hD => by
    obtain ⟨hc, hle⟩ := hD.2.2.2.1.ar hk (by decide)
    refine W.zast hC.1 hC.2.1 hc ((arr_of hC.2.2.2.2.2.2.1 (by decide) hle).1 _ _) (fun q => by cases q) (arr_in hin) rfl rfl hd (fun H2 g1 g2 g3 => ?_)
    exact kk.2.2 p l e R s m args below meth c c0 s0 mc ms hC cells slots H2 _ lsr ⟨hD.1, hD.2.1, hD.2.2.1.put g2 g3 (hD.2.2.2.1.Aa (by omega)), hD.2.2.2.1.put (v := .int x) hk (by decide) rfl (fun _ => rfl) (fun _ => rfl) (fun b hb j ty => rdv_sI hb j ty) (fun j hj => rdv_sIk hj _) (by simp [rdv, elT, sI, hI, up2]) (by rw [g1]; rcases hx01 with q | q <;> subst q <;> rfl) g2 g3, hD.2.2.2.2⟩⟩
theorem e_last {a : Nat} {i : Int32} {x : Int64} (hk : hT h a = 16) (hin : vp_in i (hLn h a)) (hd : decode mi.2.1 pc = .ok (.lastore, 1)) (kk : En G d mi (pc + 1) ls st (sL h a i.toNatClampNeg x) r h') : En G d mi pc ls (.long x :: .int i :: .ref a :: st) h r h' :=
  ⟨kk.1, kk.2.1, fun p l e R s m args below meth c c0 s0 mc ms hC cells slots H locs lsr hD => by
    obtain ⟨hc, hle⟩ := hD.2.2.2.1.ar hk (by decide)
    refine W.last hC.1 hC.2.1 hc ((arr_of hC.2.2.2.2.2.2.1 (by decide) hle).1 _ _) (fun q => by cases q) (arr_in hin) rfl rfl hd (fun H2 g1 g2 g3 => ?_)
    exact kk.2.2 p l e R s m args below meth c c0 s0 mc ms hC cells slots H2 _ lsr ⟨hD.1, hD.2.1, hD.2.2.1.put g2 g3 (hD.2.2.2.1.Aa (by omega)), hD.2.2.2.1.put (v := .long x) hk (by decide) rfl (fun _ => rfl) (fun _ => rfl) (fun b hb j ty => rdv_sL hb j ty) (fun j hj => rdv_sLk hj _) (by simp [rdv, elT, sL, hL, up2]) g1 g2 g3, hD.2.2.2.2⟩⟩
theorem e_aastO {a b cj : Nat} {i : Int32} {q : vw_C} (hk : hT h a = 18) (hin : vp_in i (hLn h a)) (hb : hT h b = cj + 1) (hcj : cj < 14) (hq : vwCl[cj]? = some q) (hca : (q.1, "java/lang/Object") ∈ castL) (hd : decode mi.2.1 pc = .ok (.aastore, 1)) (kk : En G d mi (pc + 1) ls st (sR h a i.toNatClampNeg (some b)) r h') : En G d mi pc ls (.ref b :: .int i :: .ref a :: st) h r h' :=
  ⟨kk.1, kk.2.1, fun p l e R s m args below meth c c0 s0 mc ms hC cells slots H locs lsr hD => by
    have hRel := hD.2.2.2.1
    have hK : KS G s := hC.2.2.2.2.2.2.1
    obtain ⟨hc, hle⟩ := hRel.ar hk (by decide)
    obtain ⟨cellV, g1, g2, g3, -⟩ := hRel.ob hb hcj hq
    have hcls := (hK.1.1 cj q hq).2
    obtain ⟨kA, comp, k1, k2, k3, -⟩ := (arr_of hK (kd := 18) (by decide) hle).2
    obtain ⟨kE, hkE, -⟩ := Vm.findClass_spec k3
    obtain ⟨c1, t1, f1, f2, f3⟩ := Cond.castable_spec (va_Nw.use (A := args) rfl (hK.2.2.1 _ hca))
    cases hcls.1.symm.trans f1
    cases k3.symm.trans f2
    obtain ⟨-, kC, hkC, hkind⟩ := hcls
    have hlt : i.toNatClampNeg < hLn h a := Nat.not_le.mp fun q => hin (Or.inr q)
    refine W.aast hC.1 hC.2.1 hc (fun q z => by cases z) (fun z => by cases z) k1 k2 rfl hkE ⟨fun q => hin (Or.inl q), by rw [arrV_size]; exact hlt⟩ g1 (fun q z => by rw [g3] at z; cases z) (by rw [g2]; exact hkC) (by rw [g2]; exact f3) rfl rfl hd (fun H2 y1 y2 y3 => ?_)
    exact kk.2.2 p l e R s m args below meth c c0 s0 mc ms hC cells slots H2 _ lsr ⟨hD.1, hD.2.1, hD.2.2.1.put y2 y3 (hRel.Aa (by omega)), hRel.put (v := .ref b) hk (by decide) rfl (fun _ => rfl) (fun _ => rfl) (fun b hb j ty => rdv_sR hb j ty) (fun j hj => rdv_sRk hj _) (by simp [rdv, elT, sR, hR, up2, va_rf]) y1 y2 y3, hD.2.2.2.2⟩⟩
theorem S_new {s : State} {H H2 : Heap} {locs : List Loc} (hS : va_S (Ad G) s.heap H locs) (z : H2.size = H.size + 1) (oq : ∀ q : Nat, q < H.size → H2[q]? = H[q]?) : va_S (Ad G) s.heap H2 locs :=
  ⟨Nat.le_trans hS.1 (by omega), fun x h1 h2 => (oq x (Nat.lt_of_lt_of_le h1 hS.1)).trans (hS.2.1 x h1 h2), hS.2.2⟩
theorem e_new {ci index : Nat} {C : String} {T : u_T} {N : Nat} (hc : vwCl[ci]? = some (C, T, N)) (hci : ci < 14) (w1 : Cond.classLink mi.1 index C ∈ gT) (w2 : Cond.instantiable C N ∈ gT) (w3 : Cond.initialized C ∈ gT) (hd : decode mi.2.1 pc = .ok (.new index, 3)) (kk : En G d mi (pc + 3) ls (.ref (hN h) :: st) (hNew h (ci + 1) 0 N) r h') : En G d mi pc ls st h r h' := by
  have k1 : hN h + 1 ≤ hN h' := kk.1
  have k2 : hS h + N ≤ hS h' := kk.2.1
  refine ⟨by omega, by omega, fun p l e R s m args below meth c c0 s0 mc ms hC cells slots H locs lsr hD => ?_⟩
  have hCC := hC
  obtain ⟨hx, hb, hr, hml, ho, ht, hK, hlk, hin, r1, r2, r3, r4, r5, r6⟩ := hC
  obtain ⟨d1, d2, hS, hRel, hl⟩ := hD
  have hKn := hK.1.1 ci _ hc
  refine W.newcK hx hb ho (ht _ w1) (ht _ w2) (ht _ w3) rfl hd (by omega) (by omega) hKn.2.1 rfl (fun H1 kC hkC e1 z1 o1 => ?_)
  have hsz := hRel.sz
  have w := kk.2.2 p l e R s m args below meth c c0 s0 mc ms hCC (cells + 1) (slots + N) H1 locs lsr ⟨by show hN h + 1 = _; omega, by show _root_.Jvm.Pilot.CThreeBallsLaw_law_r5125_ff5d20.hS h + N = _; omega, S_new hS z1 o1, hRel.new (by omega) z1 o1 ⟨fun _ => ?_, fun q => absurd q (by rw [show hT (hNew h (ci + 1) 0 N) (hN h) = ci + 1 from va_up_self _ _ _]; omega)⟩, hl⟩
  · rw [← hsz]
    exact w
  · rw [show hT (hNew h (ci + 1) 0 N) (hN h) = ci + 1 from va_up_self _ _ _, Nat.add_sub_cancel]
    refine ⟨_, hc, ?_⟩
    rw [hsz]
    exact (u_born (tyC ci) ht (kfs hc).1 hKn hkC e1 (kfs hc).2.1).to (fun k hk => rdv_new0 (kfo hc k hk))
theorem e_newa {atype : ArrayType} {n : Int32} {kd : Nat} (hty : newarray.typeOf atype = elT kd) (hkd : kd = 15 ∨ kd = 16 ∨ kd = 17) (w1 : Cond.arrayClass (newarray.typeOf atype) ∈ gT) (hn : ¬ n < 0) (hs : n.toNatClampNeg ≤ 60000000) (hd : decode mi.2.1 pc = .ok (.newarray atype, 2)) (kk : En G d mi (pc + 2) ls (.ref (hN h) :: st) (hNew h kd n.toNatClampNeg n.toNatClampNeg) r h') : En G d mi pc ls (.int n :: st) h r h' := by
  have k1 : hN h + 1 ≤ hN h' := kk.1
  have k2 : hS h + n.toNatClampNeg ≤ hS h' := kk.2.1
  refine ⟨by omega, by omega, fun p l e R s m args below meth c c0 s0 mc ms hC cells slots H locs lsr hD => ?_⟩
  have hCC := hC
  obtain ⟨hx, hb, hr, hml, ho, ht, hK, hlk, hin, r1, r2, r3, r4, r5, r6⟩ := hC
  obtain ⟨d1, d2, hS, hRel, hl⟩ := hD
  refine va_newaK hx hb (ht _ w1) rfl hd rfl hn rfl (by rw [hty]; rcases hkd with e | e | e <;> subst e <;> simp only [elT, componentBytes] <;> omega) (by omega) (by omega) rfl (fun H1 cA e1 z1 o1 hA hfc => ?_)
  have hsz := hRel.sz
  have hRA := (arr_of hK (kd := kd) (by omega) (by omega)).2
  have hcA : cA = G.2.2.2.2 kd := by
    rw [hty] at hfc
    rcases hkd with e | e | e <;> subst e <;> exact Option.some.inj (hfc.symm.trans hRA)
  have w := kk.2.2 p l e R s m args below meth c c0 s0 mc ms hCC (cells + 1) (slots + n.toNatClampNeg) H1 locs lsr ⟨by show hN h + 1 = _; omega, by show _root_.Jvm.Pilot.CThreeBallsLaw_law_r5125_ff5d20.hS h + n.toNatClampNeg = _; omega, S_new hS z1 o1, hRel.new (by omega) z1 o1 ⟨fun q => absurd q (by rw [show hT (hNew h kd n.toNatClampNeg n.toNatClampNeg) (hN h) = kd from va_up_self _ _ _]; omega), fun _ => ?_⟩, hl⟩
  · rw [← hsz] at *
    exact w
  · rw [show hT (hNew h kd n.toNatClampNeg n.toNatClampNeg) (hN h) = kd from va_up_self _ _ _, show hLn (hNew h kd n.toNatClampNeg n.toNatClampNeg) (hN h) = n.toNatClampNeg from va_up_self _ _ _, hsz, e1, hcA, hty]
    congr 2
    funext j
    exact rdv_new0 (by rcases hkd with e | e | e <;> subst e <;> rfl)
end
