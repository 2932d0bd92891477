theorem ad_hi {G : GE} {a : Nat} (h : 32 ≤ a) : ad G a = G.1 + (a - 32) := if_neg (by omega)
theorem ad_lo {G : GE} {a : Nat} (h : a < 32) : ad G a = G.2.1 a := if_pos h
theorem Rel.sz {G : GE} {h : HS} {H : Heap} (hR : Rel G h H) : ad G (hN h) = H.size := by
  rw [ad_hi hR.1]
  have := hR.2.1
  have := hR.1
  omega
theorem Rel.upd {G : GE} {h h2 : HS} {H H2 : Heap} {a : Nat} (hR : Rel G h H) (ha : hT h a ≠ 0) (e1 : hN h2 = hN h) (e2 : ∀ b, hT h2 b = hT h b) (e3 : ∀ b, hLn h2 b = hLn h b) (e4 : ∀ b, b ≠ a → ∀ k ty, rdv h2 b k ty = rdv h b k ty) (z : H2.size = H.size) (oq : ∀ q : Nat, q ≠ ad G a → H2[q]? = H[q]?) (hc : cellOK G h2 a H2) : Rel G h2 H2 := by
  obtain ⟨a1, a2, a3⟩ := hR
  obtain ⟨p1, -⟩ := a3 a ha
  refine ⟨by rw [e1]; exact a1, by rw [e1, z]; exact a2, fun b hb => ?_⟩
  rw [e2] at hb
  obtain ⟨b1, b2, b3, b4⟩ := a3 b hb
  refine ⟨b1, by rw [e1]; exact b2, by rw [e2]; exact b3, ?_⟩
  by_cases e : b = a
  · subst e; exact hc
  · have hq := oq (ad G b) (by rw [ad_hi b1, ad_hi p1]; omega)
    unfold cellOK at b4 ⊢
    rw [e2, e3]
    refine ⟨fun q => ?_, fun q => ?_⟩
    · obtain ⟨x, x1, x2⟩ := b4.1 q
      exact ⟨x, x1, (x2.kept hq).to (fun k _ => by rw [e4 b e])⟩
    · rw [hq, b4.2 q]
      congr 2
      funext j
      rw [e4 b e]
theorem rdv_sI {h : HS} {a k b : Nat} {v : Int32} (hb : b ≠ a) (j : Nat) (ty : FieldType) : rdv (sI h a k v) b j ty = rdv h b j ty := by
  cases ty <;> simp [rdv, sI, hI, hL, hR, up2, hb]
theorem rdv_sL {h : HS} {a k b : Nat} {v : Int64} (hb : b ≠ a) (j : Nat) (ty : FieldType) : rdv (sL h a k v) b j ty = rdv h b j ty := by
  cases ty <;> simp [rdv, sL, hI, hL, hR, up2, hb]
theorem rdv_sR {h : HS} {a k b : Nat} {v : Option Nat} (hb : b ≠ a) (j : Nat) (ty : FieldType) : rdv (sR h a k v) b j ty = rdv h b j ty := by
  cases ty <;> simp [rdv, sR, hI, hL, hR, up2, hb]
theorem rdv_sIk {h : HS} {a k j : Nat} {v : Int32} (hb : j ≠ k) (ty : FieldType) : rdv (sI h a k v) a j ty = rdv h a j ty := by
  cases ty <;> simp [rdv, sI, hI, hL, hR, up2, hb]
theorem rdv_sLk {h : HS} {a k j : Nat} {v : Int64} (hb : j ≠ k) (ty : FieldType) : rdv (sL h a k v) a j ty = rdv h a j ty := by
  cases ty <;> simp [rdv, sL, hI, hL, hR, up2, hb]
theorem rdv_sRk {h : HS} {a k j : Nat} {v : Option Nat} (hb : j ≠ k) (ty : FieldType) : rdv (sR h a k v) a j ty = rdv h a j ty := by
  cases ty <;> simp [rdv, sR, hI, hL, hR, up2, hb]
theorem gT_of {w : Cond} (i : Nat) (h : tables_1[i]? = some w) (hg : goodWord w = true) : w ∈ gT :=
  List.mem_filter.mpr ⟨List.mem_append_right _ (List.mem_of_getElem? h), hg⟩
theorem gT_sel {y : MethodName} (i n : Nat) (h : lw_privs[i]? = some (y, n)) : Cond.selects y.cls y y ∈ gT :=
  List.mem_filter.mpr ⟨List.mem_append_left _ (List.mem_map.mpr ⟨(y, n), List.mem_of_getElem? h, rfl⟩), rfl⟩
theorem gT_good : ∀ w ∈ gT, (w.onTables && w.keeps) = true ∨ ∃ ty, w = .arrayClass ty := fun w h => good_of_word (List.mem_filter.mp h).2
theorem tb_in {ws : List Cond} (h : ws.all (fun w => decide (w ∈ tables_1) && goodWord w) = true) : ∀ w ∈ ws, w ∈ gT := by
  intro w hw
  have h1 := List.all_eq_true.mp h w hw
  simp only [Bool.and_eq_true, decide_eq_true_eq] at h1
  exact List.mem_filter.mpr ⟨List.mem_append_right _ h1.1, h1.2⟩
theorem wi0 : ∀ w ∈ u_ws RJx4a65c TJx4a65c 3, w ∈ gT := tb_in (by decide +kernel)
theorem wi1 : ∀ w ∈ u_ws RX0 TX0 8, w ∈ gT := tb_in (by decide +kernel)
theorem wi2 : ∀ w ∈ u_ws RX1 TX1 8, w ∈ gT := tb_in (by decide +kernel)
theorem wi3 : ∀ w ∈ u_ws RX2 TX2 3, w ∈ gT := tb_in (by decide +kernel)
theorem wi4 : ∀ w ∈ u_ws RX3 TX3 5, w ∈ gT := tb_in (by decide +kernel)
theorem wi5 : ∀ w ∈ u_ws RX4 TX4 8, w ∈ gT := tb_in (by decide +kernel)
theorem wi6 : ∀ w ∈ u_ws RX5 TX5 5, w ∈ gT := tb_in (by decide +kernel)
theorem wi7 : ∀ w ∈ u_ws RX6 TX6 9, w ∈ gT := tb_in (by decide +kernel)
theorem wi8 : ∀ w ∈ u_ws RX7 TX7 8, w ∈ gT := tb_in (by decide +kernel)
theorem wi9 : ∀ w ∈ u_ws RX8 TX8 8, w ∈ gT := tb_in (by decide +kernel)
theorem wi10 : ∀ w ∈ u_ws RX9 TX9 4, w ∈ gT := tb_in (by decide +kernel)
theorem wi11 : ∀ w ∈ u_ws RX10 TX10 8, w ∈ gT := tb_in (by decide +kernel)
theorem wi12 : ∀ w ∈ u_ws RX11 TX11 20, w ∈ gT := tb_in (by decide +kernel)
theorem wi13 : ∀ w ∈ u_ws RX12 TX12 57, w ∈ gT := tb_in (by decide +kernel)
/-- what the tables say of the fields of a kind -/
def KF (ci : Nat) (q : vw_C) : Prop := (∀ w ∈ u_ws q.1 q.2.1 q.2.2, w ∈ gT) ∧ (∀ k, k < q.2.2 → parseFieldDescriptor (q.2.1 k).2.2.1 = some (tyC ci k)) ∧ (∀ a, a < q.2.2 → ∀ b, b < q.2.2 → a ≠ b → (q.2.1 a).2.1 ≠ (q.2.1 b).2.1)
theorem kfs {ci : Nat} {q : vw_C} (h : vwCl[ci]? = some q) : KF ci q := by
  match ci, h with
  | 0, h => cases h; exact ⟨wi0, tyJx4a65c_ok, nmJx4a65c⟩
  | 1, h => cases h; exact ⟨wi1, tyX0_ok, nmX0⟩
  | 2, h => cases h; exact ⟨wi2, tyX1_ok, nmX1⟩
  | 3, h => cases h; exact ⟨wi3, tyX2_ok, nmX2⟩
  | 4, h => cases h; exact ⟨wi4, tyX3_ok, nmX3⟩
  | 5, h => cases h; exact ⟨wi5, tyX4_ok, nmX4⟩
  | 6, h => cases h; exact ⟨wi6, tyX5_ok, nmX5⟩
  | 7, h => cases h; exact ⟨wi7, tyX6_ok, nmX6⟩
  | 8, h => cases h; exact ⟨wi8, tyX7_ok, nmX7⟩
  | 9, h => cases h; exact ⟨wi9, tyX8_ok, nmX8⟩
  | 10, h => cases h; exact ⟨wi10, tyX9_ok, nmX9⟩
  | 11, h => cases h; exact ⟨wi11, tyX10_ok, nmX10⟩
  | 12, h => cases h; exact ⟨wi12, tyX11_ok, nmX11⟩
  | 13, h => cases h; exact ⟨wi13, tyX12_ok, nmX12⟩
  | k + 14, h => simp [vwCl] at h
def FL (own : String) (index ci k : Nat) : Prop := ∃ (C ref : String) (T : u_T) (N : Nat), vwCl[ci]? = some (C, T, N) ∧ k < N ∧ ci < 14 ∧ Cond.fieldLink own index ref (T k).2.1 (T k).2.2.1 ∈ gT ∧ (ref = (T k).1 ∨ Cond.sameField ref (T k).1 (T k).2.1 (T k).2.2.1 ∈ gT)
def FP (own : String) (ini : Bool) (index ci k : Nat) : Prop := ∃ (C ref : String) (T : u_T) (N : Nat), vwCl[ci]? = some (C, T, N) ∧ k < N ∧ ci < 14 ∧ Cond.fieldLink own index ref (T k).2.1 (T k).2.2.1 ∈ gT ∧ (ref = (T k).1 ∨ Cond.sameField ref (T k).1 (T k).2.1 (T k).2.2.1 ∈ gT) ∧ ((T k).2.2.2 = false ∨ ((T k).2.2.2 = true ∧ ini = true ∧ (T k).1 = own))
section
variable {G : GE} {d : Nat} {mi : MI} {pc : Nat} {ls st : List Value} {h h' : HS} {r : Option Value}
theorem Rel.ob {H : Heap} {a ci : Nat} {q : vw_C} (hR : Rel G h H) (hk : hT h a = ci + 1) (hci : ci < 14) (hq : vwCl[ci]? = some q) : t_OB (ad G a) (G.2.2.2.1.1 ci) q.2.2 (G.2.2.2.1.2 ci) H (fun k => cv G (rdv h a k (tyC ci k))) := by
  obtain ⟨p1, p2, p3, p4⟩ := hR.2.2 a (by omega)
  obtain ⟨x, hx, hb⟩ := p4.1 (by omega)
  rw [show hT h a - 1 = ci by omega] at hx hb
  cases hx.symm.trans hq
  exact hb
theorem e_get {a ci k index : Nat} (hk : hT h a = ci + 1) (hf : FL mi.1 index ci k) (hd : decode mi.2.1 pc = .ok (.getfield index, 3)) {v : Value} (hv : rdv h a k (tyC ci k) = v) (kk : En G d mi (pc + 3) ls (v :: st) h r h') : En G d mi pc ls (.ref a :: st) h r h' := by
  subst hv
  obtain ⟨C, ref, T, N, hc, hkN, hci, hl, hs⟩ := hf
  refine kk.link (@fun p l e R s m args below meth c H locs cells slots Q lsr hx hb ho ht hK hS hRel w => ?_)
  obtain ⟨cell, q1, q2, q3, q4⟩ := hRel.ob hk hci hc
  obtain ⟨hSl, hfc, kC, hkC, hkind⟩ := hK.1.1 ci _ hc
  obtain ⟨cf, kf, fi, f, hi, hsl⟩ := hSl k hkN
  have hi2 : s.fieldFound? ref (T k).2.1 (T k).2.2.1 = some (cf, kf, fi, f) := by
    rcases hs with e | e
    · rw [e]; exact hi
    · exact u_same (ht _ e) _ hi
  refine W.getf hx hb ho (ht _ hl) hi2 (u_facts hfc hkC (u_lays ht (kfs hc).1 hkN) hi).1 q1 (by rw [q3]; exact fun h => by cases h) (v := cv G (rdv h a k (tyC ci k))) ?_ rfl rfl hd w
  rw [hsl, q4 k hkN]
theorem e_put0 {a ci k index : Nat} {v : Value} {h2 : HS} (hk : hT h a = ci + 1) (hf : FP mi.1 mi.2.2.2.2 index ci k) (hd : decode mi.2.1 pc = .ok (.putfield index, 3)) (hn : narrow (tyC ci k) (cv G v) = cv G v) (hfit : fits (tyC ci k) (cv G v) = true) (e0 : hS h2 = hS h) (e1 : hN h2 = hN h) (e2 : ∀ b, hT h2 b = hT h b) (e3 : ∀ b, hLn h2 b = hLn h b) (e4 : ∀ b, b ≠ a → ∀ k ty, rdv h2 b k ty = rdv h b k ty) (e5 : ∀ j, j ≠ k → rdv h2 a j (tyC ci j) = rdv h a j (tyC ci j)) (e6 : rdv h2 a k (tyC ci k) = v) (kk : En G d mi (pc + 3) ls st h2 r h') : En G d mi pc ls (v :: .ref a :: st) h r h' := by
  refine ⟨by rw [← e1]; exact kk.1, by rw [← e0]; exact kk.2.1, fun p l e R s m args below meth c c0 s0 mc ms hC cells slots H locs lsr hD => ?_⟩
  have hCC := hC
  obtain ⟨hx, hb, hr, hml, ho, ht, hK, hlk, hin, -⟩ := hC
  obtain ⟨d1, d2, hS, hRel, hl⟩ := hD
  obtain ⟨C, ref, T, N, hc, hkN, hci, hlw, hs, hfin⟩ := hf
  obtain ⟨cell, q1, q2, q3, q4⟩ := hRel.ob hk hci hc
  have hKF := kfs hc
  have hap := va_apart (own := mi.1) (cl := vwCl) (D := G.2.2.2.1) ht hKF.1 (tyC ci) hKF.2.1 hKF.2.2 hK.1 hc
  obtain ⟨hSl, hfc, kC, hkC, hkind⟩ := hK.1.1 ci _ hc
  obtain ⟨cf, kf, fi, f, hi, hsl⟩ := hSl k hkN
  have hi2 : s.fieldFound? ref (T k).2.1 (T k).2.2.1 = some (cf, kf, fi, f) := by
    rcases hs with e | e
    · rw [e]; exact hi
    · exact u_same (ht _ e) _ hi
  have hlay := ht _ (hKF.1 _ (u_in_lay hkN))
  have hst := (u_facts hfc hkC (u_lays ht hKF.1 hkN) hi).1
  have hne : hT h a ≠ 0 := by omega
  have hA : Ad G (ad G a) := by
    show G.1 ≤ ad G a
    rw [ad_hi (hRel.2.2 a hne).1]
    omega
  have fin : ∀ H' : Heap, H'[ad G a]? = some (cell.setSlot f.slot (cv G v)) → H'.size = H.size → (∀ q : Nat, q ≠ ad G a → H'[q]? = H[q]?) → W p l e R s m args below meth c H' (locs ++ [⟨ad G a, f.slot⟩]) cells slots (MQ below (Qr G r h') args s mc ms (Ad G)) (F0 m (pc + 3) lsr (st.map (cv G))) := by
    intro H' g1 g2 g3
    rw [hsl] at g1
    refine kk.2.2 p l e R s m args below meth c c0 s0 mc ms hCC cells slots H' _ lsr ⟨by rw [e1]; exact d1, by rw [e0]; exact d2, hS.put g2 g3 hA, hRel.upd hne e1 e2 e3 e4 g2 g3 ⟨fun _ => ?_, fun q => absurd q (by rw [e2]; omega)⟩, hl⟩
    rw [e2, show hT h a - 1 = ci by omega]
    refine ⟨_, hc, t_OB.to (V := updV (fun k => cv G (rdv h a k (tyC ci k))) k (cv G v)) ⟨_, g1, q2, q3, t_set q4 hap hkN (cv G v)⟩ (fun j _ => ?_)⟩
    by_cases ej : j = k
    · subst ej
      rw [e6]
      simp [updV]
    · rw [e5 j ej]
      simp [updV, ej]
  rcases hfin with hfin | ⟨hfin, hini, hdecl⟩
  · unfold u_lay at hlay
    rw [if_neg (by show ¬ (T k).2.2.2 = true; rw [hfin]; decide)] at hlay
    have h6 := u_store hfc hkC hkind hlay hi (hKF.2.1 k hkN) hn hfit
    exact W.putK hx hb (f := f) ⟨ho, ht _ hlw, ⟨_, _, _, hi2⟩, hst⟩ (by rw [q2]; exact h6) q1 q3 (by rw [hsl]; exact k2_hasslot (q4 k hkN)) rfl rfl hd fin
  · unfold u_lay at hlay
    rw [if_pos hfin] at hlay
    have hcf : m.cls = cf := by
      obtain ⟨_, _, c', _, _, _, -, -, hf', -, -, -, hown2, -⟩ := Cond.laysFinal_spec hlay
      have e1 : c' = cf := by have := hi.symm.trans hf'; simp at this; exact this.1.symm
      have hdecl' : (((C, T, N) : vw_C).2.1 k).1 = mi.1 := hdecl
      rw [hdecl'] at hown2
      rw [← e1]; exact Option.some.inj (ho.symm.trans hown2)
    have h6 := u_fits hfc hkC hkind (Or.inr hlay) hi (hKF.2.1 k hkN) hn hfit
    exact W.putFinK hx hb ho (ht _ hlw) hi2 hst hcf (hin hini) (by rw [q2]; exact h6) q1 q3 (by rw [hsl]; exact k2_hasslot (q4 k hkN)) rfl rfl hd fin
theorem e_putI {a ci k index : Nat} {x : Int32} (hk : hT h a = ci + 1) (hf : FP mi.1 mi.2.2.2.2 index ci k) (hty : tyC ci k = .int) (hd : decode mi.2.1 pc = .ok (.putfield index, 3)) (kk : En G d mi (pc + 3) ls st (sI h a k x) r h') : En G d mi pc ls (.int x :: .ref a :: st) h r h' :=
  e_put0 (v := .int x) (h2 := sI h a k x) hk hf hd (by rw [hty]; rfl) (by rw [hty]; rfl) rfl rfl (fun _ => rfl) (fun _ => rfl) (fun b hb j ty => rdv_sI hb j ty) (fun j hj => rdv_sIk hj _) (by rw [hty]; simp [rdv, sI, hI, up2]) kk
theorem e_putZ {a ci k index : Nat} {x : Int32} (hk : hT h a = ci + 1) (hf : FP mi.1 mi.2.2.2.2 index ci k) (hty : tyC ci k = .boolean) (hx01 : x = 0 ∨ x = 1) (hd : decode mi.2.1 pc = .ok (.putfield index, 3)) (kk : En G d mi (pc + 3) ls st (sI h a k x) r h') : En G d mi pc ls (.int x :: .ref a :: st) h r h' :=
  e_put0 (v := .int x) (h2 := sI h a k x) hk hf hd (by rw [hty]; rcases hx01 with e | e <;> subst e <;> rfl) (by rw [hty]; rcases hx01 with e | e <;> subst e <;> rfl) rfl rfl (fun _ => rfl) (fun _ => rfl) (fun b hb j ty => rdv_sI hb j ty) (fun j hj => rdv_sIk hj _) (by rw [hty]; simp [rdv, sI, hI, up2]) kk
theorem e_putL {a ci k index : Nat} {x : Int64} (hk : hT h a = ci + 1) (hf : FP mi.1 mi.2.2.2.2 index ci k) (hty : tyC ci k = .long) (hd : decode mi.2.1 pc = .ok (.putfield index, 3)) (kk : En G d mi (pc + 3) ls st (sL h a k x) r h') : En G d mi pc ls (.long x :: .ref a :: st) h r h' :=
  e_put0 (v := .long x) (h2 := sL h a k x) hk hf hd (by rw [hty]; rfl) (by rw [hty]; rfl) rfl rfl (fun _ => rfl) (fun _ => rfl) (fun b hb j ty => rdv_sL hb j ty) (fun j hj => rdv_sLk hj _) (by rw [hty]; simp [rdv, sL, hL, up2]) kk
theorem e_putR {a ci k index b : Nat} (hk : hT h a = ci + 1) (hf : FP mi.1 mi.2.2.2.2 index ci k) (hty : (∃ C, tyC ci k = .object C) ∨ ∃ t, tyC ci k = .array t) (hd : decode mi.2.1 pc = .ok (.putfield index, 3)) (kk : En G d mi (pc + 3) ls st (sR h a k (some b)) r h') : En G d mi pc ls (.ref b :: .ref a :: st) h r h' :=
  e_put0 (v := .ref b) (h2 := sR h a k (some b)) hk hf hd (by rcases hty with ⟨C, e⟩ | ⟨C, e⟩ <;> rw [e] <;> rfl) (by rcases hty with ⟨C, e⟩ | ⟨C, e⟩ <;> rw [e] <;> rfl) rfl rfl (fun _ => rfl) (fun _ => rfl) (fun b hb j ty => rdv_sR hb j ty) (fun j hj => rdv_sRk hj _) (by rcases hty with ⟨C, e⟩ | ⟨C, e⟩ <;> rw [e] <;> simp [rdv, sR, hR, up2, va_rf]) kk
end
