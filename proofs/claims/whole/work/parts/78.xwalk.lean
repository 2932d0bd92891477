/-! ===== walk: what lacks at each stall, in the class ===== -/
theorem L_xw36 {S H : TB} {tg : Nat → Nat} {el : Nat → Nat} (hW : Wst S) (hWH : Wha H) (c w : Int32) {j b : Nat} (hj : j < H.1) (h6 : H.1 ≤ 6) : ∀ (d k f : Nat) (h : HS), k + d = S.1 → d < f → XL tg h 33 1 S.1 el → (∀ i, i < S.1 → Ost S tg h i (el i)) → Oha H tg h j b → Wx tg h → Gz h → (∀ i, i < k → hI h 54 i = allI H j - bw S H i j) → ∃ h', l_X11_walk_36 c w b f (nI k) h = some h' ∧ (∀ i, i < S.1 → hI h' 54 i = allI H j - bw S H i j) ∧ XL tg h' 33 1 S.1 el ∧ (∀ i, i < S.1 → Ost S tg h' i (el i)) ∧ Oha H tg h' j b ∧ Gz h' ∧ Wx tg h' ∧ Fx (fun b => b = 48 ∨ b = 49 ∨ b = 54) h h' := by
  intro d
  induction d with
  | zero =>
    intro k f h hk hf hl ho ob hw hz hb
    obtain ⟨f, rfl⟩ : ∃ f', f = f' + 1 := ⟨f - 1, by omega⟩
    have h8 := hl.2.2.1
    refine ⟨h, ?_, fun i hi => hb i (by omega), hl, ho, ob, hz, hw, Fx.rf⟩
    rw [l_X11_walk_36, if_pos hl.1, hl.size, Option.bind_some, if_pos (nI_le (by omega) (by omega))]
  | succ d ih =>
    intro k f h hk hf hl ho ob hw hz hb
    obtain ⟨f, rfl⟩ : ∃ f', f = f' + 1 := ⟨f - 1, by omega⟩
    have h8 := hl.2.2.1
    have hk' : k < S.1 := by omega
    have oa := ho k hk'
    have hst : isSt (hT h (el k)) = true := by rw [oa.2.1]; exact kcl_st _
    have hx := ixb_n (i := k) (n := 8) (by omega) (by decide)
    have hc : (nI k).toNatClampNeg = k := nI_clamp (by omega)
    have h88 : ¬ (8 : Int32) ≤ nI k := by rw [show (8 : Int32) = nI 8 from rfl]; exact nI_ge (by omega) (by decide)
    have b4 : hI h b 4 = allI H j := ob.2.2.2.2.2.2
    have hbb := hw.1 b (by have := ob.1; omega)
    have h89 := hw.2.2
    obtain ⟨h1, s1, s2, s3, s4, s5, s6⟩ := X_mostWinning hW hWH hk' hj h8 h6 oa ob hw hz
    have F1 : Fx (fun b => b = 48 ∨ b = 49 ∨ b = 54) h (sI h1 54 k (allI H j - bw S H k j)) := Fx.sI (s6.mono (fun _ _ q => q.elim Or.inl (fun y => Or.inr (Or.inl y)))) (Or.inl (Or.inr (Or.inr rfl)))
    have hl1 := hl.fx F1 (by omega) (fun _ _ => rfl) hw (by decide) (by decide) (fun b hb z => by have := hw.1 b (by omega); omega)
    have ho1 : ∀ i, i < S.1 → Ost S tg (sI h1 54 k (allI H j - bw S H k j)) i (el i) := fun i hi => (ho i hi).fx hw F1 (fun _ _ => rfl) (by have := hw.1 (el i) (by have := (ho i hi).1; omega); omega)
    have q54 := (s6.2 54 (by omega) (by decide)).1
    have hz1 : Gz (sI h1 54 k (allI H j - bw S H k j)) := ⟨fun q hq => by rw [hI_sI, if_neg (by decide)]; exact s4.1 q hq, fun q hq => by rw [hI_sI, if_neg (by decide)]; exact s4.2 q hq⟩
    obtain ⟨h', u1, u2, u3, u4, u5, u6, u7, u8⟩ := ih (k + 1) f (sI h1 54 k (allI H j - bw S H k j)) (by omega) (by omega) hl1 ho1 (ob.fx hw F1 (fun _ _ => rfl) (by omega)) s5.sI hz1 (fun i hi => by
      rw [hI_sI, if_pos rfl]
      by_cases e : i = k
      · rw [if_pos e, e]
      · rw [if_neg e, q54]
        exact hb i (by omega))
    refine ⟨h', ?_, u2, u3, u4, u5, u6, u7, F1.tr u8⟩
    rw [l_X11_walk_36, if_pos hl.1, hl.size, Option.bind_some, if_neg (nI_ge (by omega) (by omega)), if_neg h88, if_pos ob.2.1, hl.get hk', Option.bind_some, om_some, if_pos hst, s1, Option.bind_some, if_pos hx, hc, b4, nI_1]
    exact u1
