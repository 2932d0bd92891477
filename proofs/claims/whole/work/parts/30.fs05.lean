-- Jx4a65c_add_9ea2d
def f_Jx4a65c_add_9ea2d (p0 : Nat) (p1 : Nat) (h : HS) : Option (Bool × HS) := (if hT h p0 = 1 then (om (hR (sI h p0 0 ((hI h p0 0) + (1 : Int32))) p0 1) none (fun b2 => (if b2 = 27 then (Option.bind (f_Jx4a65c_add_72be8 p0 p1 27 (hI (sI h p0 0 ((hI h p0 0) + (1 : Int32))) p0 2) (sI h p0 0 ((hI h p0 0) + (1 : Int32)))) (fun q4 => (some (true, q4)))) else (Option.bind (f_Jx4a65c_add_72be8 p0 p1 b2 (hI (sI h p0 0 ((hI h p0 0) + (1 : Int32))) p0 2) (sI h p0 0 ((hI h p0 0) + (1 : Int32)))) (fun q8 => (some (true, q8))))))) else none)
set_option maxHeartbeats 4000000 in
set_option maxRecDepth 20000 in
theorem p_Jx4a65c_add_9ea2d {p0 : Nat} {p1 : Nat} {h : HS} {q : (Bool × HS)} (H : f_Jx4a65c_add_9ea2d p0 p1 h = some q) : Pr h q.2 := by
  unfold f_Jx4a65c_add_9ea2d at H
  replace H := og H; obtain ⟨g1, H⟩ := H
  replace H := oom H; obtain ⟨-, H⟩ | ⟨b2, e3, H⟩ := H
  · exact nz H
  replace H := oi H; obtain ⟨c12, H⟩ | ⟨c12, H⟩ := H
  · subst c12
    replace H := ob H; obtain ⟨q4, c5, H⟩ := H
    have e6 := p_Jx4a65c_add_72be8 c5
    obtain rfl := Option.some.inj H
    exact ((Pr.rf.sI).tr e6)
  · replace H := ob H; obtain ⟨q8, c9, H⟩ := H
    have e10 := p_Jx4a65c_add_72be8 c9
    obtain rfl := Option.some.inj H
    exact ((Pr.rf.sI).tr e10)
set_option maxHeartbeats 4000000 in
set_option maxRecDepth 20000 in
theorem t_Jx4a65c_add_9ea2d {G : GE} (d : Nat) {p0 : Nat} {p1 : Nat} {h : HS} {q : (Bool × HS)} (H : f_Jx4a65c_add_9ea2d p0 p1 h = some q) : CE G (d + 4) yJx4a65c_add_9ea2d miJx4a65c_add_9ea2d [.ref p0, .ref p1] h (some (.int (b2i q.1))) (q.2) := by
  unfold f_Jx4a65c_add_9ea2d at H
  refine ce_of rfl (by decide) (fun q => by first | rfl | cases q) (Nat.le_of_ble_eq_true rfl) rfl ?_
  refine g_aload_n dJx4a65c_add_9ea2d_0 rfl rfl ?_
  refine e_dup dJx4a65c_add_9ea2d_1 rfl ?_
  replace H := og H; obtain ⟨g1, H⟩ := H
  refine e_getI g1 flJx4a65c_63_0 dJx4a65c_add_9ea2d_2 rfl ?_
  refine e_iconst (v := (1 : Int32)) dJx4a65c_add_9ea2d_5 (by decide) ?_
  refine e_iadd dJx4a65c_add_9ea2d_6 ?_
  refine e_putI g1 fpJx4a65c_63_0 rfl dJx4a65c_add_9ea2d_7 ?_
  refine g_aload_n dJx4a65c_add_9ea2d_10 rfl rfl ?_
  refine g_aload_n dJx4a65c_add_9ea2d_11 rfl rfl ?_
  refine g_aload_n dJx4a65c_add_9ea2d_12 rfl rfl ?_
  replace H := oom H; obtain ⟨-, H⟩ | ⟨b2, e3, H⟩ := H
  · exact nz H
  refine e_getR (kI g1) flJx4a65c_9_0 dJx4a65c_add_9ea2d_13 rfl e3 ?_
  replace H := oi H; obtain ⟨c12, H⟩ | ⟨c12, H⟩ := H
  · subst c12
    refine g_aload_n dJx4a65c_add_9ea2d_16 rfl rfl ?_
    refine e_getI (kI g1) flJx4a65c_48_0 dJx4a65c_add_9ea2d_17 rfl ?_
    replace H := ob H; obtain ⟨q4, c5, H⟩ := H
    refine v0 (kI g1) (by decide) rfl rfl lmJx4a65c_131 liJx4a65c_add_72be8 lvJx4a65c_Jx4a65c_add_72be8 msJx4a65c_add_72be8 dJx4a65c_add_9ea2d_20 (t_Jx4a65c_add_72be8 (d + 0) c5) rfl (Nat.le_of_ble_eq_true rfl) (Nat.le_refl _) ?_
    have e6 := p_Jx4a65c_add_72be8 c5
    have f7 := e6.k (kI g1) (by decide)
    refine e_iconst (v := (1 : Int32)) dJx4a65c_add_9ea2d_23 (by decide) ?_
    obtain rfl := Option.some.inj H
    exact z_iret rfl rfl dJx4a65c_add_9ea2d_24 rfl rfl
  · refine g_aload_n dJx4a65c_add_9ea2d_16 rfl rfl ?_
    refine e_getI (kI g1) flJx4a65c_48_0 dJx4a65c_add_9ea2d_17 rfl ?_
    replace H := ob H; obtain ⟨q8, c9, H⟩ := H
    refine v0 (kI g1) (by decide) rfl rfl lmJx4a65c_131 liJx4a65c_add_72be8 lvJx4a65c_Jx4a65c_add_72be8 msJx4a65c_add_72be8 dJx4a65c_add_9ea2d_20 (t_Jx4a65c_add_72be8 (d + 0) c9) rfl (Nat.le_of_ble_eq_true rfl) (Nat.le_refl _) ?_
    have e10 := p_Jx4a65c_add_72be8 c9
    have f11 := e10.k (kI g1) (by decide)
    refine e_iconst (v := (1 : Int32)) dJx4a65c_add_9ea2d_23 (by decide) ?_
    obtain rfl := Option.some.inj H
    exact z_iret rfl rfl dJx4a65c_add_9ea2d_24 rfl rfl
-- X11_init
def f_X11_init (p0 : Nat) (h : HS) : Option HS := (if hT h (hN h) = 0 then (bh (hNew h 1 0 3) (fun h3 => (Option.bind (f_Jx4a65c_init_da8c8 (hN h) h3) (fun q6 => (if hT q6 p0 = 13 then (if hT (sR q6 p0 0 (some (hN h))) (hN (sR q6 p0 0 (some (hN h)))) = 0 then (bh (hNew (sR q6 p0 0 (some (hN h))) 1 0 3) (fun h19 => (Option.bind (f_Jx4a65c_init_da8c8 (hN (sR q6 p0 0 (some (hN h)))) h19) (fun q24 => (if hT (sR q24 p0 1 (some (hN (sR q6 p0 0 (some (hN h)))))) (hN (sR q24 p0 1 (some (hN (sR q6 p0 0 (some (hN h))))))) = 0 then (bh (hNew (sR q24 p0 1 (some (hN (sR q6 p0 0 (some (hN h)))))) 1 0 3) (fun h40 => (Option.bind (f_Jx4a65c_init_da8c8 (hN (sR q24 p0 1 (some (hN (sR q6 p0 0 (some (hN h))))))) h40) (fun q46 => (if hT (sI (sR q46 p0 2 (some (hN (sR q24 p0 1 (some (hN (sR q6 p0 0 (some (hN h))))))))) p0 3 (0 : Int32)) (hN (sI (sR q46 p0 2 (some (hN (sR q24 p0 1 (some (hN (sR q6 p0 0 (some (hN h))))))))) p0 3 (0 : Int32))) = 0 then (bh (hNew (sI (sR q46 p0 2 (some (hN (sR q24 p0 1 (some (hN (sR q6 p0 0 (some (hN h))))))))) p0 3 (0 : Int32)) 15 (300 : Int32).toNatClampNeg (300 : Int32).toNatClampNeg) (fun h65 => (if hT (sI (sR h65 p0 4 (some (hN (sI (sR q46 p0 2 (some (hN (sR q24 p0 1 (some (hN (sR q6 p0 0 (some (hN h))))))))) p0 3 (0 : Int32))))) p0 5 (0 : Int32)) (hN (sI (sR h65 p0 4 (some (hN (sI (sR q46 p0 2 (some (hN (sR q24 p0 1 (some (hN (sR q6 p0 0 (some (hN h))))))))) p0 3 (0 : Int32))))) p0 5 (0 : Int32))) = 0 then (bh (hNew (sI (sR h65 p0 4 (some (hN (sI (sR q46 p0 2 (some (hN (sR q24 p0 1 (some (hN (sR q6 p0 0 (some (hN h))))))))) p0 3 (0 : Int32))))) p0 5 (0 : Int32)) 15 (6 : Int32).toNatClampNeg (6 : Int32).toNatClampNeg) (fun h85 => (bh (sR h85 p0 6 (some (hN (sI (sR h65 p0 4 (some (hN (sI (sR q46 p0 2 (some (hN (sR q24 p0 1 (some (hN (sR q6 p0 0 (some (hN h))))))))) p0 3 (0 : Int32))))) p0 5 (0 : Int32))))) (fun h100 => (if hT h100 (hN h100) = 0 then (bh (hNew h100 15 (6 : Int32).toNatClampNeg (6 : Int32).toNatClampNeg) (fun h116 => (if hT (sI (sR h116 p0 7 (some (hN h100))) p0 8 (0 : Int32)) (hN (sI (sR h116 p0 7 (some (hN h100))) p0 8 (0 : Int32))) = 0 then (bh (hNew (sI (sR h116 p0 7 (some (hN h100))) p0 8 (0 : Int32)) 8 0 9) (fun h142 => (Option.bind (f_X6_init (hN (sI (sR h116 p0 7 (some (hN h100))) p0 8 (0 : Int32))) h142) (fun q152 => (if hT (sR q152 p0 9 (some (hN (sI (sR h116 p0 7 (some (hN h100))) p0 8 (0 : Int32))))) (hN (sR q152 p0 9 (some (hN (sI (sR h116 p0 7 (some (hN h100))) p0 8 (0 : Int32)))))) = 0 then (bh (hNew (sR q152 p0 9 (some (hN (sI (sR h116 p0 7 (some (hN h100))) p0 8 (0 : Int32))))) 7 0 5) (fun h182 => (Option.bind (f_X5_init (hN (sR q152 p0 9 (some (hN (sI (sR h116 p0 7 (some (hN h100))) p0 8 (0 : Int32)))))) h182) (fun q193 => (if hT (sR q193 p0 10 (some (hN (sR q152 p0 9 (some (hN (sI (sR h116 p0 7 (some (hN h100))) p0 8 (0 : Int32)))))))) (hN (sR q193 p0 10 (some (hN (sR q152 p0 9 (some (hN (sI (sR h116 p0 7 (some (hN h100))) p0 8 (0 : Int32))))))))) = 0 then (bh (hNew (sR q193 p0 10 (some (hN (sR q152 p0 9 (some (hN (sI (sR h116 p0 7 (some (hN h100))) p0 8 (0 : Int32)))))))) 19 (4 : Int32).toNatClampNeg (4 : Int32).toNatClampNeg) (fun h226 => (if hT (sR h226 p0 11 (some (hN (sR q193 p0 10 (some (hN (sR q152 p0 9 (some (hN (sI (sR h116 p0 7 (some (hN h100))) p0 8 (0 : Int32))))))))))) (hN (sR h226 p0 11 (some (hN (sR q193 p0 10 (some (hN (sR q152 p0 9 (some (hN (sI (sR h116 p0 7 (some (hN h100))) p0 8 (0 : Int32)))))))))))) = 0 then (bh (hNew (sR h226 p0 11 (some (hN (sR q193 p0 10 (some (hN (sR q152 p0 9 (some (hN (sI (sR h116 p0 7 (some (hN h100))) p0 8 (0 : Int32))))))))))) 15 (4 : Int32).toNatClampNeg (4 : Int32).toNatClampNeg) (fun h261 => (bh (sR h261 p0 12 (some (hN (sR h226 p0 11 (some (hN (sR q193 p0 10 (some (hN (sR q152 p0 9 (some (hN (sI (sR h116 p0 7 (some (hN h100))) p0 8 (0 : Int32)))))))))))))) (fun h286 => (if hT h286 (hN h286) = 0 then (bh (hNew h286 4 0 3) (fun h312 => (Option.bind (f_X2_init (hN h286) h312) (fun q326 => (if hT (sR q326 p0 13 (some (hN h286))) (hN (sR q326 p0 13 (some (hN h286)))) = 0 then (bh (hNew (sR q326 p0 13 (some (hN h286))) 15 (6 : Int32).toNatClampNeg (6 : Int32).toNatClampNeg) (fun h368 => (if hT (sR h368 p0 14 (some (hN (sR q326 p0 13 (some (hN h286)))))) (hN (sR h368 p0 14 (some (hN (sR q326 p0 13 (some (hN h286))))))) = 0 then (bh (hNew (sR h368 p0 14 (some (hN (sR q326 p0 13 (some (hN h286)))))) 15 (4 : Int32).toNatClampNeg (4 : Int32).toNatClampNeg) (fun h412 => (if hT (sR h412 p0 15 (some (hN (sR h368 p0 14 (some (hN (sR q326 p0 13 (some (hN h286))))))))) (hN (sR h412 p0 15 (some (hN (sR h368 p0 14 (some (hN (sR q326 p0 13 (some (hN h286)))))))))) = 0 then (bh (hNew (sR h412 p0 15 (some (hN (sR h368 p0 14 (some (hN (sR q326 p0 13 (some (hN h286))))))))) 16 (40 : Int32).toNatClampNeg (40 : Int32).toNatClampNeg) (fun h459 => (if hT (sR h459 p0 16 (some (hN (sR h412 p0 15 (some (hN (sR h368 p0 14 (some (hN (sR q326 p0 13 (some (hN h286)))))))))))) (hN (sR h459 p0 16 (some (hN (sR h412 p0 15 (some (hN (sR h368 p0 14 (some (hN (sR q326 p0 13 (some (hN h286))))))))))))) = 0 then (bh (hNew (sR h459 p0 16 (some (hN (sR h412 p0 15 (some (hN (sR h368 p0 14 (some (hN (sR q326 p0 13 (some (hN h286)))))))))))) 16 (40 : Int32).toNatClampNeg (40 : Int32).toNatClampNeg) (fun h509 => (if hT (sR h509 p0 17 (some (hN (sR h459 p0 16 (some (hN (sR h412 p0 15 (some (hN (sR h368 p0 14 (some (hN (sR q326 p0 13 (some (hN h286))))))))))))))) (hN (sR h509 p0 17 (some (hN (sR h459 p0 16 (some (hN (sR h412 p0 15 (some (hN (sR h368 p0 14 (some (hN (sR q326 p0 13 (some (hN h286)))))))))))))))) = 0 then (bh (hNew (sR h509 p0 17 (some (hN (sR h459 p0 16 (some (hN (sR h412 p0 15 (some (hN (sR h368 p0 14 (some (hN (sR q326 p0 13 (some (hN h286))))))))))))))) 15 (8 : Int32).toNatClampNeg (8 : Int32).toNatClampNeg) (fun h562 => (bh (sR h562 p0 18 (some (hN (sR h509 p0 17 (some (hN (sR h459 p0 16 (some (hN (sR h412 p0 15 (some (hN (sR h368 p0 14 (some (hN (sR q326 p0 13 (some (hN h286)))))))))))))))))) (fun h599 => (if hT h599 (hN h599) = 0 then (bh (hNew h599 15 (201 : Int32).toNatClampNeg (201 : Int32).toNatClampNeg) (fun h637 => (om (hR (sR h637 p0 19 (some (hN h599))) p0 9) none (fun b676 => (if b676 = 39 then (if lyB TX (sR h637 p0 19 (some (hN h599))) = true then (Option.bind (f_X6_spell 0 (sR h637 p0 19 (some (hN h599)))) (fun q681 => (om (hR q681 p0 9) none (fun b704 => (if b704 = 39 then (Option.bind (f_X6_read q681) (fun q707 => (om q707.1 (some q707.2) (fun b710 => (om (hR q707.2 p0 2) none (fun b734 => (if hT q707.2 b734 = 1 then (Option.bind (f_Jx4a65c_add_9ea2d b734 b710 q707.2) (fun q736 => (some q736.2))) else none))))))) else none))))) else none) else none))))) else none))))) else none))) else none))) else none))) else none))) else none))))) else none))))) else none))) else none))))) else none))))) else none))) else none))))) else none))) else none))))) else none))))) else none) else none))))) else none)
set_option maxHeartbeats 4000000 in
set_option maxRecDepth 20000 in
theorem p_X11_init {p0 : Nat} {h : HS} {q : HS} (H : f_X11_init p0 h = some q) : Prw h q := by
  unfold f_X11_init at H
  replace H := og H; obtain ⟨g1, H⟩ := H
  have e2 := Prw.nw (h := h) (kd := 1) (ln := 0) (ns := 3) Prw.rf g1
  replace H := obh H; obtain ⟨h3, e4, H⟩ := H
  replace H := ob H; obtain ⟨q6, c7, H⟩ := H
  have e9 := p_Jx4a65c_init_da8c8 c7
  have e8 := e9.w
  replace H := og H; obtain ⟨g11, H⟩ := H
  have e12 := Prw.sR (h := q6) (a := p0) (k := 0) (v := some (hN h)) Prw.rf 
  replace H := og H; obtain ⟨g15, H⟩ := H
  have e16 := Prw.nw (h := (sR q6 p0 0 (some (hN h)))) (kd := 1) (ln := 0) (ns := 3) Prw.rf g15
  replace H := obh H; obtain ⟨h19, e20, H⟩ := H
  replace H := ob H; obtain ⟨q24, c25, H⟩ := H
  have e27 := p_Jx4a65c_init_da8c8 c25
  have e26 := e27.w
  have e31 := Prw.sR (h := q24) (a := p0) (k := 1) (v := some (hN (sR q6 p0 0 (some (hN h))))) Prw.rf 
  replace H := og H; obtain ⟨g35, H⟩ := H
  have e36 := Prw.nw (h := (sR q24 p0 1 (some (hN (sR q6 p0 0 (some (hN h))))))) (kd := 1) (ln := 0) (ns := 3) Prw.rf g35
  replace H := obh H; obtain ⟨h40, e41, H⟩ := H
  replace H := ob H; obtain ⟨q46, c47, H⟩ := H
  have e49 := p_Jx4a65c_init_da8c8 c47
  have e48 := e49.w
  have e54 := Prw.sR (h := q46) (a := p0) (k := 2) (v := some (hN (sR q24 p0 1 (some (hN (sR q6 p0 0 (some (hN h)))))))) Prw.rf 
  replace H := og H; obtain ⟨g59, H⟩ := H
  have e60 := Prw.nw (h := (sI (sR q46 p0 2 (some (hN (sR q24 p0 1 (some (hN (sR q6 p0 0 (some (hN h))))))))) p0 3 (0 : Int32))) (kd := 15) (ln := (300 : Int32).toNatClampNeg) (ns := (300 : Int32).toNatClampNeg) Prw.rf g59
  replace H := obh H; obtain ⟨h65, e66, H⟩ := H
  have e72 := Prw.sR (h := h65) (a := p0) (k := 4) (v := some (hN (sI (sR q46 p0 2 (some (hN (sR q24 p0 1 (some (hN (sR q6 p0 0 (some (hN h))))))))) p0 3 (0 : Int32)))) Prw.rf 
  replace H := og H; obtain ⟨g78, H⟩ := H
  have e79 := Prw.nw (h := (sI (sR h65 p0 4 (some (hN (sI (sR q46 p0 2 (some (hN (sR q24 p0 1 (some (hN (sR q6 p0 0 (some (hN h))))))))) p0 3 (0 : Int32))))) p0 5 (0 : Int32))) (kd := 15) (ln := (6 : Int32).toNatClampNeg) (ns := (6 : Int32).toNatClampNeg) Prw.rf g78
  replace H := obh H; obtain ⟨h85, e86, H⟩ := H
  have e93 := Prw.sR (h := h85) (a := p0) (k := 6) (v := some (hN (sI (sR h65 p0 4 (some (hN (sI (sR q46 p0 2 (some (hN (sR q24 p0 1 (some (hN (sR q6 p0 0 (some (hN h))))))))) p0 3 (0 : Int32))))) p0 5 (0 : Int32)))) Prw.rf 
  replace H := obh H; obtain ⟨h100, e101, H⟩ := H
  replace H := og H; obtain ⟨g108, H⟩ := H
  have e109 := Prw.nw (h := h100) (kd := 15) (ln := (6 : Int32).toNatClampNeg) (ns := (6 : Int32).toNatClampNeg) Prw.rf g108
  replace H := obh H; obtain ⟨h116, e117, H⟩ := H
  have e125 := Prw.sR (h := h116) (a := p0) (k := 7) (v := some (hN h100)) Prw.rf 
  replace H := og H; obtain ⟨g133, H⟩ := H
  have e134 := Prw.nw (h := (sI (sR h116 p0 7 (some (hN h100))) p0 8 (0 : Int32))) (kd := 8) (ln := 0) (ns := 9) Prw.rf g133
  replace H := obh H; obtain ⟨h142, e143, H⟩ := H
  replace H := ob H; obtain ⟨q152, c153, H⟩ := H
  have e154 := p_X6_init c153
  have e163 := Prw.sR (h := q152) (a := p0) (k := 9) (v := some (hN (sI (sR h116 p0 7 (some (hN h100))) p0 8 (0 : Int32)))) Prw.rf 
  replace H := og H; obtain ⟨g172, H⟩ := H
  have e173 := Prw.nw (h := (sR q152 p0 9 (some (hN (sI (sR h116 p0 7 (some (hN h100))) p0 8 (0 : Int32)))))) (kd := 7) (ln := 0) (ns := 5) Prw.rf g172
  replace H := obh H; obtain ⟨h182, e183, H⟩ := H
  replace H := ob H; obtain ⟨q193, c194, H⟩ := H
  have e195 := p_X5_init c194
  have e205 := Prw.sR (h := q193) (a := p0) (k := 10) (v := some (hN (sR q152 p0 9 (some (hN (sI (sR h116 p0 7 (some (hN h100))) p0 8 (0 : Int32))))))) Prw.rf 
  replace H := og H; obtain ⟨g215, H⟩ := H
  have e216 := Prw.nw (h := (sR q193 p0 10 (some (hN (sR q152 p0 9 (some (hN (sI (sR h116 p0 7 (some (hN h100))) p0 8 (0 : Int32))))))))) (kd := 19) (ln := (4 : Int32).toNatClampNeg) (ns := (4 : Int32).toNatClampNeg) Prw.rf g215
  replace H := obh H; obtain ⟨h226, e227, H⟩ := H
  have e238 := Prw.sR (h := h226) (a := p0) (k := 11) (v := some (hN (sR q193 p0 10 (some (hN (sR q152 p0 9 (some (hN (sI (sR h116 p0 7 (some (hN h100))) p0 8 (0 : Int32)))))))))) Prw.rf 
  replace H := og H; obtain ⟨g249, H⟩ := H
  have e250 := Prw.nw (h := (sR h226 p0 11 (some (hN (sR q193 p0 10 (some (hN (sR q152 p0 9 (some (hN (sI (sR h116 p0 7 (some (hN h100))) p0 8 (0 : Int32)))))))))))) (kd := 15) (ln := (4 : Int32).toNatClampNeg) (ns := (4 : Int32).toNatClampNeg) Prw.rf g249
  replace H := obh H; obtain ⟨h261, e262, H⟩ := H
  have e274 := Prw.sR (h := h261) (a := p0) (k := 12) (v := some (hN (sR h226 p0 11 (some (hN (sR q193 p0 10 (some (hN (sR q152 p0 9 (some (hN (sI (sR h116 p0 7 (some (hN h100))) p0 8 (0 : Int32))))))))))))) Prw.rf 
  replace H := obh H; obtain ⟨h286, e287, H⟩ := H
  replace H := og H; obtain ⟨g299, H⟩ := H
  have e300 := Prw.nw (h := h286) (kd := 4) (ln := 0) (ns := 3) Prw.rf g299
  replace H := obh H; obtain ⟨h312, e313, H⟩ := H
  replace H := ob H; obtain ⟨q326, c327, H⟩ := H
  have e328 := p_X2_init c327
  have e341 := Prw.sR (h := q326) (a := p0) (k := 13) (v := some (hN h286)) Prw.rf 
  replace H := og H; obtain ⟨g354, H⟩ := H
  have e355 := Prw.nw (h := (sR q326 p0 13 (some (hN h286)))) (kd := 15) (ln := (6 : Int32).toNatClampNeg) (ns := (6 : Int32).toNatClampNeg) Prw.rf g354
  replace H := obh H; obtain ⟨h368, e369, H⟩ := H
  have e383 := Prw.sR (h := h368) (a := p0) (k := 14) (v := some (hN (sR q326 p0 13 (some (hN h286))))) Prw.rf 
  replace H := og H; obtain ⟨g397, H⟩ := H
  have e398 := Prw.nw (h := (sR h368 p0 14 (some (hN (sR q326 p0 13 (some (hN h286))))))) (kd := 15) (ln := (4 : Int32).toNatClampNeg) (ns := (4 : Int32).toNatClampNeg) Prw.rf g397
  replace H := obh H; obtain ⟨h412, e413, H⟩ := H
  have e428 := Prw.sR (h := h412) (a := p0) (k := 15) (v := some (hN (sR h368 p0 14 (some (hN (sR q326 p0 13 (some (hN h286)))))))) Prw.rf 
  replace H := og H; obtain ⟨g443, H⟩ := H
  have e444 := Prw.nw (h := (sR h412 p0 15 (some (hN (sR h368 p0 14 (some (hN (sR q326 p0 13 (some (hN h286)))))))))) (kd := 16) (ln := (40 : Int32).toNatClampNeg) (ns := (40 : Int32).toNatClampNeg) Prw.rf g443
  replace H := obh H; obtain ⟨h459, e460, H⟩ := H
  have e476 := Prw.sR (h := h459) (a := p0) (k := 16) (v := some (hN (sR h412 p0 15 (some (hN (sR h368 p0 14 (some (hN (sR q326 p0 13 (some (hN h286))))))))))) Prw.rf 
  replace H := og H; obtain ⟨g492, H⟩ := H
  have e493 := Prw.nw (h := (sR h459 p0 16 (some (hN (sR h412 p0 15 (some (hN (sR h368 p0 14 (some (hN (sR q326 p0 13 (some (hN h286))))))))))))) (kd := 16) (ln := (40 : Int32).toNatClampNeg) (ns := (40 : Int32).toNatClampNeg) Prw.rf g492
  replace H := obh H; obtain ⟨h509, e510, H⟩ := H
  have e527 := Prw.sR (h := h509) (a := p0) (k := 17) (v := some (hN (sR h459 p0 16 (some (hN (sR h412 p0 15 (some (hN (sR h368 p0 14 (some (hN (sR q326 p0 13 (some (hN h286)))))))))))))) Prw.rf 
  replace H := og H; obtain ⟨g544, H⟩ := H
  have e545 := Prw.nw (h := (sR h509 p0 17 (some (hN (sR h459 p0 16 (some (hN (sR h412 p0 15 (some (hN (sR h368 p0 14 (some (hN (sR q326 p0 13 (some (hN h286)))))))))))))))) (kd := 15) (ln := (8 : Int32).toNatClampNeg) (ns := (8 : Int32).toNatClampNeg) Prw.rf g544
  replace H := obh H; obtain ⟨h562, e563, H⟩ := H
  have e581 := Prw.sR (h := h562) (a := p0) (k := 18) (v := some (hN (sR h509 p0 17 (some (hN (sR h459 p0 16 (some (hN (sR h412 p0 15 (some (hN (sR h368 p0 14 (some (hN (sR q326 p0 13 (some (hN h286))))))))))))))))) Prw.rf 
  replace H := obh H; obtain ⟨h599, e600, H⟩ := H
  replace H := og H; obtain ⟨g618, H⟩ := H
  have e619 := Prw.nw (h := h599) (kd := 15) (ln := (201 : Int32).toNatClampNeg) (ns := (201 : Int32).toNatClampNeg) Prw.rf g618
  replace H := obh H; obtain ⟨h637, e638, H⟩ := H
  have e657 := Prw.sR (h := h637) (a := p0) (k := 19) (v := some (hN h599)) Prw.rf 
  replace H := oom H; obtain ⟨-, H⟩ | ⟨b676, e677, H⟩ := H
  · exact nz H
  replace H := og H; obtain ⟨g678, H⟩ := H
  subst g678
  replace H := og H; obtain ⟨g679, H⟩ := H
  replace H := ob H; obtain ⟨q681, c682, H⟩ := H
  have e684 := p_X6_spell c682
  have e683 := e684.w
  replace H := oom H; obtain ⟨-, H⟩ | ⟨b704, e705, H⟩ := H
  · exact nz H
  replace H := og H; obtain ⟨g706, H⟩ := H
  subst g706
  replace H := ob H; obtain ⟨q707, c708, H⟩ := H
  have e712 := p_X6_read c708
  have e711 := e712.w
  replace H := oom H; obtain ⟨e709, H⟩ | ⟨b710, e709, H⟩ := H
  · obtain rfl := Option.some.inj H
    exact ((((kW e638 ((kW e600 ((kW e563 (((kW e510 (((kW e460 (((kW e413 (((kW e369 ((((kW e313 ((kW e287 ((kW e262 (((kW e227 ((((kW e183 ((((kW e143 ((((kW e117 ((kW e101 ((kW e86 ((((kW e66 (((((kW e41 ((((kW e20 ((((kW e4 e2).tr e8).tr e12).tr e16)).tr e26).tr e31).tr e36)).tr e48).tr e54).sI).tr e60)).tr e72).sI).tr e79)).tr e93)).tr e109)).tr e125).sI).tr e134)).tr e154).tr e163).tr e173)).tr e195).tr e205).tr e216)).tr e238).tr e250)).tr e274)).tr e300)).tr e328).tr e341).tr e355)).tr e383).tr e398)).tr e428).tr e444)).tr e476).tr e493)).tr e527).tr e545)).tr e581)).tr e619)).tr e657).tr e683).tr e711)
  · replace H := oom H; obtain ⟨-, H⟩ | ⟨b734, e735, H⟩ := H
    · exact nz H
    replace H := og H; obtain ⟨g738, H⟩ := H
    replace H := ob H; obtain ⟨q736, c737, H⟩ := H
    have e740 := p_Jx4a65c_add_9ea2d c737
    have e739 := e740.w
    obtain rfl := Option.some.inj H
    exact (((((kW e638 ((kW e600 ((kW e563 (((kW e510 (((kW e460 (((kW e413 (((kW e369 ((((kW e313 ((kW e287 ((kW e262 (((kW e227 ((((kW e183 ((((kW e143 ((((kW e117 ((kW e101 ((kW e86 ((((kW e66 (((((kW e41 ((((kW e20 ((((kW e4 e2).tr e8).tr e12).tr e16)).tr e26).tr e31).tr e36)).tr e48).tr e54).sI).tr e60)).tr e72).sI).tr e79)).tr e93)).tr e109)).tr e125).sI).tr e134)).tr e154).tr e163).tr e173)).tr e195).tr e205).tr e216)).tr e238).tr e250)).tr e274)).tr e300)).tr e328).tr e341).tr e355)).tr e383).tr e398)).tr e428).tr e444)).tr e476).tr e493)).tr e527).tr e545)).tr e581)).tr e619)).tr e657).tr e683).tr e711).tr e739)
set_option maxHeartbeats 4000000 in
set_option maxRecDepth 20000 in
theorem t_X11_init {G : GE} (d : Nat) {p0 : Nat} {h : HS} {q : HS} (H : f_X11_init p0 h = some q) : CE G (d + 65) yX11_init miX11_init [.ref p0] h (none) (q) := by
  unfold f_X11_init at H
  refine ce_of rfl (by decide) (fun q => by first | rfl | cases q) (Nat.le_of_ble_eq_true rfl) rfl ?_
  refine g_aload_n dX11_init_0 rfl rfl ?_
  refine e_objI lmX11_3 dX11_init_1 (Nat.le_of_ble_eq_true rfl) (by omega) ?_
  refine g_aload_n dX11_init_4 rfl rfl ?_
  replace H := og H; obtain ⟨g1, H⟩ := H
  refine e_new (ci := 0) rfl (by decide) lcX11_9 lxJx4a65c lnJx4a65c dX11_init_5 ?_
  have e2 := Prw.nw (h := h) (kd := 1) (ln := 0) (ns := 3) Prw.rf g1
  replace H := obh H; obtain ⟨h3, e4, H⟩ := H
  refine e_hq e4 ?_
  have f5 := kT e4 hT_new
  refine e_dup dX11_init_8 rfl ?_
  replace H := ob H; obtain ⟨q6, c7, H⟩ := H
  refine i0 rfl lmX11_11 liJx4a65c_init_da8c8 msJx4a65c_init_da8c8 rfl dX11_init_9 (t_Jx4a65c_init_da8c8 (d + 61) c7) rfl (Nat.le_of_ble_eq_true rfl) (Nat.le_refl _) ?_
  have e9 := p_Jx4a65c_init_da8c8 c7
  have e8 := e9.w
  have f10 := e8.k f5 (by decide)
  replace H := og H; obtain ⟨g11, H⟩ := H
  refine e_putR g11 fpX11_12_12i (by first | exact Or.inl ⟨_, rfl⟩ | exact Or.inr ⟨_, rfl⟩) dX11_init_12 ?_
  have e12 := Prw.sR (h := q6) (a := p0) (k := 0) (v := some (hN h)) Prw.rf 
  have f13 := e12.k f10 (by decide)
  have f14 := e12.k g11 (by decide)
  refine g_aload_n dX11_init_15 rfl rfl ?_
  replace H := og H; obtain ⟨g15, H⟩ := H
  refine e_new (ci := 0) rfl (by decide) lcX11_9 lxJx4a65c lnJx4a65c dX11_init_16 ?_
  have e16 := Prw.nw (h := (sR q6 p0 0 (some (hN h)))) (kd := 1) (ln := 0) (ns := 3) Prw.rf g15
  have f17 := e16.k f13 (by decide)
  have f18 := e16.k f14 (by decide)
  replace H := obh H; obtain ⟨h19, e20, H⟩ := H
  refine e_hq e20 ?_
  have f21 := kT e20 f17
  have f22 := kT e20 f18
  have f23 := kT e20 hT_new
  refine e_dup dX11_init_19 rfl ?_
  replace H := ob H; obtain ⟨q24, c25, H⟩ := H
  refine i0 rfl lmX11_11 liJx4a65c_init_da8c8 msJx4a65c_init_da8c8 rfl dX11_init_20 (t_Jx4a65c_init_da8c8 (d + 61) c25) rfl (Nat.le_of_ble_eq_true rfl) (Nat.le_refl _) ?_
  have e27 := p_Jx4a65c_init_da8c8 c25
  have e26 := e27.w
  have f28 := e26.k f21 (by decide)
  have f29 := e26.k f22 (by decide)
  have f30 := e26.k f23 (by decide)
  refine e_putR f29 fpX11_16_12i (by first | exact Or.inl ⟨_, rfl⟩ | exact Or.inr ⟨_, rfl⟩) dX11_init_23 ?_
  have e31 := Prw.sR (h := q24) (a := p0) (k := 1) (v := some (hN (sR q6 p0 0 (some (hN h))))) Prw.rf 
  have f32 := e31.k f28 (by decide)
  have f33 := e31.k f29 (by decide)
  have f34 := e31.k f30 (by decide)
  refine g_aload_n dX11_init_26 rfl rfl ?_
  replace H := og H; obtain ⟨g35, H⟩ := H
  refine e_new (ci := 0) rfl (by decide) lcX11_9 lxJx4a65c lnJx4a65c dX11_init_27 ?_
  have e36 := Prw.nw (h := (sR q24 p0 1 (some (hN (sR q6 p0 0 (some (hN h))))))) (kd := 1) (ln := 0) (ns := 3) Prw.rf g35
  have f37 := e36.k f32 (by decide)
  have f38 := e36.k f33 (by decide)
  have f39 := e36.k f34 (by decide)
  replace H := obh H; obtain ⟨h40, e41, H⟩ := H
  refine e_hq e41 ?_
  have f42 := kT e41 f37
  have f43 := kT e41 f38
  have f44 := kT e41 f39
  have f45 := kT e41 hT_new
  refine e_dup dX11_init_30 rfl ?_
  replace H := ob H; obtain ⟨q46, c47, H⟩ := H
  refine i0 rfl lmX11_11 liJx4a65c_init_da8c8 msJx4a65c_init_da8c8 rfl dX11_init_31 (t_Jx4a65c_init_da8c8 (d + 61) c47) rfl (Nat.le_of_ble_eq_true rfl) (Nat.le_refl _) ?_
  have e49 := p_Jx4a65c_init_da8c8 c47
  have e48 := e49.w
  have f50 := e48.k f42 (by decide)
  have f51 := e48.k f43 (by decide)
  have f52 := e48.k f44 (by decide)
  have f53 := e48.k f45 (by decide)
  refine e_putR f51 fpX11_19_12i (by first | exact Or.inl ⟨_, rfl⟩ | exact Or.inr ⟨_, rfl⟩) dX11_init_34 ?_
  have e54 := Prw.sR (h := q46) (a := p0) (k := 2) (v := some (hN (sR q24 p0 1 (some (hN (sR q6 p0 0 (some (hN h)))))))) Prw.rf 
  have f55 := e54.k f50 (by decide)
  have f56 := e54.k f51 (by decide)
  have f57 := e54.k f52 (by decide)
  have f58 := e54.k f53 (by decide)
  refine g_aload_n dX11_init_37 rfl rfl ?_
  refine e_iconst (v := (0 : Int32)) dX11_init_38 (by decide) ?_
  refine e_putI f56 fpX11_22_12i rfl dX11_init_39 ?_
  refine g_aload_n dX11_init_42 rfl rfl ?_
  refine e_sipush (v := (300 : Int32)) dX11_init_43 (by decide) ?_
  replace H := og H; obtain ⟨g59, H⟩ := H
  refine e_newa (atype := .int) (kd := 15) rfl (by decide) la_int (by decide) (by decide) dX11_init_46 ?_
  have e60 := Prw.nw (h := (sI (sR q46 p0 2 (some (hN (sR q24 p0 1 (some (hN (sR q6 p0 0 (some (hN h))))))))) p0 3 (0 : Int32))) (kd := 15) (ln := (300 : Int32).toNatClampNeg) (ns := (300 : Int32).toNatClampNeg) Prw.rf g59
  have f61 := e60.k (kI f55) (by decide)
  have f62 := e60.k (kI f56) (by decide)
  have f63 := e60.k (kI f57) (by decide)
  have f64 := e60.k (kI f58) (by decide)
  replace H := obh H; obtain ⟨h65, e66, H⟩ := H
  refine e_hq e66 ?_
  have f67 := kT e66 f61
  have f68 := kT e66 f62
  have f69 := kT e66 f63
  have f70 := kT e66 f64
  have f71 := kT e66 hT_new
  refine e_putR f68 fpX11_26_12i (by first | exact Or.inl ⟨_, rfl⟩ | exact Or.inr ⟨_, rfl⟩) dX11_init_48 ?_
  have e72 := Prw.sR (h := h65) (a := p0) (k := 4) (v := some (hN (sI (sR q46 p0 2 (some (hN (sR q24 p0 1 (some (hN (sR q6 p0 0 (some (hN h))))))))) p0 3 (0 : Int32)))) Prw.rf 
  have f73 := e72.k f67 (by decide)
  have f74 := e72.k f68 (by decide)
  have f75 := e72.k f69 (by decide)
  have f76 := e72.k f70 (by decide)
  have f77 := e72.k f71 (by decide)
  refine g_aload_n dX11_init_51 rfl rfl ?_
  refine e_iconst (v := (0 : Int32)) dX11_init_52 (by decide) ?_
  refine e_putI f74 fpX11_30_12i rfl dX11_init_53 ?_
  refine g_aload_n dX11_init_56 rfl rfl ?_
  refine e_bipush (v := (6 : Int32)) dX11_init_57 (by decide) ?_
  replace H := og H; obtain ⟨g78, H⟩ := H
  refine e_newa (atype := .int) (kd := 15) rfl (by decide) la_int (by decide) (by decide) dX11_init_59 ?_
  have e79 := Prw.nw (h := (sI (sR h65 p0 4 (some (hN (sI (sR q46 p0 2 (some (hN (sR q24 p0 1 (some (hN (sR q6 p0 0 (some (hN h))))))))) p0 3 (0 : Int32))))) p0 5 (0 : Int32))) (kd := 15) (ln := (6 : Int32).toNatClampNeg) (ns := (6 : Int32).toNatClampNeg) Prw.rf g78
  have f80 := e79.k (kI f73) (by decide)
  have f81 := e79.k (kI f74) (by decide)
  have f82 := e79.k (kI f75) (by decide)
  have f83 := e79.k (kI f76) (by decide)
  have f84 := e79.k (kI f77) (by decide)
  replace H := obh H; obtain ⟨h85, e86, H⟩ := H
  refine e_hq e86 ?_
  have f87 := kT e86 f80
  have f88 := kT e86 f81
  have f89 := kT e86 f82
  have f90 := kT e86 f83
  have f91 := kT e86 f84
  have f92 := kT e86 hT_new
  refine e_putR f88 fpX11_33_12i (by first | exact Or.inl ⟨_, rfl⟩ | exact Or.inr ⟨_, rfl⟩) dX11_init_61 ?_
  have e93 := Prw.sR (h := h85) (a := p0) (k := 6) (v := some (hN (sI (sR h65 p0 4 (some (hN (sI (sR q46 p0 2 (some (hN (sR q24 p0 1 (some (hN (sR q6 p0 0 (some (hN h))))))))) p0 3 (0 : Int32))))) p0 5 (0 : Int32)))) Prw.rf 
  have f94 := e93.k f87 (by decide)
  have f95 := e93.k f88 (by decide)
  have f96 := e93.k f89 (by decide)
  have f97 := e93.k f90 (by decide)
  have f98 := e93.k f91 (by decide)
  have f99 := e93.k f92 (by decide)
  replace H := obh H; obtain ⟨h100, e101, H⟩ := H
  refine e_hq e101 ?_
  have f102 := kT e101 f94
  have f103 := kT e101 f95
  have f104 := kT e101 f96
  have f105 := kT e101 f97
  have f106 := kT e101 f98
  have f107 := kT e101 f99
  refine g_aload_n dX11_init_64 rfl rfl ?_
  refine e_bipush (v := (6 : Int32)) dX11_init_65 (by decide) ?_
  replace H := og H; obtain ⟨g108, H⟩ := H
  refine e_newa (atype := .int) (kd := 15) rfl (by decide) la_int (by decide) (by decide) dX11_init_67 ?_
  have e109 := Prw.nw (h := h100) (kd := 15) (ln := (6 : Int32).toNatClampNeg) (ns := (6 : Int32).toNatClampNeg) Prw.rf g108
  have f110 := e109.k f102 (by decide)
  have f111 := e109.k f103 (by decide)
  have f112 := e109.k f104 (by decide)
  have f113 := e109.k f105 (by decide)
  have f114 := e109.k f106 (by decide)
  have f115 := e109.k f107 (by decide)
  replace H := obh H; obtain ⟨h116, e117, H⟩ := H
  refine e_hq e117 ?_
  have f118 := kT e117 f110
  have f119 := kT e117 f111
  have f120 := kT e117 f112
  have f121 := kT e117 f113
  have f122 := kT e117 f114
  have f123 := kT e117 f115
  have f124 := kT e117 hT_new
  refine e_putR f119 fpX11_36_12i (by first | exact Or.inl ⟨_, rfl⟩ | exact Or.inr ⟨_, rfl⟩) dX11_init_69 ?_
  have e125 := Prw.sR (h := h116) (a := p0) (k := 7) (v := some (hN h100)) Prw.rf 
  have f126 := e125.k f118 (by decide)
  have f127 := e125.k f119 (by decide)
  have f128 := e125.k f120 (by decide)
  have f129 := e125.k f121 (by decide)
  have f130 := e125.k f122 (by decide)
  have f131 := e125.k f123 (by decide)
  have f132 := e125.k f124 (by decide)
  refine g_aload_n dX11_init_72 rfl rfl ?_
  refine e_iconst (v := (0 : Int32)) dX11_init_73 (by decide) ?_
  refine e_putI f127 fpX11_39_12i rfl dX11_init_74 ?_
  refine g_aload_n dX11_init_77 rfl rfl ?_
  replace H := og H; obtain ⟨g133, H⟩ := H
  refine e_new (ci := 7) rfl (by decide) lcX11_42 lxX6 lnX6 dX11_init_78 ?_
  have e134 := Prw.nw (h := (sI (sR h116 p0 7 (some (hN h100))) p0 8 (0 : Int32))) (kd := 8) (ln := 0) (ns := 9) Prw.rf g133
  have f135 := e134.k (kI f126) (by decide)
  have f136 := e134.k (kI f127) (by decide)
  have f137 := e134.k (kI f128) (by decide)
  have f138 := e134.k (kI f129) (by decide)
  have f139 := e134.k (kI f130) (by decide)
  have f140 := e134.k (kI f131) (by decide)
  have f141 := e134.k (kI f132) (by decide)
  replace H := obh H; obtain ⟨h142, e143, H⟩ := H
  refine e_hq e143 ?_
  have f144 := kT e143 f135
  have f145 := kT e143 f136
  have f146 := kT e143 f137
  have f147 := kT e143 f138
  have f148 := kT e143 f139
  have f149 := kT e143 f140
  have f150 := kT e143 f141
  have f151 := kT e143 hT_new
  refine e_dup dX11_init_81 rfl ?_
  replace H := ob H; obtain ⟨q152, c153, H⟩ := H
  refine in0 rfl (host := RX11) (by decide) liX6_init msX6_init rfl dX11_init_82 (t_X6_init (d + 63) c153) rfl (Nat.le_of_ble_eq_true rfl) (Nat.le_refl _) ?_
  have e154 := p_X6_init c153
  have f155 := e154.k f144 (by decide)
  have f156 := e154.k f145 (by decide)
  have f157 := e154.k f146 (by decide)
  have f158 := e154.k f147 (by decide)
  have f159 := e154.k f148 (by decide)
  have f160 := e154.k f149 (by decide)
  have f161 := e154.k f150 (by decide)
  have f162 := e154.k f151 (by decide)
  refine e_putR f156 fpX11_45_12i (by first | exact Or.inl ⟨_, rfl⟩ | exact Or.inr ⟨_, rfl⟩) dX11_init_85 ?_
  have e163 := Prw.sR (h := q152) (a := p0) (k := 9) (v := some (hN (sI (sR h116 p0 7 (some (hN h100))) p0 8 (0 : Int32)))) Prw.rf 
  have f164 := e163.k f155 (by decide)
  have f165 := e163.k f156 (by decide)
  have f166 := e163.k f157 (by decide)
  have f167 := e163.k f158 (by decide)
  have f168 := e163.k f159 (by decide)
  have f169 := e163.k f160 (by decide)
  have f170 := e163.k f161 (by decide)
  have f171 := e163.k f162 (by decide)
  refine g_aload_n dX11_init_88 rfl rfl ?_
  replace H := og H; obtain ⟨g172, H⟩ := H
  refine e_new (ci := 6) rfl (by decide) lcX11_49 lxX5 lnX5 dX11_init_89 ?_
  have e173 := Prw.nw (h := (sR q152 p0 9 (some (hN (sI (sR h116 p0 7 (some (hN h100))) p0 8 (0 : Int32)))))) (kd := 7) (ln := 0) (ns := 5) Prw.rf g172
  have f174 := e173.k f164 (by decide)
  have f175 := e173.k f165 (by decide)
  have f176 := e173.k f166 (by decide)
  have f177 := e173.k f167 (by decide)
  have f178 := e173.k f168 (by decide)
  have f179 := e173.k f169 (by decide)
  have f180 := e173.k f170 (by decide)
  have f181 := e173.k f171 (by decide)
  replace H := obh H; obtain ⟨h182, e183, H⟩ := H
  refine e_hq e183 ?_
  have f184 := kT e183 f174
  have f185 := kT e183 f175
  have f186 := kT e183 f176
  have f187 := kT e183 f177
  have f188 := kT e183 f178
  have f189 := kT e183 f179
  have f190 := kT e183 f180
  have f191 := kT e183 f181
  have f192 := kT e183 hT_new
  refine e_dup dX11_init_92 rfl ?_
  replace H := ob H; obtain ⟨q193, c194, H⟩ := H
  refine in0 rfl (host := RX11) (by decide) liX5_init msX5_init rfl dX11_init_93 (t_X5_init (d + 63) c194) rfl (Nat.le_of_ble_eq_true rfl) (Nat.le_refl _) ?_
  have e195 := p_X5_init c194
  have f196 := e195.k f184 (by decide)
  have f197 := e195.k f185 (by decide)
  have f198 := e195.k f186 (by decide)
  have f199 := e195.k f187 (by decide)
  have f200 := e195.k f188 (by decide)
  have f201 := e195.k f189 (by decide)
  have f202 := e195.k f190 (by decide)
  have f203 := e195.k f191 (by decide)
  have f204 := e195.k f192 (by decide)
  refine e_putR f197 fpX11_52_12i (by first | exact Or.inl ⟨_, rfl⟩ | exact Or.inr ⟨_, rfl⟩) dX11_init_96 ?_
  have e205 := Prw.sR (h := q193) (a := p0) (k := 10) (v := some (hN (sR q152 p0 9 (some (hN (sI (sR h116 p0 7 (some (hN h100))) p0 8 (0 : Int32))))))) Prw.rf 
  have f206 := e205.k f196 (by decide)
  have f207 := e205.k f197 (by decide)
  have f208 := e205.k f198 (by decide)
  have f209 := e205.k f199 (by decide)
  have f210 := e205.k f200 (by decide)
  have f211 := e205.k f201 (by decide)
  have f212 := e205.k f202 (by decide)
  have f213 := e205.k f203 (by decide)
  have f214 := e205.k f204 (by decide)
  refine g_aload_n dX11_init_99 rfl rfl ?_
  refine e_iconst (v := (4 : Int32)) dX11_init_100 (by decide) ?_
  replace H := og H; obtain ⟨g215, H⟩ := H
  refine e_anewI lcX11_56 (by decide) (by decide) dX11_init_101 ?_
  have e216 := Prw.nw (h := (sR q193 p0 10 (some (hN (sR q152 p0 9 (some (hN (sI (sR h116 p0 7 (some (hN h100))) p0 8 (0 : Int32))))))))) (kd := 19) (ln := (4 : Int32).toNatClampNeg) (ns := (4 : Int32).toNatClampNeg) Prw.rf g215
  have f217 := e216.k f206 (by decide)
  have f218 := e216.k f207 (by decide)
  have f219 := e216.k f208 (by decide)
  have f220 := e216.k f209 (by decide)
  have f221 := e216.k f210 (by decide)
  have f222 := e216.k f211 (by decide)
  have f223 := e216.k f212 (by decide)
  have f224 := e216.k f213 (by decide)
  have f225 := e216.k f214 (by decide)
  replace H := obh H; obtain ⟨h226, e227, H⟩ := H
  refine e_hq e227 ?_
  have f228 := kT e227 f217
  have f229 := kT e227 f218
  have f230 := kT e227 f219
  have f231 := kT e227 f220
  have f232 := kT e227 f221
  have f233 := kT e227 f222
  have f234 := kT e227 f223
  have f235 := kT e227 f224
  have f236 := kT e227 f225
  have f237 := kT e227 hT_new
  refine e_putR f229 fpX11_57_12i (by first | exact Or.inl ⟨_, rfl⟩ | exact Or.inr ⟨_, rfl⟩) dX11_init_104 ?_
  have e238 := Prw.sR (h := h226) (a := p0) (k := 11) (v := some (hN (sR q193 p0 10 (some (hN (sR q152 p0 9 (some (hN (sI (sR h116 p0 7 (some (hN h100))) p0 8 (0 : Int32)))))))))) Prw.rf 
  have f239 := e238.k f228 (by decide)
  have f240 := e238.k f229 (by decide)
  have f241 := e238.k f230 (by decide)
  have f242 := e238.k f231 (by decide)
  have f243 := e238.k f232 (by decide)
  have f244 := e238.k f233 (by decide)
  have f245 := e238.k f234 (by decide)
  have f246 := e238.k f235 (by decide)
  have f247 := e238.k f236 (by decide)
  have f248 := e238.k f237 (by decide)
  refine g_aload_n dX11_init_107 rfl rfl ?_
  refine e_iconst (v := (4 : Int32)) dX11_init_108 (by decide) ?_
  replace H := og H; obtain ⟨g249, H⟩ := H
  refine e_newa (atype := .int) (kd := 15) rfl (by decide) la_int (by decide) (by decide) dX11_init_109 ?_
  have e250 := Prw.nw (h := (sR h226 p0 11 (some (hN (sR q193 p0 10 (some (hN (sR q152 p0 9 (some (hN (sI (sR h116 p0 7 (some (hN h100))) p0 8 (0 : Int32)))))))))))) (kd := 15) (ln := (4 : Int32).toNatClampNeg) (ns := (4 : Int32).toNatClampNeg) Prw.rf g249
  have f251 := e250.k f239 (by decide)
  have f252 := e250.k f240 (by decide)
  have f253 := e250.k f241 (by decide)
  have f254 := e250.k f242 (by decide)
  have f255 := e250.k f243 (by decide)
  have f256 := e250.k f244 (by decide)
  have f257 := e250.k f245 (by decide)
  have f258 := e250.k f246 (by decide)
  have f259 := e250.k f247 (by decide)
  have f260 := e250.k f248 (by decide)
  replace H := obh H; obtain ⟨h261, e262, H⟩ := H
  refine e_hq e262 ?_
  have f263 := kT e262 f251
  have f264 := kT e262 f252
  have f265 := kT e262 f253
  have f266 := kT e262 f254
  have f267 := kT e262 f255
  have f268 := kT e262 f256
  have f269 := kT e262 f257
  have f270 := kT e262 f258
  have f271 := kT e262 f259
  have f272 := kT e262 f260
  have f273 := kT e262 hT_new
  refine e_putR f264 fpX11_61_12i (by first | exact Or.inl ⟨_, rfl⟩ | exact Or.inr ⟨_, rfl⟩) dX11_init_111 ?_
  have e274 := Prw.sR (h := h261) (a := p0) (k := 12) (v := some (hN (sR h226 p0 11 (some (hN (sR q193 p0 10 (some (hN (sR q152 p0 9 (some (hN (sI (sR h116 p0 7 (some (hN h100))) p0 8 (0 : Int32))))))))))))) Prw.rf 
  have f275 := e274.k f263 (by decide)
  have f276 := e274.k f264 (by decide)
  have f277 := e274.k f265 (by decide)
  have f278 := e274.k f266 (by decide)
  have f279 := e274.k f267 (by decide)
  have f280 := e274.k f268 (by decide)
  have f281 := e274.k f269 (by decide)
  have f282 := e274.k f270 (by decide)
  have f283 := e274.k f271 (by decide)
  have f284 := e274.k f272 (by decide)
  have f285 := e274.k f273 (by decide)
  replace H := obh H; obtain ⟨h286, e287, H⟩ := H
  refine e_hq e287 ?_
  have f288 := kT e287 f275
  have f289 := kT e287 f276
  have f290 := kT e287 f277
  have f291 := kT e287 f278
  have f292 := kT e287 f279
  have f293 := kT e287 f280
  have f294 := kT e287 f281
  have f295 := kT e287 f282
  have f296 := kT e287 f283
  have f297 := kT e287 f284
  have f298 := kT e287 f285
  refine g_aload_n dX11_init_114 rfl rfl ?_
  replace H := og H; obtain ⟨g299, H⟩ := H
  refine e_new (ci := 3) rfl (by decide) lcX11_64 lxX2 lnX2 dX11_init_115 ?_
  have e300 := Prw.nw (h := h286) (kd := 4) (ln := 0) (ns := 3) Prw.rf g299
  have f301 := e300.k f288 (by decide)
  have f302 := e300.k f289 (by decide)
  have f303 := e300.k f290 (by decide)
  have f304 := e300.k f291 (by decide)
  have f305 := e300.k f292 (by decide)
  have f306 := e300.k f293 (by decide)
  have f307 := e300.k f294 (by decide)
  have f308 := e300.k f295 (by decide)
  have f309 := e300.k f296 (by decide)
  have f310 := e300.k f297 (by decide)
  have f311 := e300.k f298 (by decide)
  replace H := obh H; obtain ⟨h312, e313, H⟩ := H
  refine e_hq e313 ?_
  have f314 := kT e313 f301
  have f315 := kT e313 f302
  have f316 := kT e313 f303
  have f317 := kT e313 f304
  have f318 := kT e313 f305
  have f319 := kT e313 f306
  have f320 := kT e313 f307
  have f321 := kT e313 f308
  have f322 := kT e313 f309
  have f323 := kT e313 f310
  have f324 := kT e313 f311
  have f325 := kT e313 hT_new
  refine e_dup dX11_init_118 rfl ?_
  replace H := ob H; obtain ⟨q326, c327, H⟩ := H
  refine in0 rfl (host := RX11) (by decide) liX2_init msX2_init rfl dX11_init_119 (t_X2_init (d + 63) c327) rfl (Nat.le_of_ble_eq_true rfl) (Nat.le_refl _) ?_
  have e328 := p_X2_init c327
  have f329 := e328.k f314 (by decide)
  have f330 := e328.k f315 (by decide)
  have f331 := e328.k f316 (by decide)
  have f332 := e328.k f317 (by decide)
  have f333 := e328.k f318 (by decide)
  have f334 := e328.k f319 (by decide)
  have f335 := e328.k f320 (by decide)
  have f336 := e328.k f321 (by decide)
  have f337 := e328.k f322 (by decide)
  have f338 := e328.k f323 (by decide)
  have f339 := e328.k f324 (by decide)
  have f340 := e328.k f325 (by decide)
  refine e_putR f330 fpX11_67_12i (by first | exact Or.inl ⟨_, rfl⟩ | exact Or.inr ⟨_, rfl⟩) dX11_init_122 ?_
  have e341 := Prw.sR (h := q326) (a := p0) (k := 13) (v := some (hN h286)) Prw.rf 
  have f342 := e341.k f329 (by decide)
  have f343 := e341.k f330 (by decide)
  have f344 := e341.k f331 (by decide)
  have f345 := e341.k f332 (by decide)
  have f346 := e341.k f333 (by decide)
  have f347 := e341.k f334 (by decide)
  have f348 := e341.k f335 (by decide)
  have f349 := e341.k f336 (by decide)
  have f350 := e341.k f337 (by decide)
  have f351 := e341.k f338 (by decide)
  have f352 := e341.k f339 (by decide)
  have f353 := e341.k f340 (by decide)
  refine g_aload_n dX11_init_125 rfl rfl ?_
  refine e_bipush (v := (6 : Int32)) dX11_init_126 (by decide) ?_
  replace H := og H; obtain ⟨g354, H⟩ := H
  refine e_newa (atype := .int) (kd := 15) rfl (by decide) la_int (by decide) (by decide) dX11_init_128 ?_
  have e355 := Prw.nw (h := (sR q326 p0 13 (some (hN h286)))) (kd := 15) (ln := (6 : Int32).toNatClampNeg) (ns := (6 : Int32).toNatClampNeg) Prw.rf g354
  have f356 := e355.k f342 (by decide)
  have f357 := e355.k f343 (by decide)
  have f358 := e355.k f344 (by decide)
  have f359 := e355.k f345 (by decide)
  have f360 := e355.k f346 (by decide)
  have f361 := e355.k f347 (by decide)
  have f362 := e355.k f348 (by decide)
  have f363 := e355.k f349 (by decide)
  have f364 := e355.k f350 (by decide)
  have f365 := e355.k f351 (by decide)
  have f366 := e355.k f352 (by decide)
  have f367 := e355.k f353 (by decide)
  replace H := obh H; obtain ⟨h368, e369, H⟩ := H
  refine e_hq e369 ?_
  have f370 := kT e369 f356
  have f371 := kT e369 f357
  have f372 := kT e369 f358
  have f373 := kT e369 f359
  have f374 := kT e369 f360
  have f375 := kT e369 f361
  have f376 := kT e369 f362
  have f377 := kT e369 f363
  have f378 := kT e369 f364
  have f379 := kT e369 f365
  have f380 := kT e369 f366
  have f381 := kT e369 f367
  have f382 := kT e369 hT_new
  refine e_putR f371 fpX11_73_12i (by first | exact Or.inl ⟨_, rfl⟩ | exact Or.inr ⟨_, rfl⟩) dX11_init_130 ?_
  have e383 := Prw.sR (h := h368) (a := p0) (k := 14) (v := some (hN (sR q326 p0 13 (some (hN h286))))) Prw.rf 
  have f384 := e383.k f370 (by decide)
  have f385 := e383.k f371 (by decide)
  have f386 := e383.k f372 (by decide)
  have f387 := e383.k f373 (by decide)
  have f388 := e383.k f374 (by decide)
  have f389 := e383.k f375 (by decide)
  have f390 := e383.k f376 (by decide)
  have f391 := e383.k f377 (by decide)
  have f392 := e383.k f378 (by decide)
  have f393 := e383.k f379 (by decide)
  have f394 := e383.k f380 (by decide)
  have f395 := e383.k f381 (by decide)
  have f396 := e383.k f382 (by decide)
  refine g_aload_n dX11_init_133 rfl rfl ?_
  refine e_iconst (v := (4 : Int32)) dX11_init_134 (by decide) ?_
  replace H := og H; obtain ⟨g397, H⟩ := H
  refine e_newa (atype := .int) (kd := 15) rfl (by decide) la_int (by decide) (by decide) dX11_init_135 ?_
  have e398 := Prw.nw (h := (sR h368 p0 14 (some (hN (sR q326 p0 13 (some (hN h286))))))) (kd := 15) (ln := (4 : Int32).toNatClampNeg) (ns := (4 : Int32).toNatClampNeg) Prw.rf g397
  have f399 := e398.k f384 (by decide)
  have f400 := e398.k f385 (by decide)
  have f401 := e398.k f386 (by decide)
  have f402 := e398.k f387 (by decide)
  have f403 := e398.k f388 (by decide)
  have f404 := e398.k f389 (by decide)
  have f405 := e398.k f390 (by decide)
  have f406 := e398.k f391 (by decide)
  have f407 := e398.k f392 (by decide)
  have f408 := e398.k f393 (by decide)
  have f409 := e398.k f394 (by decide)
  have f410 := e398.k f395 (by decide)
  have f411 := e398.k f396 (by decide)
  replace H := obh H; obtain ⟨h412, e413, H⟩ := H
  refine e_hq e413 ?_
  have f414 := kT e413 f399
  have f415 := kT e413 f400
  have f416 := kT e413 f401
  have f417 := kT e413 f402
  have f418 := kT e413 f403
  have f419 := kT e413 f404
  have f420 := kT e413 f405
  have f421 := kT e413 f406
  have f422 := kT e413 f407
  have f423 := kT e413 f408
  have f424 := kT e413 f409
  have f425 := kT e413 f410
  have f426 := kT e413 f411
  have f427 := kT e413 hT_new
  refine e_putR f415 fpX11_76_12i (by first | exact Or.inl ⟨_, rfl⟩ | exact Or.inr ⟨_, rfl⟩) dX11_init_137 ?_
  have e428 := Prw.sR (h := h412) (a := p0) (k := 15) (v := some (hN (sR h368 p0 14 (some (hN (sR q326 p0 13 (some (hN h286)))))))) Prw.rf 
  have f429 := e428.k f414 (by decide)
  have f430 := e428.k f415 (by decide)
  have f431 := e428.k f416 (by decide)
  have f432 := e428.k f417 (by decide)
  have f433 := e428.k f418 (by decide)
  have f434 := e428.k f419 (by decide)
  have f435 := e428.k f420 (by decide)
  have f436 := e428.k f421 (by decide)
  have f437 := e428.k f422 (by decide)
  have f438 := e428.k f423 (by decide)
  have f439 := e428.k f424 (by decide)
  have f440 := e428.k f425 (by decide)
  have f441 := e428.k f426 (by decide)
  have f442 := e428.k f427 (by decide)
  refine g_aload_n dX11_init_140 rfl rfl ?_
  refine e_bipush (v := (40 : Int32)) dX11_init_141 (by decide) ?_
  replace H := og H; obtain ⟨g443, H⟩ := H
  refine e_newa (atype := .long) (kd := 16) rfl (by decide) la_long (by decide) (by decide) dX11_init_143 ?_
  have e444 := Prw.nw (h := (sR h412 p0 15 (some (hN (sR h368 p0 14 (some (hN (sR q326 p0 13 (some (hN h286)))))))))) (kd := 16) (ln := (40 : Int32).toNatClampNeg) (ns := (40 : Int32).toNatClampNeg) Prw.rf g443
  have f445 := e444.k f429 (by decide)
  have f446 := e444.k f430 (by decide)
  have f447 := e444.k f431 (by decide)
  have f448 := e444.k f432 (by decide)
  have f449 := e444.k f433 (by decide)
  have f450 := e444.k f434 (by decide)
  have f451 := e444.k f435 (by decide)
  have f452 := e444.k f436 (by decide)
  have f453 := e444.k f437 (by decide)
  have f454 := e444.k f438 (by decide)
  have f455 := e444.k f439 (by decide)
  have f456 := e444.k f440 (by decide)
  have f457 := e444.k f441 (by decide)
  have f458 := e444.k f442 (by decide)
  replace H := obh H; obtain ⟨h459, e460, H⟩ := H
  refine e_hq e460 ?_
  have f461 := kT e460 f445
  have f462 := kT e460 f446
  have f463 := kT e460 f447
  have f464 := kT e460 f448
  have f465 := kT e460 f449
  have f466 := kT e460 f450
  have f467 := kT e460 f451
  have f468 := kT e460 f452
  have f469 := kT e460 f453
  have f470 := kT e460 f454
  have f471 := kT e460 f455
  have f472 := kT e460 f456
  have f473 := kT e460 f457
  have f474 := kT e460 f458
  have f475 := kT e460 hT_new
  refine e_putR f462 fpX11_79_12i (by first | exact Or.inl ⟨_, rfl⟩ | exact Or.inr ⟨_, rfl⟩) dX11_init_145 ?_
  have e476 := Prw.sR (h := h459) (a := p0) (k := 16) (v := some (hN (sR h412 p0 15 (some (hN (sR h368 p0 14 (some (hN (sR q326 p0 13 (some (hN h286))))))))))) Prw.rf 
  have f477 := e476.k f461 (by decide)
  have f478 := e476.k f462 (by decide)
  have f479 := e476.k f463 (by decide)
  have f480 := e476.k f464 (by decide)
  have f481 := e476.k f465 (by decide)
  have f482 := e476.k f466 (by decide)
  have f483 := e476.k f467 (by decide)
  have f484 := e476.k f468 (by decide)
  have f485 := e476.k f469 (by decide)
  have f486 := e476.k f470 (by decide)
  have f487 := e476.k f471 (by decide)
  have f488 := e476.k f472 (by decide)
  have f489 := e476.k f473 (by decide)
  have f490 := e476.k f474 (by decide)
  have f491 := e476.k f475 (by decide)
  refine g_aload_n dX11_init_148 rfl rfl ?_
  refine e_bipush (v := (40 : Int32)) dX11_init_149 (by decide) ?_
  replace H := og H; obtain ⟨g492, H⟩ := H
  refine e_newa (atype := .long) (kd := 16) rfl (by decide) la_long (by decide) (by decide) dX11_init_151 ?_
  have e493 := Prw.nw (h := (sR h459 p0 16 (some (hN (sR h412 p0 15 (some (hN (sR h368 p0 14 (some (hN (sR q326 p0 13 (some (hN h286))))))))))))) (kd := 16) (ln := (40 : Int32).toNatClampNeg) (ns := (40 : Int32).toNatClampNeg) Prw.rf g492
  have f494 := e493.k f477 (by decide)
  have f495 := e493.k f478 (by decide)
  have f496 := e493.k f479 (by decide)
  have f497 := e493.k f480 (by decide)
  have f498 := e493.k f481 (by decide)
  have f499 := e493.k f482 (by decide)
  have f500 := e493.k f483 (by decide)
  have f501 := e493.k f484 (by decide)
  have f502 := e493.k f485 (by decide)
  have f503 := e493.k f486 (by decide)
  have f504 := e493.k f487 (by decide)
  have f505 := e493.k f488 (by decide)
  have f506 := e493.k f489 (by decide)
  have f507 := e493.k f490 (by decide)
  have f508 := e493.k f491 (by decide)
  replace H := obh H; obtain ⟨h509, e510, H⟩ := H
  refine e_hq e510 ?_
  have f511 := kT e510 f494
  have f512 := kT e510 f495
  have f513 := kT e510 f496
  have f514 := kT e510 f497
  have f515 := kT e510 f498
  have f516 := kT e510 f499
  have f517 := kT e510 f500
  have f518 := kT e510 f501
  have f519 := kT e510 f502
  have f520 := kT e510 f503
  have f521 := kT e510 f504
  have f522 := kT e510 f505
  have f523 := kT e510 f506
  have f524 := kT e510 f507
  have f525 := kT e510 f508
  have f526 := kT e510 hT_new
  refine e_putR f512 fpX11_83_12i (by first | exact Or.inl ⟨_, rfl⟩ | exact Or.inr ⟨_, rfl⟩) dX11_init_153 ?_
  have e527 := Prw.sR (h := h509) (a := p0) (k := 17) (v := some (hN (sR h459 p0 16 (some (hN (sR h412 p0 15 (some (hN (sR h368 p0 14 (some (hN (sR q326 p0 13 (some (hN h286)))))))))))))) Prw.rf 
  have f528 := e527.k f511 (by decide)
  have f529 := e527.k f512 (by decide)
  have f530 := e527.k f513 (by decide)
  have f531 := e527.k f514 (by decide)
  have f532 := e527.k f515 (by decide)
  have f533 := e527.k f516 (by decide)
  have f534 := e527.k f517 (by decide)
  have f535 := e527.k f518 (by decide)
  have f536 := e527.k f519 (by decide)
  have f537 := e527.k f520 (by decide)
  have f538 := e527.k f521 (by decide)
  have f539 := e527.k f522 (by decide)
  have f540 := e527.k f523 (by decide)
  have f541 := e527.k f524 (by decide)
  have f542 := e527.k f525 (by decide)
  have f543 := e527.k f526 (by decide)
  refine g_aload_n dX11_init_156 rfl rfl ?_
  refine e_bipush (v := (8 : Int32)) dX11_init_157 (by decide) ?_
  replace H := og H; obtain ⟨g544, H⟩ := H
  refine e_newa (atype := .int) (kd := 15) rfl (by decide) la_int (by decide) (by decide) dX11_init_159 ?_
  have e545 := Prw.nw (h := (sR h509 p0 17 (some (hN (sR h459 p0 16 (some (hN (sR h412 p0 15 (some (hN (sR h368 p0 14 (some (hN (sR q326 p0 13 (some (hN h286)))))))))))))))) (kd := 15) (ln := (8 : Int32).toNatClampNeg) (ns := (8 : Int32).toNatClampNeg) Prw.rf g544
  have f546 := e545.k f528 (by decide)
  have f547 := e545.k f529 (by decide)
  have f548 := e545.k f530 (by decide)
  have f549 := e545.k f531 (by decide)
  have f550 := e545.k f532 (by decide)
  have f551 := e545.k f533 (by decide)
  have f552 := e545.k f534 (by decide)
  have f553 := e545.k f535 (by decide)
  have f554 := e545.k f536 (by decide)
  have f555 := e545.k f537 (by decide)
  have f556 := e545.k f538 (by decide)
  have f557 := e545.k f539 (by decide)
  have f558 := e545.k f540 (by decide)
  have f559 := e545.k f541 (by decide)
  have f560 := e545.k f542 (by decide)
  have f561 := e545.k f543 (by decide)
  replace H := obh H; obtain ⟨h562, e563, H⟩ := H
  refine e_hq e563 ?_
  have f564 := kT e563 f546
  have f565 := kT e563 f547
  have f566 := kT e563 f548
  have f567 := kT e563 f549
  have f568 := kT e563 f550
  have f569 := kT e563 f551
  have f570 := kT e563 f552
  have f571 := kT e563 f553
  have f572 := kT e563 f554
  have f573 := kT e563 f555
  have f574 := kT e563 f556
  have f575 := kT e563 f557
  have f576 := kT e563 f558
  have f577 := kT e563 f559
  have f578 := kT e563 f560
  have f579 := kT e563 f561
  have f580 := kT e563 hT_new
  refine e_putR f565 fpX11_86_12i (by first | exact Or.inl ⟨_, rfl⟩ | exact Or.inr ⟨_, rfl⟩) dX11_init_161 ?_
  have e581 := Prw.sR (h := h562) (a := p0) (k := 18) (v := some (hN (sR h509 p0 17 (some (hN (sR h459 p0 16 (some (hN (sR h412 p0 15 (some (hN (sR h368 p0 14 (some (hN (sR q326 p0 13 (some (hN h286))))))))))))))))) Prw.rf 
  have f582 := e581.k f564 (by decide)
  have f583 := e581.k f565 (by decide)
  have f584 := e581.k f566 (by decide)
  have f585 := e581.k f567 (by decide)
  have f586 := e581.k f568 (by decide)
  have f587 := e581.k f569 (by decide)
  have f588 := e581.k f570 (by decide)
  have f589 := e581.k f571 (by decide)
  have f590 := e581.k f572 (by decide)
  have f591 := e581.k f573 (by decide)
  have f592 := e581.k f574 (by decide)
  have f593 := e581.k f575 (by decide)
  have f594 := e581.k f576 (by decide)
  have f595 := e581.k f577 (by decide)
  have f596 := e581.k f578 (by decide)
  have f597 := e581.k f579 (by decide)
  have f598 := e581.k f580 (by decide)
  replace H := obh H; obtain ⟨h599, e600, H⟩ := H
  refine e_hq e600 ?_
  have f601 := kT e600 f582
  have f602 := kT e600 f583
  have f603 := kT e600 f584
  have f604 := kT e600 f585
  have f605 := kT e600 f586
  have f606 := kT e600 f587
  have f607 := kT e600 f588
  have f608 := kT e600 f589
  have f609 := kT e600 f590
  have f610 := kT e600 f591
  have f611 := kT e600 f592
  have f612 := kT e600 f593
  have f613 := kT e600 f594
  have f614 := kT e600 f595
  have f615 := kT e600 f596
  have f616 := kT e600 f597
  have f617 := kT e600 f598
  refine g_aload_n dX11_init_164 rfl rfl ?_
  refine e_sipush (v := (201 : Int32)) dX11_init_165 (by decide) ?_
  replace H := og H; obtain ⟨g618, H⟩ := H
  refine e_newa (atype := .int) (kd := 15) rfl (by decide) la_int (by decide) (by decide) dX11_init_168 ?_
  have e619 := Prw.nw (h := h599) (kd := 15) (ln := (201 : Int32).toNatClampNeg) (ns := (201 : Int32).toNatClampNeg) Prw.rf g618
  have f620 := e619.k f601 (by decide)
  have f621 := e619.k f602 (by decide)
  have f622 := e619.k f603 (by decide)
  have f623 := e619.k f604 (by decide)
  have f624 := e619.k f605 (by decide)
  have f625 := e619.k f606 (by decide)
  have f626 := e619.k f607 (by decide)
  have f627 := e619.k f608 (by decide)
  have f628 := e619.k f609 (by decide)
  have f629 := e619.k f610 (by decide)
  have f630 := e619.k f611 (by decide)
  have f631 := e619.k f612 (by decide)
  have f632 := e619.k f613 (by decide)
  have f633 := e619.k f614 (by decide)
  have f634 := e619.k f615 (by decide)
  have f635 := e619.k f616 (by decide)
  have f636 := e619.k f617 (by decide)
  replace H := obh H; obtain ⟨h637, e638, H⟩ := H
  refine e_hq e638 ?_
  have f639 := kT e638 f620
  have f640 := kT e638 f621
  have f641 := kT e638 f622
  have f642 := kT e638 f623
  have f643 := kT e638 f624
  have f644 := kT e638 f625
  have f645 := kT e638 f626
  have f646 := kT e638 f627
  have f647 := kT e638 f628
  have f648 := kT e638 f629
  have f649 := kT e638 f630
  have f650 := kT e638 f631
  have f651 := kT e638 f632
  have f652 := kT e638 f633
  have f653 := kT e638 f634
  have f654 := kT e638 f635
  have f655 := kT e638 f636
  have f656 := kT e638 hT_new
  refine e_putR f640 fpX11_89_12i (by first | exact Or.inl ⟨_, rfl⟩ | exact Or.inr ⟨_, rfl⟩) dX11_init_170 ?_
  have e657 := Prw.sR (h := h637) (a := p0) (k := 19) (v := some (hN h599)) Prw.rf 
  have f658 := e657.k f639 (by decide)
  have f659 := e657.k f640 (by decide)
  have f660 := e657.k f641 (by decide)
  have f661 := e657.k f642 (by decide)
  have f662 := e657.k f643 (by decide)
  have f663 := e657.k f644 (by decide)
  have f664 := e657.k f645 (by decide)
  have f665 := e657.k f646 (by decide)
  have f666 := e657.k f647 (by decide)
  have f667 := e657.k f648 (by decide)
  have f668 := e657.k f649 (by decide)
  have f669 := e657.k f650 (by decide)
  have f670 := e657.k f651 (by decide)
  have f671 := e657.k f652 (by decide)
  have f672 := e657.k f653 (by decide)
  have f673 := e657.k f654 (by decide)
  have f674 := e657.k f655 (by decide)
  have f675 := e657.k f656 (by decide)
  refine g_aload_n dX11_init_173 rfl rfl ?_
  replace H := oom H; obtain ⟨-, H⟩ | ⟨b676, e677, H⟩ := H
  · exact nz H
  refine e_getR f659 flX11_45_12 dX11_init_174 rfl e677 ?_
  refine e_ldcS (i := 0) rfl (by decide) dX11_init_177 ?_
  replace H := og H; obtain ⟨g678, H⟩ := H
  subst g678
  replace H := og H; obtain ⟨g679, H⟩ := H
  have hY680 : LY TX (sR h637 p0 19 (some (hN h599))) := g679
  replace H := ob H; obtain ⟨q681, c682, H⟩ := H
  refine v0 (hY680.t 7 rfl) (by decide) rfl rfl lmX11_94 liX6_spell lvX6_X6_spell msX6_spell dX11_init_179 (t_X6_spell (d + 60) hY680 c682) rfl (Nat.le_of_ble_eq_true rfl) (Nat.le_refl _) ?_
  have e684 := p_X6_spell c682
  have e683 := e684.w
  have hY685 := hY680.pr okX e684
  have f686 := e683.k f658 (by decide)
  have f687 := e683.k f659 (by decide)
  have f688 := e683.k f660 (by decide)
  have f689 := e683.k f661 (by decide)
  have f690 := e683.k f662 (by decide)
  have f691 := e683.k f663 (by decide)
  have f692 := e683.k f664 (by decide)
  have f693 := e683.k f665 (by decide)
  have f694 := e683.k f666 (by decide)
  have f695 := e683.k f667 (by decide)
  have f696 := e683.k f668 (by decide)
  have f697 := e683.k f669 (by decide)
  have f698 := e683.k f670 (by decide)
  have f699 := e683.k f671 (by decide)
  have f700 := e683.k f672 (by decide)
  have f701 := e683.k f673 (by decide)
  have f702 := e683.k f674 (by decide)
  have f703 := e683.k f675 (by decide)
  refine g_aload_n dX11_init_182 rfl rfl ?_
  replace H := oom H; obtain ⟨-, H⟩ | ⟨b704, e705, H⟩ := H
  · exact nz H
  refine e_getR f687 flX11_45_12 dX11_init_183 rfl e705 ?_
  replace H := og H; obtain ⟨g706, H⟩ := H
  subst g706
  replace H := ob H; obtain ⟨q707, c708, H⟩ := H
  have e712 := p_X6_read c708
  have e711 := e712.w
  have hY713 := hY685.pr okX e712
  have f714 := e711.k f686 (by decide)
  have f715 := e711.k f687 (by decide)
  have f716 := e711.k f688 (by decide)
  have f717 := e711.k f689 (by decide)
  have f718 := e711.k f690 (by decide)
  have f719 := e711.k f691 (by decide)
  have f720 := e711.k f692 (by decide)
  have f721 := e711.k f693 (by decide)
  have f722 := e711.k f694 (by decide)
  have f723 := e711.k f695 (by decide)
  have f724 := e711.k f696 (by decide)
  have f725 := e711.k f697 (by decide)
  have f726 := e711.k f698 (by decide)
  have f727 := e711.k f699 (by decide)
  have f728 := e711.k f700 (by decide)
  have f729 := e711.k f701 (by decide)
  have f730 := e711.k f702 (by decide)
  have f731 := e711.k f703 (by decide)
  replace H := oom H; obtain ⟨e709, H⟩ | ⟨b710, e709, H⟩ := H
  · refine v1 (hY685.t 7 rfl) (by decide) rfl rfl lmX11_98 liX6_read lvX6_X6_read msX6_read dX11_init_186 (ceN e709 (t_X6_read (d + 0) hY685 c708)) rfl (Nat.le_of_ble_eq_true rfl) (Nat.le_refl _) ?_
    refine g_astore_n dX11_init_189 (Nat.le_of_ble_eq_true rfl) rfl rfl rfl ?_
    refine g_aload_n dX11_init_190 rfl rfl ?_
    refine e_ifnullN (tgt := 203) dX11_init_191 (by decide) ?_
    obtain rfl := Option.some.inj H
    exact z_vret rfl dX11_init_203 rfl rfl
  · refine v1 (hY685.t 7 rfl) (by decide) rfl rfl lmX11_98 liX6_read lvX6_X6_read msX6_read dX11_init_186 (ceS e709 (t_X6_read (d + 0) hY685 c708)) rfl (Nat.le_of_ble_eq_true rfl) (Nat.le_refl _) ?_
    refine g_astore_n dX11_init_189 (Nat.le_of_ble_eq_true rfl) rfl rfl rfl ?_
    refine g_aload_n dX11_init_190 rfl rfl ?_
    refine e_ifnull dX11_init_191 ?_
    refine g_aload_n dX11_init_194 rfl rfl ?_
    replace H := oom H; obtain ⟨-, H⟩ | ⟨b734, e735, H⟩ := H
    · exact nz H
    refine e_getR f715 flX11_19_12 dX11_init_195 rfl e735 ?_
    refine g_aload_n dX11_init_198 rfl rfl ?_
    replace H := og H; obtain ⟨g738, H⟩ := H
    replace H := ob H; obtain ⟨q736, c737, H⟩ := H
    refine v1 g738 (by decide) rfl rfl lmX11_102 liJx4a65c_add_9ea2d lvJx4a65c_Jx4a65c_add_9ea2d msJx4a65c_add_9ea2d dX11_init_199 (t_Jx4a65c_add_9ea2d (d + 60) c737) rfl (Nat.le_of_ble_eq_true rfl) (Nat.le_refl _) ?_
    have e740 := p_Jx4a65c_add_9ea2d c737
    have e739 := e740.w
    have hY741 := hY713.pr okX e740
    have f742 := e739.k f714 (by decide)
    have f743 := e739.k f715 (by decide)
    have f744 := e739.k f716 (by decide)
    have f745 := e739.k f717 (by decide)
    have f746 := e739.k f718 (by decide)
    have f747 := e739.k f719 (by decide)
    have f748 := e739.k f720 (by decide)
    have f749 := e739.k f721 (by decide)
    have f750 := e739.k f722 (by decide)
    have f751 := e739.k f723 (by decide)
    have f752 := e739.k f724 (by decide)
    have f753 := e739.k f725 (by decide)
    have f754 := e739.k f726 (by decide)
    have f755 := e739.k f727 (by decide)
    have f756 := e739.k f728 (by decide)
    have f757 := e739.k f729 (by decide)
    have f758 := e739.k f730 (by decide)
    have f759 := e739.k f731 (by decide)
    have f760 := e739.k g738 (by decide)
    refine e_pop dX11_init_202 rfl ?_
    obtain rfl := Option.some.inj H
    exact z_vret rfl dX11_init_203 rfl rfl
-- X11_isPlace
def f_X11_isPlace (p0 : Int32) : Option Bool := (if p0 < 0 then (some false) else (if (20 : Int32) ≤ (p0 / (100 : Int32)) then (some false) else (if (20 : Int32) ≤ (p0 - p0 / (100 : Int32) * (100 : Int32)) then (some false) else (some true))))
set_option maxHeartbeats 4000000 in
set_option maxRecDepth 20000 in
theorem t_X11_isPlace {G : GE} (d : Nat) {p0 : Int32} {h : HS} {q : Bool} (H : f_X11_isPlace p0 = some q) : CE G (d + 0) yX11_isPlace miX11_isPlace [.int p0] h (some (.int (b2i q))) (h) := by
  unfold f_X11_isPlace at H
  refine ce_of rfl (by decide) (fun q => by first | rfl | cases q) (Nat.le_of_ble_eq_true rfl) rfl ?_
  refine e_iload_n dX11_isPlace_0 rfl ?_
  refine e_if_lt (tgt := 26) dX11_isPlace_1 (by decide) (fun c1 => ?_) (fun c1 => ?_)
  · replace H := ot c1 H
    refine e_iconst (v := (0 : Int32)) dX11_isPlace_26 (by decide) ?_
    obtain rfl := Option.some.inj H
    exact z_iret rfl rfl dX11_isPlace_27 rfl rfl
  · replace H := of_ c1 H
    refine e_iload_n dX11_isPlace_4 rfl ?_
    refine e_bipush (v := (100 : Int32)) dX11_isPlace_5 (by decide) ?_
    refine e_idiv dX11_isPlace_7 (by decide) ?_
    refine e_bipush (v := (20 : Int32)) dX11_isPlace_8 (by decide) ?_
    refine e_icmp_ge (tgt := 26) dX11_isPlace_10 (by decide) (fun c2 => ?_) (fun c2 => ?_)
    · replace H := ot c2 H
      refine e_iconst (v := (0 : Int32)) dX11_isPlace_26 (by decide) ?_
      obtain rfl := Option.some.inj H
      exact z_iret rfl rfl dX11_isPlace_27 rfl rfl
    · replace H := of_ c2 H
      refine e_iload_n dX11_isPlace_13 rfl ?_
      refine e_bipush (v := (100 : Int32)) dX11_isPlace_14 (by decide) ?_
      refine e_irem dX11_isPlace_16 (by decide) ?_
      refine e_bipush (v := (20 : Int32)) dX11_isPlace_17 (by decide) ?_
      refine e_icmp_ge (tgt := 26) dX11_isPlace_19 (by decide) (fun c3 => ?_) (fun c3 => ?_)
      · replace H := ot c3 H
        refine e_iconst (v := (0 : Int32)) dX11_isPlace_26 (by decide) ?_
        obtain rfl := Option.some.inj H
        exact z_iret rfl rfl dX11_isPlace_27 rfl rfl
      · replace H := of_ c3 H
        refine e_iconst (v := (1 : Int32)) dX11_isPlace_22 (by decide) ?_
        refine e_goto (tgt := 27) dX11_isPlace_23 (by decide) ?_
        obtain rfl := Option.some.inj H
        exact z_iret rfl rfl dX11_isPlace_27 rfl rfl
-- Jx4a65c_size_8abf5
def f_Jx4a65c_size_8abf5 (p0 : Nat) (h : HS) : Option Int32 := (if hT h p0 = 1 then (some (hI h p0 2)) else none)
set_option maxHeartbeats 4000000 in
set_option maxRecDepth 20000 in
theorem t_Jx4a65c_size_8abf5 {G : GE} (d : Nat) {p0 : Nat} {h : HS} {q : Int32} (H : f_Jx4a65c_size_8abf5 p0 h = some q) : CE G (d + 0) yJx4a65c_size_8abf5 miJx4a65c_size_8abf5 [.ref p0] h (some (.int q)) (h) := by
  unfold f_Jx4a65c_size_8abf5 at H
  refine ce_of rfl (by decide) (fun q => by first | rfl | cases q) (Nat.le_of_ble_eq_true rfl) rfl ?_
  refine g_aload_n dJx4a65c_size_8abf5_0 rfl rfl ?_
  replace H := og H; obtain ⟨g1, H⟩ := H
  refine e_getI g1 flJx4a65c_48_0 dJx4a65c_size_8abf5_1 rfl ?_
  obtain rfl := Option.some.inj H
  exact z_iret rfl rfl dJx4a65c_size_8abf5_4 rfl rfl
-- X11_newStall
def f_X11_newStall (p0 : Int32) (p1 : Int32) (p2 : Int32) (p3 : Int32) (h : HS) : Option ((Option Nat) × HS) := (if p0 = (1 : Int32) then (if hT h (hN h) = 0 then (bh (hNew h 6 0 8) (fun h53 => (Option.bind (f_X4_init (hN h) p0 p1 p2 p3 h53) (fun q56 => (some ((some (hN h)), q56)))))) else none) else (if p0 = (2 : Int32) then (if hT h (hN h) = 0 then (bh (hNew h 12 0 8) (fun h44 => (Option.bind (f_X10_init (hN h) p0 p1 p2 p3 h44) (fun q47 => (some ((some (hN h)), q47)))))) else none) else (if p0 = (3 : Int32) then (if hT h (hN h) = 0 then (bh (hNew h 9 0 8) (fun h35 => (Option.bind (f_X7_init (hN h) p0 p1 p2 p3 h35) (fun q38 => (some ((some (hN h)), q38)))))) else none) else (if p0 = (4 : Int32) then (if hT h (hN h) = 0 then (bh (hNew h 2 0 8) (fun h26 => (Option.bind (f_X0_init (hN h) p0 p1 p2 p3 h26) (fun q29 => (some ((some (hN h)), q29)))))) else none) else (if p0 = (5 : Int32) then (if hT h (hN h) = 0 then (bh (hNew h 3 0 8) (fun h17 => (Option.bind (f_X1_init (hN h) p0 p1 p2 p3 h17) (fun q20 => (some ((some (hN h)), q20)))))) else none) else (if hT h (hN h) = 0 then (bh (hNew h 10 0 8) (fun h8 => (Option.bind (f_X8_init (hN h) p0 p1 p2 p3 h8) (fun q11 => (some ((some (hN h)), q11)))))) else none))))))
set_option maxHeartbeats 4000000 in
set_option maxRecDepth 20000 in
theorem p_X11_newStall {p0 : Int32} {p1 : Int32} {p2 : Int32} {p3 : Int32} {h : HS} {q : ((Option Nat) × HS)} (H : f_X11_newStall p0 p1 p2 p3 h = some q) : Pr h q.2 := by
  unfold f_X11_newStall at H
  replace H := oi H; obtain ⟨k1, H⟩ | ⟨k1, H⟩ := H
  · replace H := og H; obtain ⟨g51, H⟩ := H
    have e52 := Pr.nw (h := h) (kd := 6) (ln := 0) (ns := 8) Pr.rf g51
    replace H := obh H; obtain ⟨h53, e54, H⟩ := H
    replace H := ob H; obtain ⟨q56, c57, H⟩ := H
    have e58 := p_X4_init c57
    obtain rfl := Option.some.inj H
    exact ((kP e54 e52).tr e58)
  · replace H := oi H; obtain ⟨k2, H⟩ | ⟨k2, H⟩ := H
    · replace H := og H; obtain ⟨g42, H⟩ := H
      have e43 := Pr.nw (h := h) (kd := 12) (ln := 0) (ns := 8) Pr.rf g42
      replace H := obh H; obtain ⟨h44, e45, H⟩ := H
      replace H := ob H; obtain ⟨q47, c48, H⟩ := H
      have e49 := p_X10_init c48
      obtain rfl := Option.some.inj H
      exact ((kP e45 e43).tr e49)
    · replace H := oi H; obtain ⟨k3, H⟩ | ⟨k3, H⟩ := H
      · replace H := og H; obtain ⟨g33, H⟩ := H
        have e34 := Pr.nw (h := h) (kd := 9) (ln := 0) (ns := 8) Pr.rf g33
        replace H := obh H; obtain ⟨h35, e36, H⟩ := H
        replace H := ob H; obtain ⟨q38, c39, H⟩ := H
        have e40 := p_X7_init c39
        obtain rfl := Option.some.inj H
        exact ((kP e36 e34).tr e40)
      · replace H := oi H; obtain ⟨k4, H⟩ | ⟨k4, H⟩ := H
        · replace H := og H; obtain ⟨g24, H⟩ := H
          have e25 := Pr.nw (h := h) (kd := 2) (ln := 0) (ns := 8) Pr.rf g24
          replace H := obh H; obtain ⟨h26, e27, H⟩ := H
          replace H := ob H; obtain ⟨q29, c30, H⟩ := H
          have e31 := p_X0_init c30
          obtain rfl := Option.some.inj H
          exact ((kP e27 e25).tr e31)
        · replace H := oi H; obtain ⟨k5, H⟩ | ⟨k5, H⟩ := H
          · replace H := og H; obtain ⟨g15, H⟩ := H
            have e16 := Pr.nw (h := h) (kd := 3) (ln := 0) (ns := 8) Pr.rf g15
            replace H := obh H; obtain ⟨h17, e18, H⟩ := H
            replace H := ob H; obtain ⟨q20, c21, H⟩ := H
            have e22 := p_X1_init c21
            obtain rfl := Option.some.inj H
            exact ((kP e18 e16).tr e22)
          · replace H := og H; obtain ⟨g6, H⟩ := H
            have e7 := Pr.nw (h := h) (kd := 10) (ln := 0) (ns := 8) Pr.rf g6
            replace H := obh H; obtain ⟨h8, e9, H⟩ := H
            replace H := ob H; obtain ⟨q11, c12, H⟩ := H
            have e13 := p_X8_init c12
            obtain rfl := Option.some.inj H
            exact ((kP e9 e7).tr e13)
set_option maxHeartbeats 4000000 in
set_option maxRecDepth 20000 in
theorem t_X11_newStall {G : GE} (d : Nat) {p0 : Int32} {p1 : Int32} {p2 : Int32} {p3 : Int32} {h : HS} {q : ((Option Nat) × HS)} (H : f_X11_newStall p0 p1 p2 p3 h = some q) : CE G (d + 4) yX11_newStall miX11_newStall [.int p0, .int p1, .int p2, .int p3] h (some (va_rf q.1)) (q.2) := by
  unfold f_X11_newStall at H
  refine ce_of rfl (by decide) (fun q => by first | rfl | cases q) (Nat.le_of_ble_eq_true rfl) rfl ?_
  refine e_iload_n dX11_newStall_0 rfl ?_
  by_cases k1 : p0 = (1 : Int32)
  · replace H := ot k1 H
    refine e_tableIn (off := 35) (tgt := 36) dX11_newStall_1 (by rw [k1]; decide) (by rw [k1]; decide) (by rw [k1]; rfl) (by decide) ?_
    replace H := og H; obtain ⟨g51, H⟩ := H
    refine e_new (ci := 5) rfl (by decide) lcX11_210 lxX4 lnX4 dX11_newStall_36 ?_
    have e52 := Pr.nw (h := h) (kd := 6) (ln := 0) (ns := 8) Pr.rf g51
    replace H := obh H; obtain ⟨h53, e54, H⟩ := H
    refine e_hq e54 ?_
    have f55 := kT e54 hT_new
    refine e_dup dX11_newStall_39 rfl ?_
    refine e_iload_n dX11_newStall_40 rfl ?_
    refine e_iload_n dX11_newStall_41 rfl ?_
    refine e_iload_n dX11_newStall_42 rfl ?_
    refine e_iload_n dX11_newStall_43 rfl ?_
    replace H := ob H; obtain ⟨q56, c57, H⟩ := H
    refine i0 rfl lmX11_212 liX4_init msX4_init rfl dX11_newStall_44 (t_X4_init (d + 1) c57) rfl (Nat.le_of_ble_eq_true rfl) (Nat.le_refl _) ?_
    have e58 := p_X4_init c57
    have f59 := e58.k f55 (by decide)
    obtain rfl := Option.some.inj H
    exact z_aret rfl (by first | exact Or.inl ⟨_, rfl⟩ | exact Or.inr ⟨_, rfl⟩) (by first | exact Or.inl rfl | exact Or.inr ⟨_, rfl⟩) dX11_newStall_47 rfl rfl
  · replace H := of_ k1 H
    by_cases k2 : p0 = (2 : Int32)
    · replace H := ot k2 H
      refine e_tableIn (off := 47) (tgt := 48) dX11_newStall_1 (by rw [k2]; decide) (by rw [k2]; decide) (by rw [k2]; rfl) (by decide) ?_
      replace H := og H; obtain ⟨g42, H⟩ := H
      refine e_new (ci := 11) rfl (by decide) lcX11_215 lxX10 lnX10 dX11_newStall_48 ?_
      have e43 := Pr.nw (h := h) (kd := 12) (ln := 0) (ns := 8) Pr.rf g42
      replace H := obh H; obtain ⟨h44, e45, H⟩ := H
      refine e_hq e45 ?_
      have f46 := kT e45 hT_new
      refine e_dup dX11_newStall_51 rfl ?_
      refine e_iload_n dX11_newStall_52 rfl ?_
      refine e_iload_n dX11_newStall_53 rfl ?_
      refine e_iload_n dX11_newStall_54 rfl ?_
      refine e_iload_n dX11_newStall_55 rfl ?_
      replace H := ob H; obtain ⟨q47, c48, H⟩ := H
      refine i0 rfl lmX11_217 liX10_init msX10_init rfl dX11_newStall_56 (t_X10_init (d + 1) c48) rfl (Nat.le_of_ble_eq_true rfl) (Nat.le_refl _) ?_
      have e49 := p_X10_init c48
      have f50 := e49.k f46 (by decide)
      obtain rfl := Option.some.inj H
      exact z_aret rfl (by first | exact Or.inl ⟨_, rfl⟩ | exact Or.inr ⟨_, rfl⟩) (by first | exact Or.inl rfl | exact Or.inr ⟨_, rfl⟩) dX11_newStall_59 rfl rfl
    · replace H := of_ k2 H
      by_cases k3 : p0 = (3 : Int32)
      · replace H := ot k3 H
        refine e_tableIn (off := 59) (tgt := 60) dX11_newStall_1 (by rw [k3]; decide) (by rw [k3]; decide) (by rw [k3]; rfl) (by decide) ?_
        replace H := og H; obtain ⟨g33, H⟩ := H
        refine e_new (ci := 8) rfl (by decide) lcX11_218 lxX7 lnX7 dX11_newStall_60 ?_
        have e34 := Pr.nw (h := h) (kd := 9) (ln := 0) (ns := 8) Pr.rf g33
        replace H := obh H; obtain ⟨h35, e36, H⟩ := H
        refine e_hq e36 ?_
        have f37 := kT e36 hT_new
        refine e_dup dX11_newStall_63 rfl ?_
        refine e_iload_n dX11_newStall_64 rfl ?_
        refine e_iload_n dX11_newStall_65 rfl ?_
        refine e_iload_n dX11_newStall_66 rfl ?_
        refine e_iload_n dX11_newStall_67 rfl ?_
        replace H := ob H; obtain ⟨q38, c39, H⟩ := H
        refine i0 rfl lmX11_220 liX7_init msX7_init rfl dX11_newStall_68 (t_X7_init (d + 0) c39) rfl (Nat.le_of_ble_eq_true rfl) (Nat.le_refl _) ?_
        have e40 := p_X7_init c39
        have f41 := e40.k f37 (by decide)
        obtain rfl := Option.some.inj H
        exact z_aret rfl (by first | exact Or.inl ⟨_, rfl⟩ | exact Or.inr ⟨_, rfl⟩) (by first | exact Or.inl rfl | exact Or.inr ⟨_, rfl⟩) dX11_newStall_71 rfl rfl
      · replace H := of_ k3 H
        by_cases k4 : p0 = (4 : Int32)
        · replace H := ot k4 H
          refine e_tableIn (off := 71) (tgt := 72) dX11_newStall_1 (by rw [k4]; decide) (by rw [k4]; decide) (by rw [k4]; rfl) (by decide) ?_
          replace H := og H; obtain ⟨g24, H⟩ := H
          refine e_new (ci := 1) rfl (by decide) lcX11_221 lxX0 lnX0 dX11_newStall_72 ?_
          have e25 := Pr.nw (h := h) (kd := 2) (ln := 0) (ns := 8) Pr.rf g24
          replace H := obh H; obtain ⟨h26, e27, H⟩ := H
          refine e_hq e27 ?_
          have f28 := kT e27 hT_new
          refine e_dup dX11_newStall_75 rfl ?_
          refine e_iload_n dX11_newStall_76 rfl ?_
          refine e_iload_n dX11_newStall_77 rfl ?_
          refine e_iload_n dX11_newStall_78 rfl ?_
          refine e_iload_n dX11_newStall_79 rfl ?_
          replace H := ob H; obtain ⟨q29, c30, H⟩ := H
          refine i0 rfl lmX11_223 liX0_init msX0_init rfl dX11_newStall_80 (t_X0_init (d + 1) c30) rfl (Nat.le_of_ble_eq_true rfl) (Nat.le_refl _) ?_
          have e31 := p_X0_init c30
          have f32 := e31.k f28 (by decide)
          obtain rfl := Option.some.inj H
          exact z_aret rfl (by first | exact Or.inl ⟨_, rfl⟩ | exact Or.inr ⟨_, rfl⟩) (by first | exact Or.inl rfl | exact Or.inr ⟨_, rfl⟩) dX11_newStall_83 rfl rfl
        · replace H := of_ k4 H
          by_cases k5 : p0 = (5 : Int32)
          · replace H := ot k5 H
            refine e_tableIn (off := 83) (tgt := 84) dX11_newStall_1 (by rw [k5]; decide) (by rw [k5]; decide) (by rw [k5]; rfl) (by decide) ?_
            replace H := og H; obtain ⟨g15, H⟩ := H
            refine e_new (ci := 2) rfl (by decide) lcX11_224 lxX1 lnX1 dX11_newStall_84 ?_
            have e16 := Pr.nw (h := h) (kd := 3) (ln := 0) (ns := 8) Pr.rf g15
            replace H := obh H; obtain ⟨h17, e18, H⟩ := H
            refine e_hq e18 ?_
            have f19 := kT e18 hT_new
            refine e_dup dX11_newStall_87 rfl ?_
            refine e_iload_n dX11_newStall_88 rfl ?_
            refine e_iload_n dX11_newStall_89 rfl ?_
            refine e_iload_n dX11_newStall_90 rfl ?_
            refine e_iload_n dX11_newStall_91 rfl ?_
            replace H := ob H; obtain ⟨q20, c21, H⟩ := H
            refine i0 rfl lmX11_226 liX1_init msX1_init rfl dX11_newStall_92 (t_X1_init (d + 0) c21) rfl (Nat.le_of_ble_eq_true rfl) (Nat.le_refl _) ?_
            have e22 := p_X1_init c21
            have f23 := e22.k f19 (by decide)
            obtain rfl := Option.some.inj H
            exact z_aret rfl (by first | exact Or.inl ⟨_, rfl⟩ | exact Or.inr ⟨_, rfl⟩) (by first | exact Or.inl rfl | exact Or.inr ⟨_, rfl⟩) dX11_newStall_95 rfl rfl
          · replace H := of_ k5 H
            refine e_tableOut (tgt := 96) dX11_newStall_1 (by have q1 : p0.toInt ≠ 1 := i32_ne k1; have q2 : p0.toInt ≠ 2 := i32_ne k2; have q3 : p0.toInt ≠ 3 := i32_ne k3; have q4 : p0.toInt ≠ 4 := i32_ne k4; have q5 : p0.toInt ≠ 5 := i32_ne k5; omega) (by decide) ?_
            replace H := og H; obtain ⟨g6, H⟩ := H
            refine e_new (ci := 9) rfl (by decide) lcX11_131 lxX8 lnX8 dX11_newStall_96 ?_
            have e7 := Pr.nw (h := h) (kd := 10) (ln := 0) (ns := 8) Pr.rf g6
            replace H := obh H; obtain ⟨h8, e9, H⟩ := H
            refine e_hq e9 ?_
            have f10 := kT e9 hT_new
            refine e_dup dX11_newStall_99 rfl ?_
            refine e_iload_n dX11_newStall_100 rfl ?_
            refine e_iload_n dX11_newStall_101 rfl ?_
            refine e_iload_n dX11_newStall_102 rfl ?_
            refine e_iload_n dX11_newStall_103 rfl ?_
            replace H := ob H; obtain ⟨q11, c12, H⟩ := H
            refine i0 rfl lmX11_227 liX8_init msX8_init rfl dX11_newStall_104 (t_X8_init (d + 2) c12) rfl (Nat.le_of_ble_eq_true rfl) (Nat.le_refl _) ?_
            have e13 := p_X8_init c12
            have f14 := e13.k f10 (by decide)
            obtain rfl := Option.some.inj H
            exact z_aret rfl (by first | exact Or.inl ⟨_, rfl⟩ | exact Or.inr ⟨_, rfl⟩) (by first | exact Or.inl rfl | exact Or.inr ⟨_, rfl⟩) dX11_newStall_107 rfl rfl
-- X11_stall
def f_X11_stall (p1 : Int32) (p2 : Int32) (p3 : Int32) (p4 : Int32) (h : HS) : Option (Int32 × HS) := (Option.bind (f_X11_isIn p1 (0 : Int32) (5 : Int32)) (fun q1 => (if q1 = true then (Option.bind (f_X11_isPlace p2) (fun q4 => (if q4 = true then (Option.bind (f_X11_isIn p3 (0 : Int32) (9 : Int32)) (fun q7 => (if q7 = true then (Option.bind (f_X11_isIn p4 (1 : Int32) (99 : Int32)) (fun q10 => (if q10 = true then (if hT h 33 = 1 then (Option.bind (f_Jx4a65c_size_8abf5 33 h) (fun q13 => (if q13 < (8 : Int32) then (Option.bind (f_X11_newStall p1 p2 p3 p4 h) (fun q17 => (om q17.1 none (fun b20 => (Option.bind (f_Jx4a65c_add_9ea2d 33 b20 q17.2) (fun q24 => (Option.bind (f_Jx4a65c_size_8abf5 33 q24.2) (fun q29 => (some ((q29 - (1 : Int32)), q24.2)))))))))) else (some ((-4 : Int32), h))))) else none) else (some ((-2 : Int32), h))))) else (some ((-2 : Int32), h))))) else (some ((-2 : Int32), h))))) else (some ((-2 : Int32), h)))))
set_option maxHeartbeats 4000000 in
set_option maxRecDepth 20000 in
theorem p_X11_stall {p1 : Int32} {p2 : Int32} {p3 : Int32} {p4 : Int32} {h : HS} {q : (Int32 × HS)} (H : f_X11_stall p1 p2 p3 p4 h = some q) : Pr h q.2 := by
  unfold f_X11_stall at H
  replace H := ob H; obtain ⟨q1, c2, H⟩ := H
  replace H := oi H; obtain ⟨c3, H⟩ | ⟨c3, H⟩ := H
  · replace H := ob H; obtain ⟨q4, c5, H⟩ := H
    replace H := oi H; obtain ⟨c6, H⟩ | ⟨c6, H⟩ := H
    · replace H := ob H; obtain ⟨q7, c8, H⟩ := H
      replace H := oi H; obtain ⟨c9, H⟩ | ⟨c9, H⟩ := H
      · replace H := ob H; obtain ⟨q10, c11, H⟩ := H
        replace H := oi H; obtain ⟨c12, H⟩ | ⟨c12, H⟩ := H
        · replace H := og H; obtain ⟨g15, H⟩ := H
          replace H := ob H; obtain ⟨q13, c14, H⟩ := H
          replace H := oi H; obtain ⟨c16, H⟩ | ⟨c16, H⟩ := H
          · replace H := ob H; obtain ⟨q17, c18, H⟩ := H
            have e21 := p_X11_newStall c18
            replace H := oom H; obtain ⟨e19, H⟩ | ⟨b20, e19, H⟩ := H
            · exact nz H
            · replace H := ob H; obtain ⟨q24, c25, H⟩ := H
              have e26 := p_Jx4a65c_add_9ea2d c25
              replace H := ob H; obtain ⟨q29, c30, H⟩ := H
              obtain rfl := Option.some.inj H
              exact (e21.tr e26)
          · obtain rfl := Option.some.inj H
            exact Pr.rf
        · obtain rfl := Option.some.inj H
          exact Pr.rf
      · obtain rfl := Option.some.inj H
        exact Pr.rf
    · obtain rfl := Option.some.inj H
      exact Pr.rf
  · obtain rfl := Option.some.inj H
    exact Pr.rf
set_option maxHeartbeats 4000000 in
set_option maxRecDepth 20000 in
theorem t_X11_stall {G : GE} (d : Nat) {p1 : Int32} {p2 : Int32} {p3 : Int32} {p4 : Int32} {h : HS} {q : (Int32 × HS)} (hY : LY TX h) (H : f_X11_stall p1 p2 p3 p4 h = some q) : CE G (d + 5) yX11_stall miX11_stall [.ref 32, .int p1, .int p2, .int p3, .int p4] h (some (.int q.1)) (q.2) := by
  unfold f_X11_stall at H
  refine ce_of rfl (by decide) (fun q => by first | rfl | cases q) (Nat.le_of_ble_eq_true rfl) rfl ?_
  refine e_iload_n dX11_stall_0 rfl ?_
  refine e_iconst (v := (0 : Int32)) dX11_stall_1 (by decide) ?_
  refine e_iconst (v := (5 : Int32)) dX11_stall_2 (by decide) ?_
  replace H := ob H; obtain ⟨q1, c2, H⟩ := H
  refine s1 lmX11_106 lsX11_isIn msX11_isIn dX11_stall_3 (t_X11_isIn (d + 4) c2) rfl (Nat.le_of_ble_eq_true rfl) (Nat.le_refl _) ?_
  refine e_ifB_eq (tgt := 37) dX11_stall_6 (by decide) (fun c3 => ?_) (fun c3 => ?_)
  · replace H := of_ (nb c3) H
    refine e_bipush (v := (-2 : Int32)) dX11_stall_37 (by decide) ?_
    obtain rfl := Option.some.inj H
    exact z_iret rfl rfl dX11_stall_39 rfl rfl
  · replace H := ot c3 H
    refine e_iload_n dX11_stall_9 rfl ?_
    replace H := ob H; obtain ⟨q4, c5, H⟩ := H
    refine s1 lmX11_110 lsX11_isPlace msX11_isPlace dX11_stall_10 (t_X11_isPlace (d + 4) c5) rfl (Nat.le_of_ble_eq_true rfl) (Nat.le_refl _) ?_
    refine e_ifB_eq (tgt := 37) dX11_stall_13 (by decide) (fun c6 => ?_) (fun c6 => ?_)
    · replace H := of_ (nb c6) H
      refine e_bipush (v := (-2 : Int32)) dX11_stall_37 (by decide) ?_
      obtain rfl := Option.some.inj H
      exact z_iret rfl rfl dX11_stall_39 rfl rfl
    · replace H := ot c6 H
      refine e_iload_n dX11_stall_16 rfl ?_
      refine e_iconst (v := (0 : Int32)) dX11_stall_17 (by decide) ?_
      refine e_bipush (v := (9 : Int32)) dX11_stall_18 (by decide) ?_
      replace H := ob H; obtain ⟨q7, c8, H⟩ := H
      refine s1 lmX11_106 lsX11_isIn msX11_isIn dX11_stall_20 (t_X11_isIn (d + 4) c8) rfl (Nat.le_of_ble_eq_true rfl) (Nat.le_refl _) ?_
      refine e_ifB_eq (tgt := 37) dX11_stall_23 (by decide) (fun c9 => ?_) (fun c9 => ?_)
      · replace H := of_ (nb c9) H
        refine e_bipush (v := (-2 : Int32)) dX11_stall_37 (by decide) ?_
        obtain rfl := Option.some.inj H
        exact z_iret rfl rfl dX11_stall_39 rfl rfl
      · replace H := ot c9 H
        refine e_iload dX11_stall_26 rfl ?_
        refine e_iconst (v := (1 : Int32)) dX11_stall_28 (by decide) ?_
        refine e_bipush (v := (99 : Int32)) dX11_stall_29 (by decide) ?_
        replace H := ob H; obtain ⟨q10, c11, H⟩ := H
        refine s1 lmX11_106 lsX11_isIn msX11_isIn dX11_stall_31 (t_X11_isIn (d + 4) c11) rfl (Nat.le_of_ble_eq_true rfl) (Nat.le_refl _) ?_
        refine e_ifB_ne (tgt := 40) dX11_stall_34 (by decide) (fun c12 => ?_) (fun c12 => ?_)
        · replace H := ot c12 H
          refine g_aload_n dX11_stall_40 rfl rfl ?_
          refine e_getR (hY.t 0 rfl) flX11_12_12 dX11_stall_41 rfl (hY.r 0 rfl) ?_
          replace H := og H; obtain ⟨g15, H⟩ := H
          replace H := ob H; obtain ⟨q13, c14, H⟩ := H
          refine v1 (hY.t 1 rfl) (by decide) rfl rfl lmX11_114 liJx4a65c_size_8abf5 lvJx4a65c_Jx4a65c_size_8abf5 msJx4a65c_size_8abf5 dX11_stall_44 (t_Jx4a65c_size_8abf5 (d + 4) c14) rfl (Nat.le_of_ble_eq_true rfl) (Nat.le_refl _) ?_
          refine e_bipush (v := (8 : Int32)) dX11_stall_47 (by decide) ?_
          refine e_icmp_lt (tgt := 55) dX11_stall_49 (by decide) (fun c16 => ?_) (fun c16 => ?_)
          · replace H := ot c16 H
            refine g_aload_n dX11_stall_55 rfl rfl ?_
            refine e_getR (hY.t 0 rfl) flX11_12_12 dX11_stall_56 rfl (hY.r 0 rfl) ?_
            refine e_iload_n dX11_stall_59 rfl ?_
            refine e_iload_n dX11_stall_60 rfl ?_
            refine e_iload_n dX11_stall_61 rfl ?_
            refine e_iload dX11_stall_62 rfl ?_
            replace H := ob H; obtain ⟨q17, c18, H⟩ := H
            have e21 := p_X11_newStall c18
            have hY22 := hY.pr okX e21
            have f23 := e21.k g15 (by decide)
            replace H := oom H; obtain ⟨e19, H⟩ | ⟨b20, e19, H⟩ := H
            · refine s1 lmX11_118 lsX11_newStall msX11_newStall dX11_stall_64 (ceN e19 (t_X11_newStall (d + 0) c18)) rfl (Nat.le_of_ble_eq_true rfl) (Nat.le_refl _) ?_
              exact nz H
            · refine s1 lmX11_118 lsX11_newStall msX11_newStall dX11_stall_64 (ceS e19 (t_X11_newStall (d + 0) c18)) rfl (Nat.le_of_ble_eq_true rfl) (Nat.le_refl _) ?_
              replace H := ob H; obtain ⟨q24, c25, H⟩ := H
              refine v1 (hY22.t 1 rfl) (by decide) rfl rfl lmX11_102 liJx4a65c_add_9ea2d lvJx4a65c_Jx4a65c_add_9ea2d msJx4a65c_add_9ea2d dX11_stall_67 (t_Jx4a65c_add_9ea2d (d + 0) c25) rfl (Nat.le_of_ble_eq_true rfl) (Nat.le_refl _) ?_
              have e26 := p_Jx4a65c_add_9ea2d c25
              have hY27 := hY22.pr okX e26
              have f28 := e26.k f23 (by decide)
              refine e_pop dX11_stall_70 rfl ?_
              refine g_aload_n dX11_stall_71 rfl rfl ?_
              refine e_getR (hY27.t 0 rfl) flX11_12_12 dX11_stall_72 rfl (hY27.r 0 rfl) ?_
              replace H := ob H; obtain ⟨q29, c30, H⟩ := H
              refine v1 (hY27.t 1 rfl) (by decide) rfl rfl lmX11_114 liJx4a65c_size_8abf5 lvJx4a65c_Jx4a65c_size_8abf5 msJx4a65c_size_8abf5 dX11_stall_75 (t_Jx4a65c_size_8abf5 (d + 4) c30) rfl (Nat.le_of_ble_eq_true rfl) (Nat.le_refl _) ?_
              refine e_iconst (v := (1 : Int32)) dX11_stall_78 (by decide) ?_
              refine e_isub dX11_stall_79 ?_
              obtain rfl := Option.some.inj H
              exact z_iret rfl rfl dX11_stall_80 rfl rfl
          · replace H := of_ c16 H
            refine e_bipush (v := (-4 : Int32)) dX11_stall_52 (by decide) ?_
            obtain rfl := Option.some.inj H
            exact z_iret rfl rfl dX11_stall_54 rfl rfl
        · replace H := of_ (nb c12) H
          refine e_bipush (v := (-2 : Int32)) dX11_stall_37 (by decide) ?_
          obtain rfl := Option.some.inj H
          exact z_iret rfl rfl dX11_stall_39 rfl rfl
-- J15_checkIndex_7cf53
def f_J15_checkIndex_7cf53 (p0 : Int32) (p1 : Int32) : Option Int32 := (Option.bind (f_J3_checkIndex_8e157N p0 p1) (fun q1 => (some q1)))
set_option maxHeartbeats 4000000 in
set_option maxRecDepth 20000 in
theorem t_J15_checkIndex_7cf53 {G : GE} (d : Nat) {p0 : Int32} {p1 : Int32} {h : HS} {q : Int32} (H : f_J15_checkIndex_7cf53 p0 p1 = some q) : CE G (d + 1) yJ15_checkIndex_7cf53 miJ15_checkIndex_7cf53 [.int p0, .int p1] h (some (.int q)) (h) := by
  unfold f_J15_checkIndex_7cf53 at H
  refine ce_of rfl (by decide) (fun q => by first | rfl | cases q) (Nat.le_of_ble_eq_true rfl) rfl ?_
  refine e_iload_n dJ15_checkIndex_7cf53_0 rfl ?_
  refine e_iload_n dJ15_checkIndex_7cf53_1 rfl ?_
  refine e_null dJ15_checkIndex_7cf53_2 ?_
  replace H := ob H; obtain ⟨q1, c2, H⟩ := H
  refine s1 lmJ15_105 lsJ3_checkIndex_8e157 msJ3_checkIndex_8e157 dJ15_checkIndex_7cf53_3 (t_J3_checkIndex_8e157N (d + 0) c2) rfl (Nat.le_of_ble_eq_true rfl) (Nat.le_refl _) ?_
  obtain rfl := Option.some.inj H
  exact z_iret rfl rfl dJ15_checkIndex_7cf53_6 rfl rfl
