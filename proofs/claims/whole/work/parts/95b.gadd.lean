/-! ===== what add makes ===== -/
theorem G_grow1 {p0 : Nat} {p1 : Int32} {h : HS} {q : Option Nat × HS} (hp : ¬ (10 : Int32) < p1) (H : f_Jx4a65c_grow_92f84 p0 p1 h = some q) : hN q.2 = hN h + 1 ∧ hS q.2 = hS h + 10 := by
  unfold f_Jx4a65c_grow_92f84 at H
  simp only [if_neg hp] at H
  replace H := og H; obtain ⟨g1, H⟩ := H
  replace H := oom H; obtain ⟨-, H⟩ | ⟨b2, e3, H⟩ := H
  · exact nz H
  replace H := oi H; obtain ⟨c44, H⟩ | ⟨c44, H⟩ := H
  · replace H := oom H; obtain ⟨-, H⟩ | ⟨b5, e6, H⟩ := H
    · exact nz H
    replace H := oi H; obtain ⟨c21, H⟩ | ⟨c21, H⟩ := H
    · replace H := og H; obtain ⟨g8, H⟩ := H
      replace H := og H; obtain ⟨g9, H⟩ := H
      replace H := obh H; obtain ⟨h12, e13, H⟩ := H
      replace H := og H; obtain ⟨g16, H⟩ := H
      obtain rfl := Option.some.inj H
      rw [← e13]
      exact ⟨rfl, rfl⟩
    · exact nz H
  · replace H := og H; obtain ⟨g22, H⟩ := H
    replace H := oi H; obtain ⟨c23, H⟩ | ⟨c23, H⟩ := H
    · exact nz H
    · replace H := oom H; obtain ⟨-, H⟩ | ⟨b24, e25, H⟩ := H
      · exact nz H
      replace H := oi H; obtain ⟨c43, H⟩ | ⟨c43, H⟩ := H
      · replace H := og H; obtain ⟨g27, H⟩ := H
        replace H := og H; obtain ⟨g28, H⟩ := H
        replace H := obh H; obtain ⟨h32, e33, H⟩ := H
        replace H := og H; obtain ⟨g37, H⟩ := H
        obtain rfl := Option.some.inj H
        rw [← e33]
        exact ⟨rfl, rfl⟩
      · exact nz H
theorem G_grow2 {p0 : Nat} {h : HS} {q : Option Nat × HS} (hp : ¬ (10 : Int32) < hI h p0 2 + 1) (H : f_Jx4a65c_grow_d5877 p0 h = some q) : hN q.2 = hN h + 1 ∧ hS q.2 = hS h + 10 := by
  unfold f_Jx4a65c_grow_d5877 at H
  replace H := og H; obtain ⟨g1, H⟩ := H
  replace H := ob H; obtain ⟨q2, c3, H⟩ := H
  have e6 := G_grow1 hp c3
  replace H := oom H; obtain ⟨e4, H⟩ | ⟨b5, e4, H⟩ := H
  · obtain rfl := Option.some.inj H
    exact e6
  · obtain rfl := Option.some.inj H
    exact e6
theorem G_add1 {p0 p1 p2 : Nat} {p3 : Int32} {h q : HS} (hp : ¬ (10 : Int32) < hI h p0 2 + 1) (H : f_Jx4a65c_add_72be8 p0 p1 p2 p3 h = some q) : hN q ≤ hN h + 1 ∧ hS q ≤ hS h + 10 := by
  unfold f_Jx4a65c_add_72be8 at H
  replace H := oi H; obtain ⟨c0, H⟩ | ⟨c0, H⟩ := H
  · replace H := oi H; obtain ⟨c1, H⟩ | ⟨c1, H⟩ := H
    · replace H := og H; obtain ⟨g4, H⟩ := H
      replace H := ob H; obtain ⟨q2, c3, H⟩ := H
      have e7 := G_grow2 hp c3
      replace H := oom H; obtain ⟨e5, H⟩ | ⟨b6, e5, H⟩ := H
      · exact nz H
      · replace H := og H; obtain ⟨g9, H⟩ := H
        replace H := og H; obtain ⟨g10, H⟩ := H
        replace H := og H; obtain ⟨g11, H⟩ := H
        replace H := og H; obtain ⟨g12, H⟩ := H
        obtain rfl := Option.some.inj H
        show hN q2.2 ≤ _ ∧ hS q2.2 ≤ _
        omega
    · exact nz H
  · replace H := og H; obtain ⟨g16, H⟩ := H
    replace H := oi H; obtain ⟨c17, H⟩ | ⟨c17, H⟩ := H
    · replace H := og H; obtain ⟨g26, H⟩ := H
      replace H := ob H; obtain ⟨q24, c25, H⟩ := H
      have e29 := G_grow2 hp c25
      replace H := oom H; obtain ⟨e27, H⟩ | ⟨b28, e27, H⟩ := H
      · exact nz H
      · replace H := og H; obtain ⟨g32, H⟩ := H
        replace H := og H; obtain ⟨g33, H⟩ := H
        replace H := og H; obtain ⟨g34, H⟩ := H
        replace H := og H; obtain ⟨g35, H⟩ := H
        obtain rfl := Option.some.inj H
        show hN q24.2 ≤ _ ∧ hS q24.2 ≤ _
        omega
    · replace H := og H; obtain ⟨g18, H⟩ := H
      replace H := og H; obtain ⟨g19, H⟩ := H
      replace H := og H; obtain ⟨g20, H⟩ := H
      replace H := og H; obtain ⟨g23, H⟩ := H
      obtain rfl := Option.some.inj H
      exact ⟨Nat.le_succ _, Nat.le_add_right _ _⟩
theorem G_add {p0 p1 : Nat} {h : HS} {q : Bool × HS} {n : Nat} (hn : hI h p0 2 = nI n) (h8 : n < 8) (H : f_Jx4a65c_add_9ea2d p0 p1 h = some q) : hN q.2 ≤ hN h + 1 ∧ hS q.2 ≤ hS h + 10 := by
  have hp : ∀ v, ¬ (10 : Int32) < hI (sI h p0 0 v) p0 2 + 1 := fun v => by
    rw [hI_sI, if_pos rfl, if_neg (by decide), hn, nI_1, show (10 : Int32) = nI 10 from rfl]
    exact nI_nlt (by omega) (by decide)
  unfold f_Jx4a65c_add_9ea2d at H
  replace H := og H; obtain ⟨g1, H⟩ := H
  replace H := oom H; obtain ⟨-, H⟩ | ⟨b2, e3, H⟩ := H
  · exact nz H
  replace H := oi H; obtain ⟨c12, H⟩ | ⟨c12, H⟩ := H
  · replace H := ob H; obtain ⟨q4, c5, H⟩ := H
    have e6 := G_add1 (hp _) c5
    obtain rfl := Option.some.inj H
    exact e6
  · replace H := ob H; obtain ⟨q8, c9, H⟩ := H
    have e10 := G_add1 (hp _) c9
    obtain rfl := Option.some.inj H
    exact e10
