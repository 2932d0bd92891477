/-! ===== the first heap ===== -/
def h00 : HS := ((32, 0), (fun _ => 0), (fun _ => 0), (fun _ _ => 0), (fun _ _ => 0), (fun _ _ => none))
def gX : Option HS := f_X11_init 32 (hNew h00 13 0 20)
def gM : Option HS := gX.bind (fun q => f_X12_init 60 (hNew q 14 0 57))
def rby : List Int32 := [112, 108, 97, 121, 32, 112, 114, 105, 99, 101, 32, 60, 32, 111, 100, 100, 115, 32, 43, 32, 115, 101, 101, 109, 115, 32, 59, 32, 115, 107, 105, 108, 108, 32, 57, 57, 32, 60, 32, 111, 100, 100, 115, 32, 59, 32, 108, 101, 97, 118, 101, 32, 50, 32, 59, 32]
def B1 : BT := (56, fun i => rby.getD i 0)
def tg0 (b : Nat) : Nat := if b = 56 then 30 else if b = 57 then 40 else if b = 58 then 50 else if b = 59 then 3 else 0
abbrev TT : Type := List Int32 × List Int32 × List Int32
abbrev st1_ (h : HS) : Prop := hN h = 89 ∧ hS h ≤ 8000 ∧ lyB TX h = true ∧ lyB TM h = true
abbrev st2_ (h : HS) : Prop := hI h 60 14 = 0 ∧ hI h 60 18 = 0 ∧ hI h 60 25 = 0 ∧ hI h 60 44 = 0 ∧ hI h 60 6 = 0 ∧ hI h 60 3 = 1 ∧ hI h 62 0 = 56 ∧ (∀ k, k < 56 → hI h 61 k = rby.getD k 0) ∧ hI h 60 49 = 0 ∧ (∀ q, q < 4 → hI h 85 q = 0) ∧ hI h 60 4 = 0
abbrev st3_ (h : HS) : Prop := (∀ q, q < 20 → hI h 49 q = 0) ∧ (∀ p, p < 20 → hI h 49 (p * 20) = 0) ∧ (hI h 33 2 = 0 ∧ hR h 33 1 = some 27) ∧ (hI h 34 2 = 0 ∧ hR h 34 1 = some 27) ∧ hI h 32 5 = 0 ∧ hI h 32 8 = 0 ∧ hI h 39 1 = 0 ∧ hI h 44 0 = 0 ∧ (∀ q, q < 4 → hR h 46 q = none) ∧ hI h 32 3 = 0
abbrev st4_ (q : TT) (h : HS) : Prop := hI h 35 2 = 1 ∧ hR h 35 1 = some 59 ∧ hT h 59 = 18 ∧ hLn h 59 = 10 ∧ hR h 59 0 = some 56 ∧ hT h 56 = 11 ∧ hR h 56 0 = some 57 ∧ hR h 56 1 = some 58 ∧ hT h 57 = 15 ∧ hT h 58 = 15 ∧ hLn h 57 = q.1.length + q.2.1.length + q.2.2.length ∧ hLn h 58 = q.1.length + q.2.1.length + q.2.2.length ∧ hI h 56 2 = nI q.1.length ∧ hI h 56 3 = nI (q.1.length + q.2.1.length) ∧ (∀ j, j < q.1.length + q.2.1.length + q.2.2.length → hI h 57 j = (q.1 ++ q.2.1 ++ q.2.2).getD j 0) ∧ q.1.length + q.2.1.length + q.2.2.length ≤ 160
def onS (f : HS → Bool) : Bool := match gM with
  | some h => f h
  | none => false
theorem onS_e {f : HS → Bool} {h : HS} (e : gM = some h) (t : onS f = true) : f h = true := by unfold onS at t; rw [e] at t; exact t
set_option maxRecDepth 100000 in
theorem st_1 : onS (fun h => decide (st1_ h)) = true := by decide +kernel
set_option maxRecDepth 100000 in
theorem st_2 : onS (fun h => decide (st2_ h)) = true := by decide +kernel
set_option maxRecDepth 100000 in
theorem st_3 : onS (fun h => decide (st3_ h)) = true := by decide +kernel
def ap3 : Nat ⊕ TT := apT (tkc B1.2 B1.1)
def on3 (f : TT → Bool) : Bool := match ap3 with
  | .inr q => f q
  | .inl _ => false
set_option maxRecDepth 100000 in
theorem st_4 : on3 (fun q => onS (fun h => decide (st4_ q h))) = true := by decide +kernel
set_option maxRecDepth 100000 in
theorem st_gX : gX.map (fun h => hN h) = some 60 := by decide +kernel
