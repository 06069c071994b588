/-! Part 67: what a step leaves alone; the plain setters keep the relations. -/
/-- g' is as g at the places of S -/
def fr (S : Nat → Nat → Bool) (g g' : Nat → Nat → Int) : Prop := ∀ x i, S x i = true → g' x i = g x i
def cut (S : Nat → Nat → Bool) (g : Nat → Nat → Int) : Nat → Nat → Int := fun x i => if S x i = true then g x i else 0
theorem cut_fr {S : Nat → Nat → Bool} {g g' : Nat → Nat → Int} (h : fr S g g') : cut S g' = cut S g := by
  funext x i
  unfold cut
  by_cases hs : S x i = true
  · rw [if_pos hs, if_pos hs, h x i hs]
  · rw [if_neg hs, if_neg hs]
theorem fr_refl (S : Nat → Nat → Bool) (g : Nat → Nat → Int) : fr S g g := fun _ _ _ => rfl
theorem fr_up {S : Nat → Nat → Bool} {g g' : Nat → Nat → Int} {x i : Nat} {v : Int} (hs : S x i = false) (h : fr S g g') : fr S g (up g' x i v) := by
  intro y j hy
  have hc : ¬ (y = x ∧ j = i) := by rintro ⟨rfl, rfl⟩; rw [hs] at hy; cases hy
  show (if y = x ∧ j = i then v else g' y j) = g y j
  rw [if_neg hc]
  exact h y j hy
theorem fr_trans {S : Nat → Nat → Bool} {g g' g2 : Nat → Nat → Int} (h : fr S g g') (h2 : fr S g' g2) : fr S g g2 := fun x i hs => (h2 x i hs).trans (h x i hs)
def sRE (x i : Nat) : Bool := match x with
  | 30 => decide (i ≤ 1) | 31 => true | 32 => true | 33 => true | 34 => true | 35 => true
  | 99 => true | 100 => true | 101 => true | 102 => true | 103 => true | 104 => true
  | 89 => decide (i = 10) | _ => false
def sRV (x i : Nat) : Bool := match x with
  | 2 => true | 3 => true | 4 => true | 5 => true | 6 => true | 7 => true | 8 => true
  | 90 => true | 91 => true | 92 => true | 93 => true | 94 => true | 95 => true | 96 => true | 97 => true | 98 => true | _ => false
def sRJ (x i : Nat) : Bool := match x with
  | 36 => decide (i = 3) | 37 => true | 38 => true | 39 => true | 127 => true | 128 => true | 129 => true | 130 => true | 89 => decide (i = 61) | _ => false
def sRH (x i : Nat) : Bool := match x with
  | 41 => true | 42 => true | 43 => true | 44 => true | 131 => true | 132 => true | 133 => true | 152 => true | _ => false
def sRC (x i : Nat) : Bool := match x with
  | 60 => true | 61 => true | 142 => true | 143 => true | 55 => decide (i = 6 ∨ i = 7) | 89 => decide (i = 68 ∨ i = 69) | _ => false
/-- prizes and fees -/
def RC (g : Nat → Nat → Int) : Prop := (∀ i, g 60 i = g 142 i) ∧ (∀ i, 0 ≤ g 142 i ∧ g 142 i ≤ 99) ∧ (∀ i, g 61 i = g 143 i) ∧ (∀ i, 0 ≤ g 143 i ∧ g 143 i ≤ 999) ∧ g 55 6 = g 89 68 ∧ g 55 7 = g 89 69 ∧ 0 ≤ g 89 68 ∧ g 89 68 ≤ 99 ∧ 0 ≤ g 89 69 ∧ g 89 69 ≤ 99
def sRQ (x i : Nat) : Bool := match x with
  | 90 => true | 94 => true | 95 => true | 99 => true | 100 => true | 106 => true | 89 => decide (i = 10) | _ => false
/-- who and what is named has been told -/
def RQ (g : Nat → Nat → Int) : Prop := (∀ e : Nat, e < nE g → g 90 (g 100 e).toNat ≠ 0) ∧ (∀ p : Nat, g 94 p ≠ 0 → g 90 (g 95 p).toNat ≠ 0) ∧ (∀ e : Nat, e < nE g → g 106 (g 99 e).toNat ≠ 0)
def sRB (x i : Nat) : Bool := match x with
  | 16 => true | 106 => true | _ => false
/-- which classes have a schedule -/
def RB (g : Nat → Nat → Int) : Prop := (∀ k : Nat, k < 10 → (g 16 k = -1 ↔ g 106 k = 0)) ∧ (∀ k : Nat, k < 10 → -1 ≤ g 16 k) ∧ (∀ k, g 106 k = 0 ∨ g 106 k = 1)
/-- the rest that is kept: rules, tapes, marks -/
def sRX (x i : Nat) : Bool := decide (159 ≤ x) || match x with
  | 0 => decide (i = 3 ∨ i = 4) | 9 => decide (i = 1 ∨ i = 2) | 10 => true
  | 11 => true | 12 => true | 13 => true | 14 => true | 15 => true | 16 => true | 17 => true | 18 => true | 19 => true | 20 => true | 21 => true | 22 => true | 23 => true | 24 => true | 25 => true | 26 => true
  | 72 => decide (i = 5) | 73 => true | 74 => true | 75 => true | 77 => true | 78 => true | 79 => true | 80 => true | 82 => true | 83 => true | 84 => true | 85 => true
  | 89 => decide (i = 17 ∨ i = 81) | 105 => true | 106 => true | 107 => true | 108 => true | 109 => true | 110 => true | 111 => true | 112 => true | 113 => true | 114 => true
  | 153 => true | 154 => true | 155 => true | 156 => true | 157 => true | _ => false
theorem RE.fr {g g' : Nat → Nat → Int} (h : RE g) (e : fr sRE g g') : RE g' := by
  have h1 : RE (cut sRE g) := h
  rw [← cut_fr e] at h1
  exact h1
theorem RV.fr {g g' : Nat → Nat → Int} (h : RV g) (e : fr sRV g g') : RV g' := by
  have h1 : RV (cut sRV g) := h
  rw [← cut_fr e] at h1
  exact h1
theorem RJ.fr {g g' : Nat → Nat → Int} (h : RJ g) (e : fr sRJ g g') : RJ g' := by
  have h1 : RJ (cut sRJ g) := h
  rw [← cut_fr e] at h1
  exact h1
theorem RH.fr {g g' : Nat → Nat → Int} (h : RH g) (e : fr sRH g g') : RH g' := by
  have h1 : RH (cut sRH g) := h
  rw [← cut_fr e] at h1
  exact h1
theorem RC.fr {g g' : Nat → Nat → Int} (h : RC g) (e : fr sRC g g') : RC g' := by
  have h1 : RC (cut sRC g) := h
  rw [← cut_fr e] at h1
  exact h1
theorem RQ.fr {g g' : Nat → Nat → Int} (h : RQ g) (e : fr sRQ g g') : RQ g' := by
  have h1 : RQ (cut sRQ g) := h
  rw [← cut_fr e] at h1
  exact h1
theorem RB.fr {g g' : Nat → Nat → Int} (h : RB g) (e : fr sRB g g') : RB g' := by
  have h1 : RB (cut sRB g) := h
  rw [← cut_fr e] at h1
  exact h1
theorem sRB_sRX (x i : Nat) (h : sRB x i = true) : sRX x i = true := by
  unfold sRB at h
  split at h
  · rfl
  · rfl
  · cases h
theorem RB_frX {g g' : Nat → Nat → Int} (h : RB g) (e : fr sRX g g') : RB g' := h.fr (fun x i hs => e x i (sRB_sRX x i hs))
theorem up_at {g : Nat → Nat → Int} {x i j : Nat} {v : Int} : up g x i v x j = if j = i then v else g x j := by
  unfold up; simp
