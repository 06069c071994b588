/-! Part 62: what of the memory is state; the rest is scratch. -/
def scr (x i : Nat) : Bool := match x with
  | 28 => true | 29 => true | 45 => true | 46 => true | 47 => true | 49 => true | 50 => true | 51 => true | 52 => true | 53 => true | 54 => true
  | 56 => true | 57 => true | 58 => true | 59 => true | 62 => true | 63 => true | 64 => true | 66 => true | 67 => true | 68 => true | 69 => true | 70 => true | 71 => true | 86 => true | 87 => true | 88 => true
  | 115 => true | 116 => true | 117 => true | 118 => true | 119 => true | 120 => true | 121 => true | 122 => true | 123 => true | 124 => true | 125 => true | 126 => true
  | 134 => true | 135 => true | 136 => true | 137 => true | 138 => true | 139 => true | 140 => true | 141 => true | 144 => true | 145 => true | 146 => true | 147 => true | 148 => true | 149 => true | 150 => true | 151 => true | 158 => true
  | 9 => decide (2 ≤ i)
  | 48 => decide (i = 6)
  | 65 => decide (i = 2 ∨ i = 7)
  | 89 => decide (i = 0 ∨ (19 ≤ i ∧ i ≤ 25) ∨ i = 35 ∨ i = 36 ∨ i = 60 ∨ i = 72 ∨ i = 76)
  | _ => false
/-- the state alone -/
def ab (g : Nat → Nat → Int) : Nat → Nat → Int := fun x i => if scr x i = true then 0 else g x i
theorem ab_get {g g' : Nat → Nat → Int} (h : ab g' = ab g) (x i : Nat) (hs : scr x i = false) : g' x i = g x i := by
  have := congrFun (congrFun h x) i
  unfold ab at this
  rw [hs] at this
  simpa using this
theorem ab_up {g : Nat → Nat → Int} {x i : Nat} {v : Int} (hs : scr x i = true) : ab (up g x i v) = ab g := by
  funext a j
  unfold ab up
  by_cases h : a = x ∧ j = i
  · obtain ⟨rfl, rfl⟩ := h; rw [if_pos hs, if_pos hs]
  · rw [if_neg h]
theorem ab_up' {g g0 : Nat → Nat → Int} {x i : Nat} {v : Int} (hs : scr x i = true) (h : ab g = g0) : ab (up g x i v) = g0 := (ab_up hs).trans h
theorem RE.ab {g g' : Nat → Nat → Int} (h : RE g) (e : ab g' = ab g) : RE g' := by
  have h1 : RE (Jvm.Pilot.CVillageShowLaw_law_r8692_addf0e.ab g) := h
  rw [← e] at h1
  exact h1
