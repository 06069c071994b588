/-! Part 78: marks; mark answers alike. -/
theorem fr_same {S : Nat → Nat → Bool} {g g' : Nat → Nat → Int} {x i : Nat} {v : Int} (hv : v = g x i) (h : fr S g g') : fr S g (up g' x i v) := by
  intro y j hy
  show (if y = x ∧ j = i then v else g' y j) = g y j
  by_cases hc : y = x ∧ j = i
  · rw [if_pos hc, hc.1, hc.2, hv]
  · rw [if_neg hc]; exact h y j hy
theorem fr_cpy {S : Nat → Nat → Bool} {g g' : Nat → Nat → Int} {x y n : Nat} (hs : ∀ j, S y j = false) (h : fr S g g') : fr S g (cpy g' x y n) := by
  intro z j hz
  have hc : ¬ (z = y ∧ 0 ≤ j ∧ j < 0 + n) := by rintro ⟨rfl, _⟩; rw [hs] at hz; cases hz
  show (if z = y ∧ 0 ≤ j ∧ j < 0 + n then _ else g' z j) = g z j
  rw [if_neg hc]
  exact h z j hz
theorem fr_fo {S : Nat → Nat → Bool} {g : Nat → Nat → Int} {F : Nat → (Nat → Nat → Int) → Nat → Nat → Int} (hF : ∀ i a, fr S g a → fr S g (F i a)) {a : Nat → Nat → Int} (h : fr S g a) : ∀ n, fr S g (fo F a n)
  | 0 => h
  | n + 1 => hF n _ (fr_fo hF h n)
theorem pM1_get (m : Nat) (u : Nat → Nat → Int) : ∀ n x j, fo (pM1 m) u n x j = if x = 155 ∧ 40 * m ≤ j ∧ j < 40 * m + n then bit1 (u 104 (j - 40 * m)) else if x = 156 ∧ 40 * m ≤ j ∧ j < 40 * m + n then u 103 (j - 40 * m) else u x j := by
  intro n
  induction n with
  | zero => intro x j; rw [if_neg (by omega), if_neg (by omega)]; rfl
  | succ n ih =>
    intro x j
    show (if x = 156 ∧ j = 40 * m + n then fo (pM1 m) u n 103 n else if x = 155 ∧ j = 40 * m + n then bit1 (fo (pM1 m) u n 104 n) else fo (pM1 m) u n x j) = _
    rw [ih 103, ih 104, ih x j]
    rw [if_neg (show ¬ (103 = 155 ∧ 40 * m ≤ n ∧ n < 40 * m + n) by omega), if_neg (show ¬ (103 = 156 ∧ 40 * m ≤ n ∧ n < 40 * m + n) by omega), if_neg (show ¬ (104 = 155 ∧ 40 * m ≤ n ∧ n < 40 * m + n) by omega), if_neg (show ¬ (104 = 156 ∧ 40 * m ≤ n ∧ n < 40 * m + n) by omega)]
    by_cases h1 : j = 40 * m + n
    · subst h1
      rw [show 40 * m + n - 40 * m = n by omega]
      by_cases h2 : x = 156
      · rw [if_pos (by omega), if_neg (by omega), if_pos (by omega)]
      · by_cases h3 : x = 155
        · rw [if_neg (by omega), if_pos (by omega), if_pos (by omega)]
        · rw [if_neg (by omega), if_neg (by omega), if_neg (by omega), if_neg (by omega), if_neg (by omega), if_neg (by omega)]
    · rw [if_neg (by omega), if_neg (by omega)]
      have e : ∀ y : Nat, (x = y ∧ 40 * m ≤ j ∧ j < 40 * m + n) ↔ (x = y ∧ 40 * m ≤ j ∧ j < 40 * m + (n + 1)) := by intro y; omega
      simp only [e]
theorem pM2_get (m : Nat) (u : Nat → Nat → Int) : ∀ n x j, fo (pM2 m) u n x j = if x = 157 ∧ 10 * m ≤ j ∧ j < 10 * m + n then u 130 (j - 10 * m) else u x j := by
  intro n
  induction n with
  | zero => intro x j; rw [if_neg (by omega)]; rfl
  | succ n ih =>
    intro x j
    show (if x = 157 ∧ j = 10 * m + n then fo (pM2 m) u n 130 n else fo (pM2 m) u n x j) = _
    rw [ih 130, ih x j, if_neg (show ¬ (130 = 157 ∧ 10 * m ≤ n ∧ n < 10 * m + n) by omega)]
    by_cases h1 : j = 10 * m + n
    · subst h1
      rw [show 10 * m + n - 10 * m = n by omega]
      by_cases h2 : x = 157
      · rw [if_pos (by omega), if_pos (by omega)]
      · rw [if_neg (by omega), if_neg (by omega), if_neg (by omega)]
    · rw [if_neg (by omega)]
      have e : (x = 157 ∧ 10 * m ≤ j ∧ j < 10 * m + n) ↔ (x = 157 ∧ 10 * m ≤ j ∧ j < 10 * m + (n + 1)) := by omega
      simp only [e]
theorem gM1_get (m : Nat) (u : Nat → Nat → Int) : ∀ n x j, fo (gM1 m) u n x j = if x = 104 ∧ j < n then bit1 (u 155 (40 * m + j)) else if x = 103 ∧ j < n then u 156 (40 * m + j) else u x j := by
  intro n
  induction n with
  | zero => intro x j; rw [if_neg (by omega), if_neg (by omega)]; rfl
  | succ n ih =>
    intro x j
    show (if x = 103 ∧ j = n then fo (gM1 m) u n 156 (40 * m + n) else if x = 104 ∧ j = n then bit1 (fo (gM1 m) u n 155 (40 * m + n)) else fo (gM1 m) u n x j) = _
    rw [ih 156, ih 155, ih x j]
    rw [if_neg (show ¬ (156 = 104 ∧ 40 * m + n < n) by omega), if_neg (show ¬ (156 = 103 ∧ 40 * m + n < n) by omega), if_neg (show ¬ (155 = 104 ∧ 40 * m + n < n) by omega), if_neg (show ¬ (155 = 103 ∧ 40 * m + n < n) by omega)]
    by_cases h1 : j = n
    · subst h1
      by_cases h2 : x = 103
      · rw [if_pos (by omega), if_neg (by omega), if_pos (by omega)]
      · by_cases h3 : x = 104
        · rw [if_neg (by omega), if_pos (by omega), if_pos (by omega)]
        · rw [if_neg (by omega), if_neg (by omega), if_neg (by omega), if_neg (by omega), if_neg (by omega), if_neg (by omega)]
    · rw [if_neg (by omega), if_neg (by omega)]
      have e : ∀ y : Nat, (x = y ∧ j < n) ↔ (x = y ∧ j < n + 1) := by intro y; omega
      simp only [e]
theorem gM2_get (m : Nat) (u : Nat → Nat → Int) : ∀ n x j, fo (gM2 m) u n x j = if x = 130 ∧ j < n then u 157 (10 * m + j) else u x j := by
  intro n
  induction n with
  | zero => intro x j; rw [if_neg (by omega)]; rfl
  | succ n ih =>
    intro x j
    show (if x = 130 ∧ j = n then fo (gM2 m) u n 157 (10 * m + n) else fo (gM2 m) u n x j) = _
    rw [ih 157, ih x j, if_neg (show ¬ (157 = 130 ∧ 10 * m + n < n) by omega)]
    by_cases h1 : j = n
    · subst h1
      by_cases h2 : x = 130
      · rw [if_pos (by omega), if_pos (by omega)]
      · rw [if_neg (by omega), if_neg (by omega), if_neg (by omega)]
    · rw [if_neg (by omega)]
      have e : (x = 130 ∧ j < n) ↔ (x = 130 ∧ j < n + 1) := by omega
      simp only [e]
theorem gM3_get (m : Nat) (u : Nat → Nat → Int) : ∀ n x j, fo (gM3 m) u n x j = if x = 153 ∧ j < n ∧ u 153 m < u 153 j then 0 else u x j := by
  intro n
  induction n with
  | zero => intro x j; rw [if_neg (by omega)]; rfl
  | succ n ih =>
    intro x j
    have em : fo (gM3 m) u n 153 m = u 153 m := by rw [ih, if_neg (by omega)]
    have en : fo (gM3 m) u n 153 n = u 153 n := by rw [ih, if_neg (by omega)]
    show gM3 m n (fo (gM3 m) u n) x j = _
    unfold gM3
    rw [show (fo (fun i a => if a 153 m < a 153 i then up a 153 i 0 else a) u n) = fo (gM3 m) u n from rfl, em, en]
    by_cases h0 : u 153 m < u 153 n
    · rw [if_pos h0]
      show (if x = 153 ∧ j = n then 0 else fo (gM3 m) u n x j) = _
      rw [ih x j]
      by_cases h1 : j = n
      · subst h1
        by_cases h2 : x = 153
        · rw [if_pos (by omega), if_pos (by omega)]
        · rw [if_neg (by omega), if_neg (by omega), if_neg (by omega)]
      · rw [if_neg (by omega)]
        have e : (x = 153 ∧ j < n ∧ u 153 m < u 153 j) ↔ (x = 153 ∧ j < n + 1 ∧ u 153 m < u 153 j) := by omega
        simp only [e]
    · rw [if_neg h0, ih x j]
      have e : (x = 153 ∧ j < n ∧ u 153 m < u 153 j) ↔ (x = 153 ∧ j < n + 1 ∧ u 153 m < u 153 j) := by
        constructor
        · rintro ⟨a, b, c⟩; exact ⟨a, by omega, c⟩
        · rintro ⟨a, b, c⟩
          refine ⟨a, ?_, c⟩
          by_cases hj : j = n
          · subst hj; exact absurd c h0
          · omega
      simp only [e]
theorem dropC_get (m : Nat) (u : Nat → Nat → Int) : ∀ n x j, fo (dropC m) u n x j = if x = 73 ∧ j < n ∧ u 73 m < u 73 j then 0 else u x j := by
  intro n
  induction n with
  | zero => intro x j; rw [if_neg (by omega)]; rfl
  | succ n ih =>
    intro x j
    have em : fo (dropC m) u n 73 m = u 73 m := by rw [ih, if_neg (by omega)]
    have en : fo (dropC m) u n 73 n = u 73 n := by rw [ih, if_neg (by omega)]
    show dropC m n (fo (dropC m) u n) x j = _
    unfold dropC
    rw [show (fo (fun i a => if a 73 m < a 73 i then up a 73 i 0 else a) u n) = fo (dropC m) u n from rfl, em, en]
    by_cases h0 : u 73 m < u 73 n
    · rw [if_pos h0]
      show (if x = 73 ∧ j = n then 0 else fo (dropC m) u n x j) = _
      rw [ih x j]
      by_cases h1 : j = n
      · subst h1
        by_cases h2 : x = 73
        · rw [if_pos (by omega), if_pos (by omega)]
        · rw [if_neg (by omega), if_neg (by omega), if_neg (by omega)]
      · rw [if_neg (by omega)]
        have e : (x = 73 ∧ j < n ∧ u 73 m < u 73 j) ↔ (x = 73 ∧ j < n + 1 ∧ u 73 m < u 73 j) := by omega
        simp only [e]
    · rw [if_neg h0, ih x j]
      have e : (x = 73 ∧ j < n ∧ u 73 m < u 73 j) ↔ (x = 73 ∧ j < n + 1 ∧ u 73 m < u 73 j) := by
        constructor
        · rintro ⟨a, b, c⟩; exact ⟨a, by omega, c⟩
        · rintro ⟨a, b, c⟩
          refine ⟨a, ?_, c⟩
          by_cases hj : j = n
          · subst hj; exact absurd c h0
          · omega
      simp only [e]
/-- mark k, where it is held: class and reference alike -/
def held (g : Nat → Nat → Int) (k : Nat) : Prop := g 74 k = g 154 k ∧ 0 ≤ g 154 k ∧ g 154 k ≤ g 89 10 ∧ in64 (g 75 k) ∧ (∀ e : Nat, e < 64 → tb (g 75 k) e = decide (e < 40 ∧ (e : Int) < g 154 k ∧ g 155 (40 * k + e) = 0)) ∧ (∀ e : Nat, e < 40 → g (77 + k) e = g 156 (40 * k + e) ∧ 0 ≤ g 156 (40 * k + e) ∧ g 156 (40 * k + e) ≤ 9) ∧ (∀ e : Nat, e < 40 → (g 155 (40 * k + e) = 0 ∨ g 155 (40 * k + e) = 1)) ∧ (∀ i : Nat, i < 10 → g (82 + k) i = g 157 (10 * k + i) ∧ -1 ≤ g 157 (10 * k + i) ∧ g 157 (10 * k + i) ≤ 3)
/-- the shelf, after at most N layings -/
def RS (N : Int) (g : Nat → Nat → Int) : Prop := g 72 5 = g 89 81 ∧ 0 ≤ g 89 81 ∧ g 89 81 ≤ N ∧ (∀ k : Nat, k < 4 → g 73 k = g 153 k ∧ 0 ≤ g 153 k ∧ g 153 k ≤ g 89 81 ∧ (0 < g 153 k → held g k)) ∧ (∀ k l : Nat, k < 4 → l < 4 → 0 < g 153 k → g 153 k ≤ g 153 l → g 154 k ≤ g 154 l)
