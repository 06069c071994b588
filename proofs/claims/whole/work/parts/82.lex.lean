/-! Part 82: words and numbers on the tape (class). -/
theorem up_up {g : Nat → Nat → Int} {x i : Nat} {v w : Int} : up (up g x i v) x i w = up g x i w := by
  funext y j
  show (if y = x ∧ j = i then w else if y = x ∧ j = i then v else g y j) = if y = x ∧ j = i then w else g y j
  split <;> rfl
theorem up_eta {g : Nat → Nat → Int} {x i : Nat} {v : Int} (h : v = g x i) : up g x i v = g := by
  funext y j
  show (if y = x ∧ j = i then v else g y j) = g y j
  by_cases q : y = x ∧ j = i
  · rw [if_pos q, q.1, q.2, h]
  · rw [if_neg q]
theorem up_comm {g : Nat → Nat → Int} {x i y j : Nat} {v w : Int} (h : ¬ (x = y ∧ i = j)) : up (up g x i v) y j w = up (up g y j w) x i v := by
  funext z k
  show (if z = y ∧ k = j then w else if z = x ∧ k = i then v else g z k) = if z = x ∧ k = i then v else if z = y ∧ k = j then w else g z k
  by_cases q : z = y ∧ k = j
  · rw [if_pos q, if_pos q]
    by_cases q2 : z = x ∧ k = i
    · exact absurd ⟨q2.1.symm.trans q.1, q2.2.symm.trans q.2⟩ h
    · rw [if_neg q2]
  · rw [if_neg q, if_neg q]
/-- how far P goes from p, at most n places -/
def spn (P : Int → Bool) (T : Nat → Int) : Nat → Nat → Nat
  | 0, p => p
  | n + 1, p => if P (T p) = true then spn P T n (p + 1) else p
theorem spn_le (P : Int → Bool) (T : Nat → Int) : ∀ n p, p ≤ spn P T n p ∧ spn P T n p ≤ p + n
  | 0, p => ⟨Nat.le_refl _, Nat.le_refl _⟩
  | n + 1, p => by
    have h := spn_le P T n (p + 1)
    unfold spn
    split <;> omega
def low (b : Int) : Bool := decide (97 ≤ b ∧ b ≤ 122)
def dig (b : Int) : Bool := decide (48 ≤ b ∧ b ≤ 57)
def blk (b : Int) : Bool := decide (b = 32 ∨ b = 10)
theorem low_is {b : Int} : low b = true ↔ 97 ≤ b ∧ b ≤ 122 := by simp [low]
theorem dig_is {b : Int} : dig b = true ↔ 48 ≤ b ∧ b ≤ 57 := by simp [dig]
theorem blk_is {b : Int} : blk b = true ↔ b = 32 ∨ b = 10 := by simp [blk]
/-- the number of n digits from a -/
def numTo (T : Nat → Int) (a : Nat) : Nat → Int
  | 0 => 0
  | n + 1 => w32 (w32 (numTo T a n * 10) + w32 (T (a + n) - 48))
section LEX
variable (X : MExt) (E : List (Nat × Nat)) (c s : Nat) {g : Nat → Nat → Int}
/-- Reader.takeWord -/
theorem c41 (d a L : Nat) (hL : L ≤ 1000) (ha : a ≤ L) (h1 : g 9 1 = L) (h5 : g 9 5 = a) (h4 : g 9 4 = a) : Call prog clsT X (d + 1) 41 [(2, 9)] (mk E c s (hh g)) = some ((3, 0), mk E c s (hh (up (up g 9 4 (spn low (g 10) (L - a) a : Nat)) 9 6 (if spn low (g 10) (L - a) a > a + 8 then 4 else 1)))) := by
  rw [rc41_, h5]
  have loop : ∀ (n k : Nat), k + n = L → a ≤ k → Ev prog clsT X d mc41 3 [(2, 9), (0, (k : Int))] [] (mk E c s (hh (up g 9 4 (k : Int)))) = some ((3, 0), mk E c s (hh (up (up g 9 4 (spn low (g 10) n k : Nat)) 9 6 (if spn low (g 10) n k > a + 8 then 4 else 1)))) := by
    intro n
    induction n with
    | zero =>
      intro k hk hak
      have e1 : up g 9 4 (k : Int) 9 1 = L := h1
      have e4 : up g 9 4 (k : Int) 9 4 = k := up_same
      have e5 : up g 9 4 (k : Int) 9 5 = a := h5
      rw [r41_3, cmp_ge, e1, if_pos (by omega), cmp_gt, e4, e5, w32_of (by omega) (by omega)]
      show _ = some ((3, 0), mk E c s (hh (up (up g 9 4 (k : Int)) 9 6 (if k > a + 8 then 4 else 1))))
      by_cases q : k > a + 8
      · rw [if_pos (by omega), if_pos q]
      · rw [if_neg (by omega), if_neg q]
    | succ n ih =>
      intro k hk hak
      have e1 : up g 9 4 (k : Int) 9 1 = L := h1
      have e4 : up g 9 4 (k : Int) 9 4 = k := up_same
      have e5 : up g 9 4 (k : Int) 9 5 = a := h5
      have e10 : up g 9 4 (k : Int) 10 k = g 10 k := up_cell (by decide)
      have fin : ¬ (low (g 10 k) = true) → (if (8 : Int) < w32 ((k : Int) - a) then some (((3 : Nat), (0 : Int)), mk E c s (hh (up (up g 9 4 (k : Int)) 9 6 4))) else some ((3, 0), mk E c s (hh (up (up g 9 4 (k : Int)) 9 6 1)))) = some ((3, 0), mk E c s (hh (up (up g 9 4 (spn low (g 10) (n + 1) k : Nat)) 9 6 (if spn low (g 10) (n + 1) k > a + 8 then 4 else 1)))) := by
        intro hl
        rw [show spn low (g 10) (n + 1) k = k from if_neg hl, w32_of (by omega) (by omega)]
        by_cases q : k > a + 8
        · rw [if_pos (by omega), if_pos q]
        · rw [if_neg (by omega), if_neg q]
      rw [r41_3, cmp_ge, e1, if_neg (by omega), inb_is, if_pos (by omega), Int.toNat_natCast, e10, cmp_lt]
      by_cases q1 : g 10 k < 97
      · rw [if_pos q1, cmp_gt, e4, e5]
        exact fin (fun q => by have := low_is.mp q; omega)
      · rw [if_neg q1, inb_is, if_pos (by omega), cmp_gt]
        by_cases q2 : 122 < g 10 k
        · rw [if_pos q2, cmp_gt, e4, e5]
          exact fin (fun q => by have := low_is.mp q; omega)
        · rw [if_neg q2, w32_succ (by omega), up_up]
          have hl : low (g 10 k) = true := low_is.mpr (by omega)
          rw [show spn low (g 10) (n + 1) k = spn low (g 10) n (k + 1) from if_pos hl]
          exact ih (k + 1) (by omega) (by omega)
  have := loop (L - a) a (by omega) (Nat.le_refl _)
  rw [up_eta (g := g) (x := 9) (i := 4) (v := (a : Int)) h4.symm] at this
  exact this
end LEX
