/-! Part 84: words and numbers on the tape (reference). -/
/-- the first n letters from a, at most eight of them, packed -/
def packTo (T : Nat → Int) (a : Nat) : Nat → Int
  | 0 => 0
  | n + 1 => if 8 ≤ n then packTo T a n else w64 (w64 (w64 (packTo T a n * 27) + T (a + n)) - 96)
/-- the number of the first n digits from a, at most four of them -/
def num4 (T : Nat → Int) (a : Nat) : Nat → Int
  | 0 => 0
  | n + 1 => if 4 ≤ n then num4 T a n else w32 (w32 (w32 (num4 T a n * 10) + T (a + n)) - 48)
section LEXM
variable (X : MExt) (E : List (Nat × Nat)) (c s : Nat) {g : Nat → Nat → Int}
/-- Model.signAt -/
theorem m168 (d k L : Nat) (hL : L ≤ 1000) (h1 : g 89 19 = L) : Call prog clsT X (d + 1) 168 [(2, 89), (0, (k : Int))] (mk E c s (hh g)) = some ((0, if k < L then g 105 k else 0), mk E c s (hh g)) := by
  rw [rc168_, cmp_ge, h1]
  by_cases q : k < L
  · rw [if_neg (by omega), inb_is, if_pos (by omega), if_pos q, Int.toNat_natCast]
  · rw [if_pos (by omega), if_neg q]
theorem m167w (d a L : Nat) (hL : L ≤ 1000) (h19 : g 89 19 = L) (h21 : g 89 21 = a) : ∀ (n k : Nat) (w1 : MV), k + n = L → a ≤ k → Ev prog clsT X (d + 1) mc167 57 [(2, 89), w1] [] (mk E c s (hh (up (up g 89 23 (packTo (g 105) a (k - a))) 89 20 (k : Int)))) = some ((3, 0), mk E c s (hh (up (up (up g 89 23 (packTo (g 105) a (spn low (g 105) n k - a))) 89 20 (spn low (g 105) n k : Nat)) 89 22 (if spn low (g 105) n k > a + 8 then 4 else 1)))) := by
  intro n
  induction n with
  | zero =>
    intro k w1 hk hak
    generalize hu : up (up g 89 23 (packTo (g 105) a (k - a))) 89 20 (k : Int) = u
    have e19 : u 89 19 = L := by rw [← hu]; exact h19
    have e20 : u 89 20 = k := by rw [← hu]; exact up_same
    have e21 : u 89 21 = a := by rw [← hu]; exact h21
    rw [r167_57, e20, call0 (m168 X E c s d k L hL e19), push0, if_neg (by omega), r167_61, cmp_lt, if_pos (by omega), cmp_le, e20, e21, w32_of (by omega) (by omega)]
    show _ = some ((3, 0), mk E c s (hh (up (up (up g 89 23 (packTo (g 105) a (k - a))) 89 20 (k : Int)) 89 22 (if k > a + 8 then 4 else 1))))
    rw [hu]
    by_cases q : k > a + 8
    · rw [if_neg (by omega), if_pos q]
    · rw [if_pos (by omega), if_neg q]
  | succ n ih =>
    intro k w1 hk hak
    generalize hu : up (up g 89 23 (packTo (g 105) a (k - a))) 89 20 (k : Int) = u
    have e19 : u 89 19 = L := by rw [← hu]; exact h19
    have e20 : u 89 20 = k := by rw [← hu]; exact up_same
    have e21 : u 89 21 = a := by rw [← hu]; exact h21
    have e23 : u 89 23 = packTo (g 105) a (k - a) := by rw [← hu]; exact (if_neg (by omega)).trans up_same
    have e105 : u 105 k = g 105 k := by rw [← hu, up_cell (by decide), up_cell (by decide)]
    have fin : ¬ (low (g 105 k) = true) → (if w32 ((k : Int) - a) ≤ 8 then some (((3 : Nat), (0 : Int)), mk E c s (hh (up u 89 22 1))) else some ((3, 0), mk E c s (hh (up u 89 22 4)))) = some ((3, 0), mk E c s (hh (up (up (up g 89 23 (packTo (g 105) a (spn low (g 105) (n + 1) k - a))) 89 20 (spn low (g 105) (n + 1) k : Nat)) 89 22 (if spn low (g 105) (n + 1) k > a + 8 then 4 else 1)))) := by
      intro hl
      rw [show spn low (g 105) (n + 1) k = k from if_neg hl, w32_of (by omega) (by omega), hu]
      by_cases q : k > a + 8
      · rw [if_neg (by omega), if_pos q]
      · rw [if_pos (by omega), if_neg q]
    rw [r167_57, e20, call0 (m168 X E c s d k L hL e19), push0, if_pos (by omega), r167_61, e105, cmp_lt]
    by_cases q1 : g 105 k < 97
    · rw [if_pos q1, cmp_le, e20, e21]
      exact fin (fun q => by have := low_is.mp q; omega)
    · rw [if_neg q1, e20, call0 (m168 X E c s d k L hL e19), push0, if_pos (by omega), r167_67, e105, cmp_gt]
      by_cases q2 : 122 < g 105 k
      · rw [if_pos q2, cmp_le, e20, e21]
        exact fin (fun q => by have := low_is.mp q; omega)
      · have hl : low (g 105 k) = true := low_is.mpr (by omega)
        rw [if_neg q2, cmp_ge, e20, e21, w32_of (x := (k : Int) - a) (by omega) (by omega), w32_succ (by omega), show spn low (g 105) (n + 1) k = spn low (g 105) n (k + 1) from if_pos hl]
        by_cases q3 : 8 ≤ k - a
        · have hp : packTo (g 105) a (k + 1 - a) = packTo (g 105) a (k - a) := by
            rw [show k + 1 - a = (k - a) + 1 by omega]; exact if_pos q3
          have hi := ih (k + 1) (3, 0) (by omega) (by omega)
          rw [hp] at hi
          rw [if_pos (by omega), ← hu, up_up]
          exact hi
        · have hp : packTo (g 105) a (k + 1 - a) = w64 (w64 (w64 (packTo (g 105) a (k - a) * 27) + g 105 k) - 96) := by
            rw [show k + 1 - a = (k - a) + 1 by omega]
            show (if 8 ≤ k - a then packTo (g 105) a (k - a) else w64 (w64 (w64 (packTo (g 105) a (k - a) * 27) + g 105 (a + (k - a))) - 96)) = _
            rw [if_neg q3, show a + (k - a) = k by omega]
          have hi := ih (k + 1) (3, 0) (by omega) (by omega)
          rw [hp] at hi
          rw [if_neg (by omega), e23, call0 (m168 X E c s d k L hL e19), push0, if_pos (by omega), r167_85, e105, e20, w32_succ (by omega), ← hu, up_comm (x := 89) (i := 20) (y := 89) (j := 23) (by omega), up_up, up_up]
          exact hi
theorem m167n (d a L : Nat) (hL : L ≤ 1000) (h19 : g 89 19 = L) (h21 : g 89 21 = a) : ∀ (n k : Nat) (w1 : MV), k + n = L → a ≤ k → Ev prog clsT X (d + 1) mc167 116 [(2, 89), w1] [] (mk E c s (hh (up (up g 89 24 (num4 (g 105) a (k - a))) 89 20 (k : Int)))) = some ((3, 0), mk E c s (hh (up (up (up g 89 24 (num4 (g 105) a (spn dig (g 105) n k - a))) 89 20 (spn dig (g 105) n k : Nat)) 89 22 (if spn dig (g 105) n k > a + 4 then 4 else 2)))) := by
  intro n
  induction n with
  | zero =>
    intro k w1 hk hak
    generalize hu : up (up g 89 24 (num4 (g 105) a (k - a))) 89 20 (k : Int) = u
    have e19 : u 89 19 = L := by rw [← hu]; exact h19
    have e20 : u 89 20 = k := by rw [← hu]; exact up_same
    have e21 : u 89 21 = a := by rw [← hu]; exact h21
    rw [r167_116, e20, call0 (m168 X E c s d k L hL e19), push0, if_neg (by omega), r167_120, cmp_lt, if_pos (by omega), cmp_le, e20, e21, w32_of (by omega) (by omega)]
    show _ = some ((3, 0), mk E c s (hh (up (up (up g 89 24 (num4 (g 105) a (k - a))) 89 20 (k : Int)) 89 22 (if k > a + 4 then 4 else 2))))
    rw [hu]
    by_cases q : k > a + 4
    · rw [if_neg (by omega), if_pos q]
    · rw [if_pos (by omega), if_neg q]
  | succ n ih =>
    intro k w1 hk hak
    generalize hu : up (up g 89 24 (num4 (g 105) a (k - a))) 89 20 (k : Int) = u
    have e19 : u 89 19 = L := by rw [← hu]; exact h19
    have e20 : u 89 20 = k := by rw [← hu]; exact up_same
    have e21 : u 89 21 = a := by rw [← hu]; exact h21
    have e24 : u 89 24 = num4 (g 105) a (k - a) := by rw [← hu]; exact (if_neg (by omega)).trans up_same
    have e105 : u 105 k = g 105 k := by rw [← hu, up_cell (by decide), up_cell (by decide)]
    have fin : ¬ (dig (g 105 k) = true) → (if w32 ((k : Int) - a) ≤ 4 then some (((3 : Nat), (0 : Int)), mk E c s (hh (up u 89 22 2))) else some ((3, 0), mk E c s (hh (up u 89 22 4)))) = some ((3, 0), mk E c s (hh (up (up (up g 89 24 (num4 (g 105) a (spn dig (g 105) (n + 1) k - a))) 89 20 (spn dig (g 105) (n + 1) k : Nat)) 89 22 (if spn dig (g 105) (n + 1) k > a + 4 then 4 else 2)))) := by
      intro hl
      rw [show spn dig (g 105) (n + 1) k = k from if_neg hl, w32_of (by omega) (by omega), hu]
      by_cases q : k > a + 4
      · rw [if_neg (by omega), if_pos q]
      · rw [if_pos (by omega), if_neg q]
    rw [r167_116, e20, call0 (m168 X E c s d k L hL e19), push0, if_pos (by omega), r167_120, e105, cmp_lt]
    by_cases q1 : g 105 k < 48
    · rw [if_pos q1, cmp_le, e20, e21]
      exact fin (fun q => by have := dig_is.mp q; omega)
    · rw [if_neg q1, e20, call0 (m168 X E c s d k L hL e19), push0, if_pos (by omega), r167_126, e105, cmp_gt]
      by_cases q2 : 57 < g 105 k
      · rw [if_pos q2, cmp_le, e20, e21]
        exact fin (fun q => by have := dig_is.mp q; omega)
      · have hl : dig (g 105 k) = true := dig_is.mpr (by omega)
        rw [if_neg q2, cmp_ge, e20, e21, w32_of (x := (k : Int) - a) (by omega) (by omega), w32_succ (by omega), show spn dig (g 105) (n + 1) k = spn dig (g 105) n (k + 1) from if_pos hl]
        by_cases q3 : 4 ≤ k - a
        · have hp : num4 (g 105) a (k + 1 - a) = num4 (g 105) a (k - a) := by
            rw [show k + 1 - a = (k - a) + 1 by omega]; exact if_pos q3
          have hi := ih (k + 1) (3, 0) (by omega) (by omega)
          rw [hp] at hi
          rw [if_pos (by omega), ← hu, up_up]
          exact hi
        · have hp : num4 (g 105) a (k + 1 - a) = w32 (w32 (w32 (num4 (g 105) a (k - a) * 10) + g 105 k) - 48) := by
            rw [show k + 1 - a = (k - a) + 1 by omega]
            show (if 4 ≤ k - a then num4 (g 105) a (k - a) else w32 (w32 (w32 (num4 (g 105) a (k - a) * 10) + g 105 (a + (k - a))) - 48)) = _
            rw [if_neg q3, show a + (k - a) = k by omega]
          have hi := ih (k + 1) (3, 0) (by omega) (by omega)
          rw [hp] at hi
          rw [if_neg (by omega), e24, call0 (m168 X E c s d k L hL e19), push0, if_pos (by omega), r167_144, e105, e20, w32_succ (by omega), ← hu, up_comm (x := 89) (i := 20) (y := 89) (j := 24) (by omega), up_up, up_up]
          exact hi
end LEXM
