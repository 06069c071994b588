/-! Part 83: numbers on the tape (class). -/
section LEXN
variable (X : MExt) (E : List (Nat × Nat)) (c s : Nat) {g : Nat → Nat → Int}
/-- Reader.takeNumber -/
theorem c42 (d a L : Nat) (hL : L ≤ 1000) (ha : a ≤ L) (h1 : g 9 1 = L) (h5 : g 9 5 = a) (h4 : g 9 4 = a) : Call prog clsT X (d + 1) 42 [(2, 9)] (mk E c s (hh g)) = some ((3, 0), mk E c s (hh (up (up (up g 9 7 (numTo (g 10) a (spn dig (g 10) (L - a) a - a))) 9 4 (spn dig (g 10) (L - a) a : Nat)) 9 6 (if spn dig (g 10) (L - a) a > a + 4 then 4 else 2)))) := by
  rw [rc42_, h5]
  have loop : ∀ (n k : Nat), k + n = L → a ≤ k → Ev prog clsT X d mc42 6 [(2, 9), (0, (k : Int))] [] (mk E c s (hh (up (up g 9 7 (numTo (g 10) a (k - a))) 9 4 (k : Int)))) = some ((3, 0), mk E c s (hh (up (up (up g 9 7 (numTo (g 10) a (spn dig (g 10) n k - a))) 9 4 (spn dig (g 10) n k : Nat)) 9 6 (if spn dig (g 10) n k > a + 4 then 4 else 2)))) := by
    intro n
    induction n with
    | zero =>
      intro k hk hak
      generalize hu : up (up g 9 7 (numTo (g 10) a (k - a))) 9 4 (k : Int) = u
      have e1 : u 9 1 = L := by rw [← hu]; exact h1
      have e4 : u 9 4 = k := by rw [← hu]; exact up_same
      have e5 : u 9 5 = a := by rw [← hu]; exact h5
      rw [r42_6, cmp_ge, e1, if_pos (by omega), cmp_gt, e4, e5, w32_of (by omega) (by omega)]
      show _ = some ((3, 0), mk E c s (hh (up (up (up g 9 7 (numTo (g 10) a (k - a))) 9 4 (k : Int)) 9 6 (if k > a + 4 then 4 else 2))))
      rw [hu]
      by_cases q : k > a + 4
      · rw [if_pos (by omega), if_pos q]
      · rw [if_neg (by omega), if_neg q]
    | succ n ih =>
      intro k hk hak
      generalize hu : up (up g 9 7 (numTo (g 10) a (k - a))) 9 4 (k : Int) = u
      have e1 : u 9 1 = L := by rw [← hu]; exact h1
      have e4 : u 9 4 = k := by rw [← hu]; exact up_same
      have e5 : u 9 5 = a := by rw [← hu]; exact h5
      have e7 : u 9 7 = numTo (g 10) a (k - a) := by rw [← hu]; exact (if_neg (by omega)).trans up_same
      have e10 : u 10 k = g 10 k := by rw [← hu, up_cell (by decide), up_cell (by decide)]
      have fin : ¬ (dig (g 10 k) = true) → (if (4 : Int) < w32 ((k : Int) - a) then some (((3 : Nat), (0 : Int)), mk E c s (hh (up u 9 6 4))) else some ((3, 0), mk E c s (hh (up u 9 6 2)))) = some ((3, 0), mk E c s (hh (up (up (up g 9 7 (numTo (g 10) a (spn dig (g 10) (n + 1) k - a))) 9 4 (spn dig (g 10) (n + 1) k : Nat)) 9 6 (if spn dig (g 10) (n + 1) k > a + 4 then 4 else 2)))) := by
        intro hl
        rw [show spn dig (g 10) (n + 1) k = k from if_neg hl, w32_of (by omega) (by omega), hu]
        by_cases q : k > a + 4
        · rw [if_pos (by omega), if_pos q]
        · rw [if_neg (by omega), if_neg q]
      rw [r42_6, cmp_ge, e1, if_neg (by omega), inb_is, if_pos (by omega), Int.toNat_natCast, e10, cmp_lt]
      by_cases q1 : g 10 k < 48
      · rw [if_pos q1, cmp_gt, e4, e5]
        exact fin (fun q => by have := dig_is.mp q; omega)
      · rw [if_neg q1, inb_is, if_pos (by omega), cmp_gt]
        by_cases q2 : 57 < g 10 k
        · rw [if_pos q2, cmp_gt, e4, e5]
          exact fin (fun q => by have := dig_is.mp q; omega)
        · rw [if_neg q2, inb_is, if_pos (by omega), w32_succ (by omega), e7]
          have hl : dig (g 10 k) = true := dig_is.mpr (by omega)
          rw [show spn dig (g 10) (n + 1) k = spn dig (g 10) n (k + 1) from if_pos hl, ← hu, up_comm (x := 9) (i := 4) (y := 9) (j := 7) (by omega), up_up, up_up]
          have hnum : w32 (w32 (numTo (g 10) a (k - a) * 10) + w32 (g 10 k - 48)) = numTo (g 10) a (k + 1 - a) := by
            rw [show k + 1 - a = (k - a) + 1 by omega]
            show _ = w32 (w32 (numTo (g 10) a (k - a) * 10) + w32 (g 10 (a + (k - a)) - 48))
            rw [show a + (k - a) = k by omega]
          rw [hnum]
          exact ih (k + 1) (by omega) (by omega)
  have := loop (L - a) a (by omega) (Nat.le_refl _)
  rw [Nat.sub_self, show numTo (g 10) a 0 = 0 from rfl, up_eta (g := up g 9 7 0) (x := 9) (i := 4) (v := (a : Int)) (by show (a : Int) = up g 9 7 0 9 4; rw [up_place (by decide)]; exact h4.symm)] at this
  exact this
end LEXN
