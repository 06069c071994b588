/-! Part bc: printed by a program: the law's loop. -/
section LOOP
variable (X : MExt) (E : List (Nat × Nat)) (c s : Nat) (g : Gm)
theorem d_0 (d : Nat) (x0 x4 : Int) : Ev prog clsT X d mc271 24 [(2, x0), (2, 0), (2, 89), (2, 158), (0, x4), (3, 0), (3, 0), (3, 0)] [(0, 0)] (mk E c s (hh g)) = Ev prog clsT X d mc271 25 [(2, x0), (2, 0), (2, 89), (2, 158), (0, x4), (3, 0), (3, 0), (3, 0)] [] (mk E c s (hh g)) := by
  rw [r271_24, if_neg (by decide)]
  rfl
theorem d_1 (d : Nat) (x0 x4 : Int) : Ev prog clsT X d mc271 24 [(2, x0), (2, 0), (2, 89), (2, 158), (0, x4), (3, 0), (3, 0), (3, 0)] [(0, 1)] (mk E c s (hh g)) = Ev prog clsT X d mc271 80 [(2, x0), (2, 0), (2, 89), (2, 158), (0, x4), (3, 0), (3, 0), (3, 0)] [] (mk E c s (hh g)) := by
  rw [r271_24, if_neg (by decide)]
  rfl
theorem d_2 (d : Nat) (x0 x4 : Int) : Ev prog clsT X d mc271 24 [(2, x0), (2, 0), (2, 89), (2, 158), (0, x4), (3, 0), (3, 0), (3, 0)] [(0, 2)] (mk E c s (hh g)) = Ev prog clsT X d mc271 137 [(2, x0), (2, 0), (2, 89), (2, 158), (0, x4), (3, 0), (3, 0), (3, 0)] [] (mk E c s (hh g)) := by
  rw [r271_24, if_neg (by decide)]
  rfl
theorem d_3 (d : Nat) (x0 x4 : Int) : Ev prog clsT X d mc271 24 [(2, x0), (2, 0), (2, 89), (2, 158), (0, x4), (3, 0), (3, 0), (3, 0)] [(0, 3)] (mk E c s (hh g)) = Ev prog clsT X d mc271 246 [(2, x0), (2, 0), (2, 89), (2, 158), (0, x4), (3, 0), (3, 0), (3, 0)] [] (mk E c s (hh g)) := by
  rw [r271_24, if_neg (by decide)]
  rfl
theorem d_4 (d : Nat) (x0 x4 : Int) : Ev prog clsT X d mc271 24 [(2, x0), (2, 0), (2, 89), (2, 158), (0, x4), (3, 0), (3, 0), (3, 0)] [(0, 4)] (mk E c s (hh g)) = Ev prog clsT X d mc271 263 [(2, x0), (2, 0), (2, 89), (2, 158), (0, x4), (3, 0), (3, 0), (3, 0)] [] (mk E c s (hh g)) := by
  rw [r271_24, if_neg (by decide)]
  rfl
theorem d_5 (d : Nat) (x0 x4 : Int) : Ev prog clsT X d mc271 24 [(2, x0), (2, 0), (2, 89), (2, 158), (0, x4), (3, 0), (3, 0), (3, 0)] [(0, 5)] (mk E c s (hh g)) = Ev prog clsT X d mc271 270 [(2, x0), (2, 0), (2, 89), (2, 158), (0, x4), (3, 0), (3, 0), (3, 0)] [] (mk E c s (hh g)) := by
  rw [r271_24, if_neg (by decide)]
  rfl
theorem d_6 (d : Nat) (x0 x4 : Int) : Ev prog clsT X d mc271 24 [(2, x0), (2, 0), (2, 89), (2, 158), (0, x4), (3, 0), (3, 0), (3, 0)] [(0, 6)] (mk E c s (hh g)) = Ev prog clsT X d mc271 277 [(2, x0), (2, 0), (2, 89), (2, 158), (0, x4), (3, 0), (3, 0), (3, 0)] [] (mk E c s (hh g)) := by
  rw [r271_24, if_neg (by decide)]
  rfl
theorem d_7 (d : Nat) (x0 x4 : Int) : Ev prog clsT X d mc271 24 [(2, x0), (2, 0), (2, 89), (2, 158), (0, x4), (3, 0), (3, 0), (3, 0)] [(0, 7)] (mk E c s (hh g)) = Ev prog clsT X d mc271 348 [(2, x0), (2, 0), (2, 89), (2, 158), (0, x4), (3, 0), (3, 0), (3, 0)] [] (mk E c s (hh g)) := by
  rw [r271_24, if_neg (by decide)]
  rfl
theorem d_8 (d : Nat) (x0 x4 : Int) : Ev prog clsT X d mc271 24 [(2, x0), (2, 0), (2, 89), (2, 158), (0, x4), (3, 0), (3, 0), (3, 0)] [(0, 8)] (mk E c s (hh g)) = Ev prog clsT X d mc271 383 [(2, x0), (2, 0), (2, 89), (2, 158), (0, x4), (3, 0), (3, 0), (3, 0)] [] (mk E c s (hh g)) := by
  rw [r271_24, if_neg (by decide)]
  rfl
theorem d_9 (d : Nat) (x0 x4 : Int) : Ev prog clsT X d mc271 24 [(2, x0), (2, 0), (2, 89), (2, 158), (0, x4), (3, 0), (3, 0), (3, 0)] [(0, 9)] (mk E c s (hh g)) = Ev prog clsT X d mc271 428 [(2, x0), (2, 0), (2, 89), (2, 158), (0, x4), (3, 0), (3, 0), (3, 0)] [] (mk E c s (hh g)) := by
  rw [r271_24, if_neg (by decide)]
  rfl
theorem d_10 (d : Nat) (x0 x4 : Int) : Ev prog clsT X d mc271 24 [(2, x0), (2, 0), (2, 89), (2, 158), (0, x4), (3, 0), (3, 0), (3, 0)] [(0, 10)] (mk E c s (hh g)) = Ev prog clsT X d mc271 455 [(2, x0), (2, 0), (2, 89), (2, 158), (0, x4), (3, 0), (3, 0), (3, 0)] [] (mk E c s (hh g)) := by
  rw [r271_24, if_neg (by decide)]
  rfl
theorem d_11 (d : Nat) (x0 x4 : Int) : Ev prog clsT X d mc271 24 [(2, x0), (2, 0), (2, 89), (2, 158), (0, x4), (3, 0), (3, 0), (3, 0)] [(0, 11)] (mk E c s (hh g)) = Ev prog clsT X d mc271 472 [(2, x0), (2, 0), (2, 89), (2, 158), (0, x4), (3, 0), (3, 0), (3, 0)] [] (mk E c s (hh g)) := by
  rw [r271_24, if_neg (by decide)]
  rfl
theorem d_12 (d : Nat) (x0 x4 : Int) : Ev prog clsT X d mc271 24 [(2, x0), (2, 0), (2, 89), (2, 158), (0, x4), (3, 0), (3, 0), (3, 0)] [(0, 12)] (mk E c s (hh g)) = Ev prog clsT X d mc271 499 [(2, x0), (2, 0), (2, 89), (2, 158), (0, x4), (3, 0), (3, 0), (3, 0)] [] (mk E c s (hh g)) := by
  rw [r271_24, if_neg (by decide)]
  rfl
theorem d_13 (d : Nat) (x0 x4 : Int) : Ev prog clsT X d mc271 24 [(2, x0), (2, 0), (2, 89), (2, 158), (0, x4), (3, 0), (3, 0), (3, 0)] [(0, 13)] (mk E c s (hh g)) = Ev prog clsT X d mc271 526 [(2, x0), (2, 0), (2, 89), (2, 158), (0, x4), (3, 0), (3, 0), (3, 0)] [] (mk E c s (hh g)) := by
  rw [r271_24, if_neg (by decide)]
  rfl
theorem d_14 (d : Nat) (x0 x4 : Int) : Ev prog clsT X d mc271 24 [(2, x0), (2, 0), (2, 89), (2, 158), (0, x4), (3, 0), (3, 0), (3, 0)] [(0, 14)] (mk E c s (hh g)) = Ev prog clsT X d mc271 563 [(2, x0), (2, 0), (2, 89), (2, 158), (0, x4), (3, 0), (3, 0), (3, 0)] [] (mk E c s (hh g)) := by
  rw [r271_24, if_neg (by decide)]
  rfl
theorem d_15 (d : Nat) (x0 x4 : Int) : Ev prog clsT X d mc271 24 [(2, x0), (2, 0), (2, 89), (2, 158), (0, x4), (3, 0), (3, 0), (3, 0)] [(0, 15)] (mk E c s (hh g)) = Ev prog clsT X d mc271 590 [(2, x0), (2, 0), (2, 89), (2, 158), (0, x4), (3, 0), (3, 0), (3, 0)] [] (mk E c s (hh g)) := by
  rw [r271_24, if_neg (by decide)]
  rfl
theorem d_16 (d : Nat) (x0 x4 : Int) : Ev prog clsT X d mc271 24 [(2, x0), (2, 0), (2, 89), (2, 158), (0, x4), (3, 0), (3, 0), (3, 0)] [(0, 16)] (mk E c s (hh g)) = Ev prog clsT X d mc271 635 [(2, x0), (2, 0), (2, 89), (2, 158), (0, x4), (3, 0), (3, 0), (3, 0)] [] (mk E c s (hh g)) := by
  rw [r271_24, if_neg (by decide)]
  rfl
theorem d_17 (d : Nat) (x0 x4 : Int) : Ev prog clsT X d mc271 24 [(2, x0), (2, 0), (2, 89), (2, 158), (0, x4), (3, 0), (3, 0), (3, 0)] [(0, 17)] (mk E c s (hh g)) = Ev prog clsT X d mc271 662 [(2, x0), (2, 0), (2, 89), (2, 158), (0, x4), (3, 0), (3, 0), (3, 0)] [] (mk E c s (hh g)) := by
  rw [r271_24, if_neg (by decide)]
  rfl
theorem d_18 (d : Nat) (x0 x4 : Int) : Ev prog clsT X d mc271 24 [(2, x0), (2, 0), (2, 89), (2, 158), (0, x4), (3, 0), (3, 0), (3, 0)] [(0, 18)] (mk E c s (hh g)) = Ev prog clsT X d mc271 689 [(2, x0), (2, 0), (2, 89), (2, 158), (0, x4), (3, 0), (3, 0), (3, 0)] [] (mk E c s (hh g)) := by
  rw [r271_24, if_neg (by decide)]
  rfl
theorem d_19 (d : Nat) (x0 x4 : Int) : Ev prog clsT X d mc271 24 [(2, x0), (2, 0), (2, 89), (2, 158), (0, x4), (3, 0), (3, 0), (3, 0)] [(0, 19)] (mk E c s (hh g)) = Ev prog clsT X d mc271 716 [(2, x0), (2, 0), (2, 89), (2, 158), (0, x4), (3, 0), (3, 0), (3, 0)] [] (mk E c s (hh g)) := by
  rw [r271_24, if_neg (by decide)]
  rfl
theorem d_20 (d : Nat) (x0 x4 : Int) : Ev prog clsT X d mc271 24 [(2, x0), (2, 0), (2, 89), (2, 158), (0, x4), (3, 0), (3, 0), (3, 0)] [(0, 20)] (mk E c s (hh g)) = Ev prog clsT X d mc271 743 [(2, x0), (2, 0), (2, 89), (2, 158), (0, x4), (3, 0), (3, 0), (3, 0)] [] (mk E c s (hh g)) := by
  rw [r271_24, if_neg (by decide)]
  rfl
theorem d_21 (d : Nat) (x0 x4 : Int) : Ev prog clsT X d mc271 24 [(2, x0), (2, 0), (2, 89), (2, 158), (0, x4), (3, 0), (3, 0), (3, 0)] [(0, 21)] (mk E c s (hh g)) = Ev prog clsT X d mc271 780 [(2, x0), (2, 0), (2, 89), (2, 158), (0, x4), (3, 0), (3, 0), (3, 0)] [] (mk E c s (hh g)) := by
  rw [r271_24, if_neg (by decide)]
  rfl
theorem d_22 (d : Nat) (x0 x4 : Int) : Ev prog clsT X d mc271 24 [(2, x0), (2, 0), (2, 89), (2, 158), (0, x4), (3, 0), (3, 0), (3, 0)] [(0, 22)] (mk E c s (hh g)) = Ev prog clsT X d mc271 815 [(2, x0), (2, 0), (2, 89), (2, 158), (0, x4), (3, 0), (3, 0), (3, 0)] [] (mk E c s (hh g)) := by
  rw [r271_24, if_neg (by decide)]
  rfl
theorem d_23 (d : Nat) (x0 x4 : Int) : Ev prog clsT X d mc271 24 [(2, x0), (2, 0), (2, 89), (2, 158), (0, x4), (3, 0), (3, 0), (3, 0)] [(0, 23)] (mk E c s (hh g)) = Ev prog clsT X d mc271 850 [(2, x0), (2, 0), (2, 89), (2, 158), (0, x4), (3, 0), (3, 0), (3, 0)] [] (mk E c s (hh g)) := by
  rw [r271_24, if_neg (by decide)]
  rfl
theorem d_24 (d : Nat) (x0 x4 : Int) : Ev prog clsT X d mc271 24 [(2, x0), (2, 0), (2, 89), (2, 158), (0, x4), (3, 0), (3, 0), (3, 0)] [(0, 24)] (mk E c s (hh g)) = Ev prog clsT X d mc271 867 [(2, x0), (2, 0), (2, 89), (2, 158), (0, x4), (3, 0), (3, 0), (3, 0)] [] (mk E c s (hh g)) := by
  rw [r271_24, if_neg (by decide)]
  rfl
theorem d_25 (d : Nat) (x0 x4 : Int) : Ev prog clsT X d mc271 24 [(2, x0), (2, 0), (2, 89), (2, 158), (0, x4), (3, 0), (3, 0), (3, 0)] [(0, 25)] (mk E c s (hh g)) = Ev prog clsT X d mc271 884 [(2, x0), (2, 0), (2, 89), (2, 158), (0, x4), (3, 0), (3, 0), (3, 0)] [] (mk E c s (hh g)) := by
  rw [r271_24, if_neg (by decide)]
  rfl
theorem d_26 (d : Nat) (x0 x4 : Int) : Ev prog clsT X d mc271 24 [(2, x0), (2, 0), (2, 89), (2, 158), (0, x4), (3, 0), (3, 0), (3, 0)] [(0, 26)] (mk E c s (hh g)) = Ev prog clsT X d mc271 921 [(2, x0), (2, 0), (2, 89), (2, 158), (0, x4), (3, 0), (3, 0), (3, 0)] [] (mk E c s (hh g)) := by
  rw [r271_24, if_neg (by decide)]
  rfl
theorem d_27 (d : Nat) (x0 x4 : Int) : Ev prog clsT X d mc271 24 [(2, x0), (2, 0), (2, 89), (2, 158), (0, x4), (3, 0), (3, 0), (3, 0)] [(0, 27)] (mk E c s (hh g)) = Ev prog clsT X d mc271 948 [(2, x0), (2, 0), (2, 89), (2, 158), (0, x4), (3, 0), (3, 0), (3, 0)] [] (mk E c s (hh g)) := by
  rw [r271_24, if_neg (by decide)]
  rfl
theorem d_28 (d : Nat) (x0 x4 : Int) : Ev prog clsT X d mc271 24 [(2, x0), (2, 0), (2, 89), (2, 158), (0, x4), (3, 0), (3, 0), (3, 0)] [(0, 28)] (mk E c s (hh g)) = Ev prog clsT X d mc271 983 [(2, x0), (2, 0), (2, 89), (2, 158), (0, x4), (3, 0), (3, 0), (3, 0)] [] (mk E c s (hh g)) := by
  rw [r271_24, if_neg (by decide)]
  rfl
theorem d_29 (d : Nat) (x0 x4 : Int) : Ev prog clsT X d mc271 24 [(2, x0), (2, 0), (2, 89), (2, 158), (0, x4), (3, 0), (3, 0), (3, 0)] [(0, 29)] (mk E c s (hh g)) = Ev prog clsT X d mc271 990 [(2, x0), (2, 0), (2, 89), (2, 158), (0, x4), (3, 0), (3, 0), (3, 0)] [] (mk E c s (hh g)) := by
  rw [r271_24, if_neg (by decide)]
  rfl
theorem d_30 (d : Nat) (x0 x4 : Int) : Ev prog clsT X d mc271 24 [(2, x0), (2, 0), (2, 89), (2, 158), (0, x4), (3, 0), (3, 0), (3, 0)] [(0, 30)] (mk E c s (hh g)) = Ev prog clsT X d mc271 1007 [(2, x0), (2, 0), (2, 89), (2, 158), (0, x4), (3, 0), (3, 0), (3, 0)] [] (mk E c s (hh g)) := by
  rw [r271_24, if_neg (by decide)]
  rfl
theorem d_31 (d : Nat) (x0 x4 : Int) : Ev prog clsT X d mc271 24 [(2, x0), (2, 0), (2, 89), (2, 158), (0, x4), (3, 0), (3, 0), (3, 0)] [(0, 31)] (mk E c s (hh g)) = Ev prog clsT X d mc271 1034 [(2, x0), (2, 0), (2, 89), (2, 158), (0, x4), (3, 0), (3, 0), (3, 0)] [] (mk E c s (hh g)) := by
  rw [r271_24, if_neg (by decide)]
  rfl
theorem d_32 (d : Nat) (x0 x4 : Int) : Ev prog clsT X d mc271 24 [(2, x0), (2, 0), (2, 89), (2, 158), (0, x4), (3, 0), (3, 0), (3, 0)] [(0, 32)] (mk E c s (hh g)) = Ev prog clsT X d mc271 1069 [(2, x0), (2, 0), (2, 89), (2, 158), (0, x4), (3, 0), (3, 0), (3, 0)] [] (mk E c s (hh g)) := by
  rw [r271_24, if_neg (by decide)]
  rfl
theorem d_33 (d : Nat) (x0 x4 : Int) : Ev prog clsT X d mc271 24 [(2, x0), (2, 0), (2, 89), (2, 158), (0, x4), (3, 0), (3, 0), (3, 0)] [(0, 33)] (mk E c s (hh g)) = Ev prog clsT X d mc271 1133 [(2, x0), (2, 0), (2, 89), (2, 158), (0, x4), (3, 0), (3, 0), (3, 0)] [] (mk E c s (hh g)) := by
  rw [r271_24, if_neg (by decide)]
  rfl
theorem d_34 (d : Nat) (x0 x4 : Int) : Ev prog clsT X d mc271 24 [(2, x0), (2, 0), (2, 89), (2, 158), (0, x4), (3, 0), (3, 0), (3, 0)] [(0, 34)] (mk E c s (hh g)) = Ev prog clsT X d mc271 1170 [(2, x0), (2, 0), (2, 89), (2, 158), (0, x4), (3, 0), (3, 0), (3, 0)] [] (mk E c s (hh g)) := by
  rw [r271_24, if_neg (by decide)]
  rfl
theorem d_35 (d : Nat) (x0 x4 : Int) : Ev prog clsT X d mc271 24 [(2, x0), (2, 0), (2, 89), (2, 158), (0, x4), (3, 0), (3, 0), (3, 0)] [(0, 35)] (mk E c s (hh g)) = Ev prog clsT X d mc271 1197 [(2, x0), (2, 0), (2, 89), (2, 158), (0, x4), (3, 0), (3, 0), (3, 0)] [] (mk E c s (hh g)) := by
  rw [r271_24, if_neg (by decide)]
  rfl
theorem d_36 (d : Nat) (x0 x4 : Int) : Ev prog clsT X d mc271 24 [(2, x0), (2, 0), (2, 89), (2, 158), (0, x4), (3, 0), (3, 0), (3, 0)] [(0, 36)] (mk E c s (hh g)) = Ev prog clsT X d mc271 1232 [(2, x0), (2, 0), (2, 89), (2, 158), (0, x4), (3, 0), (3, 0), (3, 0)] [] (mk E c s (hh g)) := by
  rw [r271_24, if_neg (by decide)]
  rfl
/-- a call of the law, whichever it is -/
theorem l_all (hX : XT X) (k : Int) (N : Int) (d : Nat) (x4 v1 v2 v3 v4 v5 v6 : Int) (hN : N < 100000) (hs : ST N E g) (h1 : ∀ M, aget X 100 M (-2) (w32 (x4 + 1)) = some v1) (h2 : ∀ M, aget X 100 M (-2) (w32 (x4 + 2)) = some v2) (h3 : ∀ M, aget X 100 M (-2) (w32 (x4 + 3)) = some v3) (h4 : ∀ M, aget X 100 M (-2) (w32 (x4 + 4)) = some v4) (h5 : ∀ M, aget X 100 M (-2) (w32 (x4 + 5)) = some v5) (h6 : ∀ M, aget X 100 M (-2) (w32 (x4 + 6)) = some v6) : ∃ N' E' c' s' g' w5 w6, Ev prog clsT X (d + 80) mc271 24 [(2, -2), (2, 0), (2, 89), (2, 158), (0, x4), (3, 0), (3, 0), (3, 0)] [(0, k)] (mk E c s (hh g)) = Ev prog clsT X (d + 80) mc271 1249 [(2, -2), (2, 0), (2, 89), (2, 158), (0, x4), w5, w6, (3, 0)] [] (mk E' c' s' (hh g')) ∧ ST N' E' g' ∧ N' ≤ N + 1 ∧ c' ≤ c + 8 ∧ s' ≤ s + 1036 := by
  by_cases z : k < 0 ∨ 36 < k
  · refine ⟨N, E, c, s, g, (3, 0), (3, 0), ?_, hs, by omega, by omega, by omega⟩
    rw [r271_24, if_pos z]
  have hk : k = 0 ∨ k = 1 ∨ k = 2 ∨ k = 3 ∨ k = 4 ∨ k = 5 ∨ k = 6 ∨ k = 7 ∨ k = 8 ∨ k = 9 ∨ k = 10 ∨ k = 11 ∨ k = 12 ∨ k = 13 ∨ k = 14 ∨ k = 15 ∨ k = 16 ∨ k = 17 ∨ k = 18 ∨ k = 19 ∨ k = 20 ∨ k = 21 ∨ k = 22 ∨ k = 23 ∨ k = 24 ∨ k = 25 ∨ k = 26 ∨ k = 27 ∨ k = 28 ∨ k = 29 ∨ k = 30 ∨ k = 31 ∨ k = 32 ∨ k = 33 ∨ k = 34 ∨ k = 35 ∨ k = 36 := by omega
  rcases hk with z | z | z | z | z | z | z | z | z | z | z | z | z | z | z | z | z | z | z | z | z | z | z | z | z | z | z | z | z | z | z | z | z | z | z | z | z <;> subst z
  · rw [d_0]; exact l_0 X N E c s d g x4 v1 v2 v3 v4 v5 v6 hN hs h1 h2 h3 h4 h5 h6
  · rw [d_1]; exact l_1 X N E c s d g x4 v1 v2 v3 v4 v5 v6 hN hs h1 h2 h3 h4 h5 h6
  · rw [d_2]; exact l_2 X N E c s d g x4 v1 v2 v3 v4 v5 v6 hN hs h1 h2 h3 h4 h5 h6
  · rw [d_3]; exact l_3 X hX N E c s d g x4 v1 v2 v3 v4 v5 v6 hN hs h1 h2 h3 h4 h5 h6
  · rw [d_4]; exact l_4 X hX N E c s d g x4 v1 v2 v3 v4 v5 v6 hN hs h1 h2 h3 h4 h5 h6
  · rw [d_5]; exact l_5 X hX N E c s d g x4 v1 v2 v3 v4 v5 v6 hN hs h1 h2 h3 h4 h5 h6
  · rw [d_6]; exact l_6 X N E c s d g x4 v1 v2 v3 v4 v5 v6 hN hs h1 h2 h3 h4 h5 h6
  · rw [d_7]; exact l_7 X N E c s d g x4 v1 v2 v3 v4 v5 v6 hN hs h1 h2 h3 h4 h5 h6
  · rw [d_8]; exact l_8 X N E c s d g x4 v1 v2 v3 v4 v5 v6 hN hs h1 h2 h3 h4 h5 h6
  · rw [d_9]; exact l_9 X N E c s d g x4 v1 v2 v3 v4 v5 v6 hN hs h1 h2 h3 h4 h5 h6
  · rw [d_10]; exact l_10 X N E c s d g x4 v1 v2 v3 v4 v5 v6 hN hs h1 h2 h3 h4 h5 h6
  · rw [d_11]; exact l_11 X N E c s d g x4 v1 v2 v3 v4 v5 v6 hN hs h1 h2 h3 h4 h5 h6
  · rw [d_12]; exact l_12 X N E c s d g x4 v1 v2 v3 v4 v5 v6 hN hs h1 h2 h3 h4 h5 h6
  · rw [d_13]; exact l_13 X N E c s d g x4 v1 v2 v3 v4 v5 v6 hN hs h1 h2 h3 h4 h5 h6
  · rw [d_14]; exact l_14 X N E c s d g x4 v1 v2 v3 v4 v5 v6 hN hs h1 h2 h3 h4 h5 h6
  · rw [d_15]; exact l_15 X N E c s d g x4 v1 v2 v3 v4 v5 v6 hN hs h1 h2 h3 h4 h5 h6
  · rw [d_16]; exact l_16 X N E c s d g x4 v1 v2 v3 v4 v5 v6 hN hs h1 h2 h3 h4 h5 h6
  · rw [d_17]; exact l_17 X N E c s d g x4 v1 v2 v3 v4 v5 v6 hN hs h1 h2 h3 h4 h5 h6
  · rw [d_18]; exact l_18 X N E c s d g x4 v1 v2 v3 v4 v5 v6 hN hs h1 h2 h3 h4 h5 h6
  · rw [d_19]; exact l_19 X N E c s d g x4 v1 v2 v3 v4 v5 v6 hN hs h1 h2 h3 h4 h5 h6
  · rw [d_20]; exact l_20 X N E c s d g x4 v1 v2 v3 v4 v5 v6 hN hs h1 h2 h3 h4 h5 h6
  · rw [d_21]; exact l_21 X N E c s d g x4 v1 v2 v3 v4 v5 v6 hN hs h1 h2 h3 h4 h5 h6
  · rw [d_22]; exact l_22 X N E c s d g x4 v1 v2 v3 v4 v5 v6 hN hs h1 h2 h3 h4 h5 h6
  · rw [d_23]; exact l_23 X N E c s d g x4 v1 v2 v3 v4 v5 v6 hN hs h1 h2 h3 h4 h5 h6
  · rw [d_24]; exact l_24 X N E c s d g x4 v1 v2 v3 v4 v5 v6 hN hs h1 h2 h3 h4 h5 h6
  · rw [d_25]; exact l_25 X N E c s d g x4 v1 v2 v3 v4 v5 v6 hN hs h1 h2 h3 h4 h5 h6
  · rw [d_26]; exact l_26 X N E c s d g x4 v1 v2 v3 v4 v5 v6 hN hs h1 h2 h3 h4 h5 h6
  · rw [d_27]; exact l_27 X N E c s d g x4 v1 v2 v3 v4 v5 v6 hN hs h1 h2 h3 h4 h5 h6
  · rw [d_28]; exact l_28 X N E c s d g x4 v1 v2 v3 v4 v5 v6 hN hs h1 h2 h3 h4 h5 h6
  · rw [d_29]; exact l_29 X N E c s d g x4 v1 v2 v3 v4 v5 v6 hN hs h1 h2 h3 h4 h5 h6
  · rw [d_30]; exact l_30 X N E c s d g x4 v1 v2 v3 v4 v5 v6 hN hs h1 h2 h3 h4 h5 h6
  · rw [d_31]; exact l_31 X N E c s d g x4 v1 v2 v3 v4 v5 v6 hN hs h1 h2 h3 h4 h5 h6
  · rw [d_32]; exact l_32 X N E c s d g x4 v1 v2 v3 v4 v5 v6 hN hs h1 h2 h3 h4 h5 h6
  · rw [d_33]; exact l_33 X N E c s d g x4 v1 v2 v3 v4 v5 v6 hN hs h1 h2 h3 h4 h5 h6
  · rw [d_34]; exact l_34 X N E c s d g x4 v1 v2 v3 v4 v5 v6 hN hs h1 h2 h3 h4 h5 h6
  · rw [d_35]; exact l_35 X N E c s d g x4 v1 v2 v3 v4 v5 v6 hN hs h1 h2 h3 h4 h5 h6
  · rw [d_36]; exact l_36 X N E c s d g x4 v1 v2 v3 v4 v5 v6 hN hs h1 h2 h3 h4 h5 h6
theorem aget_x {script : List Int} (hS : X (-2) = (100, script)) {i : Nat} (hi : i < script.length) (h : i < 1000000) (M : Mem) {y : Int} (hy : y = (i : Int)) : aget X 100 M (-2) y = some (script.getD i 0) := by
  subst hy
  unfold aget inb
  rw [if_neg (by decide), if_pos (by decide), hS, if_pos rfl, Int.toNat_natCast, if_pos (by simp; omega)]
theorem w32_add {a b : Nat} (h : a + b < 1000000) : w32 ((a : Int) + (b : Int)) = ((a + b : Nat) : Int) := by
  rw [w32_of (by omega) (by omega)]; omega
end LOOP
/-- THE LAW'S LOOP -/
theorem law_loop (X : MExt) (hX : XT X) {script : List Int} (hS : X (-2) = (100, script)) (hl : script.length ≤ 3584) (d : Nat) : ∀ (m i : Nat) (N : Int) (E : List (Nat × Nat)) (c s : Nat) (g : Gm) (w5 w6 w7 : MV), i + m = 600 → N ≤ 1000 + (i : Int) → ST N E g → ∃ E' c' s' g', Ev prog clsT X (d + 80) mc271 13 [(2, -2), (2, 0), (2, 89), (2, 158), (0, ((7 * i : Nat) : Int)), w5, w6, w7] [] (mk E c s (hh g)) = some ((0, 1), mk E' c' s' (hh g')) ∧ c' ≤ c + 8 * m ∧ s' ≤ s + 1036 * m := by
  intro m
  induction m with
  | zero =>
    intro i N E c s g w5 w6 w7 hi hN hs
    refine ⟨E, c, s, g, ?_, by omega, by omega⟩
    have e1 : alen X (mk E c s (hh g)) (-2) = some (script.length : Int) := by
      unfold alen
      rw [if_neg (by decide), if_pos (by decide), hS]
      rfl
    rw [r271_13, e1, bnd_ok, cmp_gt, w32_of (by omega) (by omega), if_pos (by omega)]
  | succ m ih =>
    intro i N E c s g w5 w6 w7 hi hN hs
    have e1 : alen X (mk E c s (hh g)) (-2) = some (script.length : Int) := by
      unfold alen
      rw [if_neg (by decide), if_pos (by decide), hS]
      rfl
    rw [r271_13, e1, bnd_ok, cmp_gt, w32_of (by omega) (by omega)]
    by_cases z : (script.length : Int) - 7 < ((7 * i : Nat) : Int)
    · rw [if_pos z]
      exact ⟨E, c, s, g, rfl, by omega, by omega⟩
    rw [if_neg z, aget_x X hS (i := 7 * i) (by omega) (by omega) _ rfl, bnd_ok]
    have hv : ∀ j : Nat, j < 7 → ∀ M, aget X 100 M (-2) (w32 (((7 * i : Nat) : Int) + (j : Int))) = some (script.getD (7 * i + j) 0) := fun j hj M => aget_x X hS (i := 7 * i + j) (by omega) (by omega) M (w32_add (by omega))
    obtain ⟨N', E', c', s', g', w5', w6', a1, a2, a3, a4, a5⟩ := l_all X E c s g hX (iand32 (script.getD (7 * i) 0) 63) N d ((7 * i : Nat) : Int) _ _ _ _ _ _ (by omega) hs (hv 1 (by decide)) (hv 2 (by decide)) (hv 3 (by decide)) (hv 4 (by decide)) (hv 5 (by decide)) (hv 6 (by decide))
    have e7 : w32 (((7 * i : Nat) : Int) + 7) = ((7 * (i + 1) : Nat) : Int) := by rw [w32_of (by omega) (by omega)]; omega
    obtain ⟨E2, c2, s2, g2, b1, b2, b3⟩ := ih (i + 1) N' E' c' s' g' w5' w6' (3, 0) (by omega) (by omega) a2
    refine ⟨E2, c2, s2, g2, ?_, by omega, by omega⟩
    rw [a1, r271_1249, e7]
    exact b1
