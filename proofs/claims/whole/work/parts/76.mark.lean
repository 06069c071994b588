/-! Part 76: mark, the class's side. -/
theorem CP_35_77 {E : List (Nat × Nat)} {c s : Nat} {g : Nat → Nat → Int} {k : Mem → Option MRes} : (acopy (mk E c s (hh g)) 35 0 77 0 40).bind k = k (mk E c s (hh (cpy g 35 77 40))) := by
  have e := hhC (g := g) (x := 35) (y := 77) (n := 40) rfl rfl
  show k (LAY ++ E, CPU (hh g) 35 77 40, c, s) = _
  rw [e]; rfl
theorem CP_35_78 {E : List (Nat × Nat)} {c s : Nat} {g : Nat → Nat → Int} {k : Mem → Option MRes} : (acopy (mk E c s (hh g)) 35 0 78 0 40).bind k = k (mk E c s (hh (cpy g 35 78 40))) := by
  have e := hhC (g := g) (x := 35) (y := 78) (n := 40) rfl rfl
  show k (LAY ++ E, CPU (hh g) 35 78 40, c, s) = _
  rw [e]; rfl
theorem CP_35_79 {E : List (Nat × Nat)} {c s : Nat} {g : Nat → Nat → Int} {k : Mem → Option MRes} : (acopy (mk E c s (hh g)) 35 0 79 0 40).bind k = k (mk E c s (hh (cpy g 35 79 40))) := by
  have e := hhC (g := g) (x := 35) (y := 79) (n := 40) rfl rfl
  show k (LAY ++ E, CPU (hh g) 35 79 40, c, s) = _
  rw [e]; rfl
theorem CP_35_80 {E : List (Nat × Nat)} {c s : Nat} {g : Nat → Nat → Int} {k : Mem → Option MRes} : (acopy (mk E c s (hh g)) 35 0 80 0 40).bind k = k (mk E c s (hh (cpy g 35 80 40))) := by
  have e := hhC (g := g) (x := 35) (y := 80) (n := 40) rfl rfl
  show k (LAY ++ E, CPU (hh g) 35 80 40, c, s) = _
  rw [e]; rfl
theorem CP_77_35 {E : List (Nat × Nat)} {c s : Nat} {g : Nat → Nat → Int} {k : Mem → Option MRes} : (acopy (mk E c s (hh g)) 77 0 35 0 40).bind k = k (mk E c s (hh (cpy g 77 35 40))) := by
  have e := hhC (g := g) (x := 77) (y := 35) (n := 40) rfl rfl
  show k (LAY ++ E, CPU (hh g) 77 35 40, c, s) = _
  rw [e]; rfl
theorem CP_78_35 {E : List (Nat × Nat)} {c s : Nat} {g : Nat → Nat → Int} {k : Mem → Option MRes} : (acopy (mk E c s (hh g)) 78 0 35 0 40).bind k = k (mk E c s (hh (cpy g 78 35 40))) := by
  have e := hhC (g := g) (x := 78) (y := 35) (n := 40) rfl rfl
  show k (LAY ++ E, CPU (hh g) 78 35 40, c, s) = _
  rw [e]; rfl
theorem CP_79_35 {E : List (Nat × Nat)} {c s : Nat} {g : Nat → Nat → Int} {k : Mem → Option MRes} : (acopy (mk E c s (hh g)) 79 0 35 0 40).bind k = k (mk E c s (hh (cpy g 79 35 40))) := by
  have e := hhC (g := g) (x := 79) (y := 35) (n := 40) rfl rfl
  show k (LAY ++ E, CPU (hh g) 79 35 40, c, s) = _
  rw [e]; rfl
theorem CP_80_35 {E : List (Nat × Nat)} {c s : Nat} {g : Nat → Nat → Int} {k : Mem → Option MRes} : (acopy (mk E c s (hh g)) 80 0 35 0 40).bind k = k (mk E c s (hh (cpy g 80 35 40))) := by
  have e := hhC (g := g) (x := 80) (y := 35) (n := 40) rfl rfl
  show k (LAY ++ E, CPU (hh g) 80 35 40, c, s) = _
  rw [e]; rfl
theorem CP_39_82 {E : List (Nat × Nat)} {c s : Nat} {g : Nat → Nat → Int} {k : Mem → Option MRes} : (acopy (mk E c s (hh g)) 39 0 82 0 10).bind k = k (mk E c s (hh (cpy g 39 82 10))) := by
  have e := hhC (g := g) (x := 39) (y := 82) (n := 10) rfl rfl
  show k (LAY ++ E, CPU (hh g) 39 82 10, c, s) = _
  rw [e]; rfl
theorem CP_39_83 {E : List (Nat × Nat)} {c s : Nat} {g : Nat → Nat → Int} {k : Mem → Option MRes} : (acopy (mk E c s (hh g)) 39 0 83 0 10).bind k = k (mk E c s (hh (cpy g 39 83 10))) := by
  have e := hhC (g := g) (x := 39) (y := 83) (n := 10) rfl rfl
  show k (LAY ++ E, CPU (hh g) 39 83 10, c, s) = _
  rw [e]; rfl
theorem CP_39_84 {E : List (Nat × Nat)} {c s : Nat} {g : Nat → Nat → Int} {k : Mem → Option MRes} : (acopy (mk E c s (hh g)) 39 0 84 0 10).bind k = k (mk E c s (hh (cpy g 39 84 10))) := by
  have e := hhC (g := g) (x := 39) (y := 84) (n := 10) rfl rfl
  show k (LAY ++ E, CPU (hh g) 39 84 10, c, s) = _
  rw [e]; rfl
theorem CP_39_85 {E : List (Nat × Nat)} {c s : Nat} {g : Nat → Nat → Int} {k : Mem → Option MRes} : (acopy (mk E c s (hh g)) 39 0 85 0 10).bind k = k (mk E c s (hh (cpy g 39 85 10))) := by
  have e := hhC (g := g) (x := 39) (y := 85) (n := 10) rfl rfl
  show k (LAY ++ E, CPU (hh g) 39 85 10, c, s) = _
  rw [e]; rfl
theorem CP_82_39 {E : List (Nat × Nat)} {c s : Nat} {g : Nat → Nat → Int} {k : Mem → Option MRes} : (acopy (mk E c s (hh g)) 82 0 39 0 10).bind k = k (mk E c s (hh (cpy g 82 39 10))) := by
  have e := hhC (g := g) (x := 82) (y := 39) (n := 10) rfl rfl
  show k (LAY ++ E, CPU (hh g) 82 39 10, c, s) = _
  rw [e]; rfl
theorem CP_83_39 {E : List (Nat × Nat)} {c s : Nat} {g : Nat → Nat → Int} {k : Mem → Option MRes} : (acopy (mk E c s (hh g)) 83 0 39 0 10).bind k = k (mk E c s (hh (cpy g 83 39 10))) := by
  have e := hhC (g := g) (x := 83) (y := 39) (n := 10) rfl rfl
  show k (LAY ++ E, CPU (hh g) 83 39 10, c, s) = _
  rw [e]; rfl
theorem CP_84_39 {E : List (Nat × Nat)} {c s : Nat} {g : Nat → Nat → Int} {k : Mem → Option MRes} : (acopy (mk E c s (hh g)) 84 0 39 0 10).bind k = k (mk E c s (hh (cpy g 84 39 10))) := by
  have e := hhC (g := g) (x := 84) (y := 39) (n := 10) rfl rfl
  show k (LAY ++ E, CPU (hh g) 84 39 10, c, s) = _
  rw [e]; rfl
theorem CP_85_39 {E : List (Nat × Nat)} {c s : Nat} {g : Nat → Nat → Int} {k : Mem → Option MRes} : (acopy (mk E c s (hh g)) 85 0 39 0 10).bind k = k (mk E c s (hh (cpy g 85 39 10))) := by
  have e := hhC (g := g) (x := 85) (y := 39) (n := 10) rfl rfl
  show k (LAY ++ E, CPU (hh g) 85 39 10, c, s) = _
  rw [e]; rfl
theorem hh76_0 {g : Nat → Nat → Int} : hh g 76 (Int.toNat 0) = 77 := rfl
theorem hh81_0 {g : Nat → Nat → Int} : hh g 81 (Int.toNat 0) = 82 := rfl
theorem hh76_1 {g : Nat → Nat → Int} : hh g 76 (Int.toNat 1) = 78 := rfl
theorem hh81_1 {g : Nat → Nat → Int} : hh g 81 (Int.toNat 1) = 83 := rfl
theorem hh76_2 {g : Nat → Nat → Int} : hh g 76 (Int.toNat 2) = 79 := rfl
theorem hh81_2 {g : Nat → Nat → Int} : hh g 81 (Int.toNat 2) = 84 := rfl
theorem hh76_3 {g : Nat → Nat → Int} : hh g 76 (Int.toNat 3) = 80 := rfl
theorem hh81_3 {g : Nat → Nat → Int} : hh g 81 (Int.toNat 3) = 85 := rfl
theorem lay81 {E : List (Nat × Nat)} {c s : Nat} {g : Nat → Nat → Int} {α : Type} {a b : α} : (if (lay? (mk E c s (hh g)) 81).1 = 104 ∨ (lay? (mk E c s (hh g)) 81).1 = 105 then a else b) = a := if_pos (Or.inr rfl)
theorem inb4 {α : Type} {a b : α} {m : Int} (h : 0 ≤ m ∧ m ≤ 3) : (if inb m 4 = true then a else b) = a := by rw [inb_is, if_pos (by omega)]
def putC (g : Nat → Nat → Int) (m : Nat) : Nat → Nat → Int := cpy (cpy (up (up (up (up g 72 5 (w32 (g 72 5 + 1))) 73 m (w32 (g 72 5 + 1))) 74 m (g 30 0)) 75 m (g 30 1)) 35 (77 + m) 40) 39 (82 + m) 10
def getC (g : Nat → Nat → Int) (m : Nat) : Nat → Nat → Int := cpy (cpy (up (up g 30 0 (g 74 m)) 30 1 (g 75 m)) (77 + m) 35 40) (82 + m) 39 10
def dropC (m : Nat) (i : Nat) (a : Nat → Nat → Int) : Nat → Nat → Int := if a 73 m < a 73 i then up a 73 i 0 else a
section MARK
variable (X : MExt) (E : List (Nat × Nat)) (c s : Nat) {g : Nat → Nat → Int}
theorem c80 (d : Nat) (x : Int) (hx : 0 ≤ x ∧ x ≤ 3) : Call prog clsT X (d + 1) 80 [(2, 72), (0, x)] (mk E c s (hh g)) = some ((0, bI (0 < g 73 x.toNat)), mk E c s (hh g)) := by
  rw [rc80_, inb4 hx, cmp_le]
  split
  · rw [bI_f (by omega)]
  · rw [bI_t (by omega)]
theorem c82 (d : Nat) (x : Int) (hx : 0 ≤ x ∧ x ≤ 3) : Call prog clsT X (d + 1) 82 [(2, 72), (0, x), (2, 30), (2, 36)] (mk E c s (hh g)) = some ((3, 0), mk E c s (hh (putC g x.toNat))) := by
  rcases (show x = 0 ∨ x = 1 ∨ x = 2 ∨ x = 3 by omega) with rfl | rfl | rfl | rfl
  · rw [rc82_, inb4 hx, inb4 hx, inb4 hx, inb4 hx, hh76_0, CP_35_77, F2058_36, F4626_72, lay81]; show (aget X 105 _ 81 _).bind _ = _; rw [A81, inb4 hx, hh81_0, CP_39_82]; rfl
  · rw [rc82_, inb4 hx, inb4 hx, inb4 hx, inb4 hx, hh76_1, CP_35_78, F2058_36, F4626_72, lay81]; show (aget X 105 _ 81 _).bind _ = _; rw [A81, inb4 hx, hh81_1, CP_39_83]; rfl
  · rw [rc82_, inb4 hx, inb4 hx, inb4 hx, inb4 hx, hh76_2, CP_35_79, F2058_36, F4626_72, lay81]; show (aget X 105 _ 81 _).bind _ = _; rw [A81, inb4 hx, hh81_2, CP_39_84]; rfl
  · rw [rc82_, inb4 hx, inb4 hx, inb4 hx, inb4 hx, hh76_3, CP_35_80, F2058_36, F4626_72, lay81]; show (aget X 105 _ 81 _).bind _ = _; rw [A81, inb4 hx, hh81_3, CP_39_85]; rfl

theorem c81 (d : Nat) (x : Int) (hx : 0 ≤ x ∧ x ≤ 3) : Call prog clsT X (d + 1) 81 [(2, 72), (0, x), (2, 30), (2, 36)] (mk E c s (hh g)) = some ((3, 0), mk E c s (hh (fo (dropC x.toNat) (getC g x.toNat) 4))) := by
  have loop : ∀ (u : Nat → Nat → Int) (w2 w3 : MV), Ev prog clsT X d mc81 34 [(2, 72), (0, x), w2, w3, (0, 0)] [] (mk E c s (hh u)) = some ((3, 0), mk E c s (hh (fo (dropC x.toNat) u 4))) := by
    intro u w2 w3
    have key : ∀ (m k : Nat) (w2 w3 : MV), k + m = 4 → Ev prog clsT X d mc81 34 [(2, 72), (0, x), w2, w3, (0, (k : Int))] [] (mk E c s (hh (fo (dropC x.toNat) u k))) = some ((3, 0), mk E c s (hh (fo (dropC x.toNat) u 4))) := by
      intro m
      induction m with
      | zero =>
        intro k w2 w3 hk
        have hk : k = 4 := by omega
        subst hk
        rw [r81_34, cmp_ge, if_pos (by omega)]
      | succ m ih =>
        intro k w2 w3 hk
        have hn := ih (k + 1) (3, 0) (3, 0) (by omega)
        rw [show fo (dropC x.toNat) u (k + 1) = dropC x.toNat k (fo (dropC x.toNat) u k) from rfl] at hn
        unfold dropC at hn
        rw [r81_34, cmp_ge, if_neg (by omega), inb4 (by omega), inb4 hx, cmp_le, w32_succ (by omega), Int.toNat_natCast]
        by_cases hq : fo (dropC x.toNat) u k 73 x.toNat < fo (dropC x.toNat) u k 73 k
        · rw [if_neg (by omega), inb4 (by omega)]
          unfold dropC
          unfold dropC at hq
          rw [if_pos hq] at hn
          exact hn
        · rw [if_pos (by omega)]
          unfold dropC
          unfold dropC at hq
          rw [if_neg hq] at hn
          exact hn
    exact key 4 0 w2 w3 (by omega)

  rcases (show x = 0 ∨ x = 1 ∨ x = 2 ∨ x = 3 by omega) with rfl | rfl | rfl | rfl
  · rw [rc81_, inb4 hx, inb4 hx, inb4 hx, hh76_0, CP_77_35, F4626_72, lay81]; show (aget X 105 _ 81 _).bind _ = _; rw [A81, inb4 hx, F2058_36, hh81_0, CP_82_39]; exact loop _ _ _
  · rw [rc81_, inb4 hx, inb4 hx, inb4 hx, hh76_1, CP_78_35, F4626_72, lay81]; show (aget X 105 _ 81 _).bind _ = _; rw [A81, inb4 hx, F2058_36, hh81_1, CP_83_39]; exact loop _ _ _
  · rw [rc81_, inb4 hx, inb4 hx, inb4 hx, hh76_2, CP_79_35, F4626_72, lay81]; show (aget X 105 _ 81 _).bind _ = _; rw [A81, inb4 hx, F2058_36, hh81_2, CP_84_39]; exact loop _ _ _
  · rw [rc81_, inb4 hx, inb4 hx, inb4 hx, hh76_3, CP_80_35, F4626_72, lay81]; show (aget X 105 _ 81 _).bind _ = _; rw [A81, inb4 hx, F2058_36, hh81_3, CP_85_39]; exact loop _ _ _
end MARK
