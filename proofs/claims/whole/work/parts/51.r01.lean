/-! Part 51.r01: printed by wip/whole/emit6.py: equations with the fixed cells put in. -/
section
variable (X : MExt) (E : List (Nat × Nat)) (c s : Nat) (g : Nat → Nat → Int)
set_option maxRecDepth 100000 in
theorem r31_0 (d : Nat) (x1 : Int) : Ev prog clsT X d mc31 0 [(2, 40), (0, x1), (3, 0), (3, 0), (3, 0)] [] (mk E c s (hh g)) =
  (Ev prog clsT X d mc31 4 [(2, 40), (0, x1), (0, (-1)), (0, 0), (3, 0)] [] (mk E c s (hh g))) :=
  evk_at X [0, 4] 6 rfl
set_option maxRecDepth 100000 in
theorem rc31_ (d : Nat) (x1 : Int) : Call prog clsT X (d + 1) 31 [(2, 40), (0, x1)] (mk E c s (hh g)) =
  (Ev prog clsT X d mc31 4 [(2, 40), (0, x1), (0, (-1)), (0, 0), (3, 0)] [] (mk E c s (hh g))) :=
  (show Call prog clsT X (d + 1) 31 [(2, 40), (0, x1)] (mk E c s (hh g)) = Ev prog clsT X d mc31 0 [(2, 40), (0, x1), (3, 0), (3, 0), (3, 0)] [] (mk E c s (hh g)) from rfl).trans (r31_0 X E c s g d x1 )
set_option maxRecDepth 100000 in
theorem r31_4 (d : Nat) (x1 x2 x3 : Int) (w4 : MV) : Ev prog clsT X d mc31 4 [(2, 40), (0, x1), (0, x2), (0, x3), w4] [] (mk E c s (hh g)) =
  (if cmpI .ge x3 5 = true then
  (some ((0, (if x2 < 0 then 0 else x2)), ((mk E c s (hh g)))))
else
  (if inb ((w32 (((w32 (x1 * 5))) + x3))) 50 = true then
    (if cmpI .eq ((g 44 (Int.toNat ((w32 (((w32 (x1 * 5))) + x3)))))) ((-1)) = true then
    (Ev prog clsT X d mc31 4 [(2, 40), (0, x1), (0, x2), (0, (w32 (x3 + 1))), (0, (g 44 (Int.toNat ((w32 (((w32 (x1 * 5))) + x3))))))] [] (mk E c s (hh g)))
  else
    (if cmpI .eq x2 ((-1)) = true then
      (Ev prog clsT X d mc31 4 [(2, 40), (0, x1), (0, (g 44 (Int.toNat ((w32 (((w32 (x1 * 5))) + x3)))))), (0, (w32 (x3 + 1))), (0, (g 44 (Int.toNat ((w32 (((w32 (x1 * 5))) + x3))))))] [] (mk E c s (hh g)))
    else
      (if cmpI .ge ((g 44 (Int.toNat ((w32 (((w32 (x1 * 5))) + x3)))))) x2 = true then
        (Ev prog clsT X d mc31 4 [(2, 40), (0, x1), (0, x2), (0, (w32 (x3 + 1))), (0, (g 44 (Int.toNat ((w32 (((w32 (x1 * 5))) + x3))))))] [] (mk E c s (hh g)))
      else
        (Ev prog clsT X d mc31 4 [(2, 40), (0, x1), (0, (g 44 (Int.toNat ((w32 (((w32 (x1 * 5))) + x3)))))), (0, (w32 (x3 + 1))), (0, (g 44 (Int.toNat ((w32 (((w32 (x1 * 5))) + x3))))))] [] (mk E c s (hh g))))))
  else none)) :=
  (evk_at (r := (if cmpI .ge x3 5 = true then
  (some ((0, (if x2 < 0 then 0 else x2)), (mk E c s (hh g))))
else
  ((fget 1550 ((mk E c s (hh g))) 40).bind fun v1 =>
    (aget X 100 ((mk E c s (hh g))) v1 ((w32 (((w32 (x1 * 5))) + x3)))).bind fun v2 =>
    if cmpI .eq v2 ((-1)) = true then
    (Ev prog clsT X d mc31 4 [(2, 40), (0, x1), (0, x2), (0, (w32 (x3 + 1))), (0, v2)] [] (mk E c s (hh g)))
  else
    (if cmpI .eq x2 ((-1)) = true then
      (Ev prog clsT X d mc31 4 [(2, 40), (0, x1), (0, v2), (0, (w32 (x3 + 1))), (0, v2)] [] (mk E c s (hh g)))
    else
      (if cmpI .ge v2 x2 = true then
        (Ev prog clsT X d mc31 4 [(2, 40), (0, x1), (0, x2), (0, (w32 (x3 + 1))), (0, v2)] [] (mk E c s (hh g)))
      else
        (Ev prog clsT X d mc31 4 [(2, 40), (0, x1), (0, v2), (0, (w32 (x3 + 1))), (0, v2)] [] (mk E c s (hh g)))))))) X [0, 4] 27 rfl).trans (by simp (maxSteps := 10000000) only [↓A44, ↓F1550_40, bindI, Option.bind_some, if_true_, and_self, ite_true, true_and, true_or, or_true])
set_option maxRecDepth 100000 in
theorem r32_0 (d : Nat) (x1 : Int) : Ev prog clsT X d mc32 0 [(2, 40), (0, x1), (3, 0), (3, 0)] [] (mk E c s (hh g)) =
  (Ev prog clsT X d mc32 4 [(2, 40), (0, x1), (0, 0), (0, 0)] [] (mk E c s (hh g))) :=
  evk_at X [0, 4] 6 rfl
set_option maxRecDepth 100000 in
theorem rc32_ (d : Nat) (x1 : Int) : Call prog clsT X (d + 1) 32 [(2, 40), (0, x1)] (mk E c s (hh g)) =
  (Ev prog clsT X d mc32 4 [(2, 40), (0, x1), (0, 0), (0, 0)] [] (mk E c s (hh g))) :=
  (show Call prog clsT X (d + 1) 32 [(2, 40), (0, x1)] (mk E c s (hh g)) = Ev prog clsT X d mc32 0 [(2, 40), (0, x1), (3, 0), (3, 0)] [] (mk E c s (hh g)) from rfl).trans (r32_0 X E c s g d x1 )
set_option maxRecDepth 100000 in
theorem r32_4 (d : Nat) (x1 x2 x3 : Int) : Ev prog clsT X d mc32 4 [(2, 40), (0, x1), (0, x2), (0, x3)] [] (mk E c s (hh g)) =
  (if cmpI .ge x3 5 = true then
  (some ((0, x2), ((mk E c s (hh g)))))
else
  (if inb ((w32 (((w32 (x1 * 5))) + x3))) 50 = true then
    (Ev prog clsT X d mc32 4 [(2, 40), (0, x1), (0, (w32 (x2 + ((if (g 44 (Int.toNat ((w32 (((w32 (x1 * 5))) + x3))))) < 0 then 0 else (g 44 (Int.toNat ((w32 (((w32 (x1 * 5))) + x3)))))))))), (0, (w32 (x3 + 1)))] [] (mk E c s (hh g)))
  else none)) :=
  (evk_at (r := (if cmpI .ge x3 5 = true then
  (some ((0, x2), (mk E c s (hh g))))
else
  ((fget 1550 ((mk E c s (hh g))) 40).bind fun v1 =>
    (aget X 100 ((mk E c s (hh g))) v1 ((w32 (((w32 (x1 * 5))) + x3)))).bind fun v2 =>
    Ev prog clsT X d mc32 4 [(2, 40), (0, x1), (0, (w32 (x2 + ((if v2 < 0 then 0 else v2))))), (0, (w32 (x3 + 1)))] [] (mk E c s (hh g))))) X [0, 4] 20 rfl).trans (by simp (maxSteps := 10000000) only [↓A44, ↓F1550_40, bindI, Option.bind_some, if_true_, and_self, ite_true, true_and, true_or, or_true])
set_option maxRecDepth 100000 in
theorem r33_21 (d : Nat) : Ev prog clsT X d mc33 21 [(2, 36)] [] (mk E c s (hh g)) =
  ((Call prog clsT X d 248 [(2, 39), (0, (-1))] ((mk E c s (hh g)))).bind fun r1 => if r1.1.1 = 4 then none else
  Ev prog clsT X d mc33 25 [(2, 36)] (pushR r1.1 []) r1.2) :=
  (evk_at (r := ((fget 2058 ((mk E c s (hh g))) 36).bind fun v1 =>
  (Call prog clsT X d 248 [(2, v1), (0, (-1))] ((mk E c s (hh g)))).bind fun r2 => if r2.1.1 = 4 then none else
  Ev prog clsT X d mc33 25 [(2, 36)] (pushR r2.1 []) r2.2)) X [0, 21, 25] 5 rfl).trans (by simp (maxSteps := 10000000) only [↓F2058_36, bindI, Option.bind_some, if_true_, and_self, ite_true, true_and, true_or, or_true])
set_option maxRecDepth 100000 in
theorem r33_25 (d : Nat) : Ev prog clsT X d mc33 25 [(2, 36)] [] (mk E c s (hh g)) =
  (some ((3, 0), ((mk E c s (hh g))))) :=
  (evk_at (r := (some ((3, 0), (mk E c s (hh g))))) X [0, 21, 25] 2 rfl).trans (by simp (maxSteps := 10000000) only [bindI, Option.bind_some, if_true_, and_self, ite_true, true_and, true_or, or_true])
set_option maxRecDepth 100000 in
theorem r34_0 (d : Nat) (x1 : Int) : Ev prog clsT X d mc34 0 [(2, 36), (0, x1)] [] (mk E c s (hh g)) =
  ((Call prog clsT X d 90 [(0, x1), (0, 0), (0, 3)] ((mk E c s (hh g)))).bind fun r1 => if r1.1.1 = 4 then none else
  Ev prog clsT X d mc34 4 [(2, 36), (0, x1)] (pushR r1.1 []) r1.2) :=
  evk_at X [0, 4] 5 rfl
set_option maxRecDepth 100000 in
theorem rc34_ (d : Nat) (x1 : Int) : Call prog clsT X (d + 1) 34 [(2, 36), (0, x1)] (mk E c s (hh g)) =
  ((Call prog clsT X d 90 [(0, x1), (0, 0), (0, 3)] ((mk E c s (hh g)))).bind fun r1 => if r1.1.1 = 4 then none else
  Ev prog clsT X d mc34 4 [(2, 36), (0, x1)] (pushR r1.1 []) r1.2) :=
  (show Call prog clsT X (d + 1) 34 [(2, 36), (0, x1)] (mk E c s (hh g)) = Ev prog clsT X d mc34 0 [(2, 36), (0, x1)] [] (mk E c s (hh g)) from rfl).trans (r34_0 X E c s g d x1 )
set_option maxRecDepth 100000 in
theorem r34_4 (d : Nat) (x1 s0 : Int) : Ev prog clsT X d mc34 4 [(2, 36), (0, x1)] [(0, s0)] (mk E c s (hh g)) =
  (if cmpI .eq s0 0 = true then
  (some ((0, 0), ((mk E c s (hh g)))))
else
  (if inb x1 4 = true then
    (if cmpI .eq ((g 37 (Int.toNat x1))) ((-1)) = true then
    (some ((0, 0), ((mk E c s (hh g)))))
  else
    (some ((0, 1), ((mk E c s (hh g))))))
  else none)) :=
  (evk_at (r := (if cmpI .eq s0 0 = true then
  (some ((0, 0), (mk E c s (hh g))))
else
  ((fget 2050 ((mk E c s (hh g))) 36).bind fun v1 =>
    (aget X 100 ((mk E c s (hh g))) v1 x1).bind fun v2 =>
    if cmpI .eq v2 ((-1)) = true then
    (some ((0, 0), (mk E c s (hh g))))
  else
    (some ((0, 1), (mk E c s (hh g))))))) X [0, 4] 11 rfl).trans (by simp (maxSteps := 10000000) only [↓A37, ↓F2050_36, bindI, Option.bind_some, if_true_, and_self, ite_true, true_and, true_or, or_true])
set_option maxRecDepth 100000 in
theorem r35_0 (d : Nat) : Ev prog clsT X d mc35 0 [(2, 36), (3, 0), (3, 0)] [] (mk E c s (hh g)) =
  (Ev prog clsT X d mc35 4 [(2, 36), (0, 0), (0, 0)] [] (mk E c s (hh g))) :=
  evk_at X [0, 4] 6 rfl
set_option maxRecDepth 100000 in
theorem rc35_ (d : Nat) : Call prog clsT X (d + 1) 35 [(2, 36)] (mk E c s (hh g)) =
  (Ev prog clsT X d mc35 4 [(2, 36), (0, 0), (0, 0)] [] (mk E c s (hh g))) :=
  (show Call prog clsT X (d + 1) 35 [(2, 36)] (mk E c s (hh g)) = Ev prog clsT X d mc35 0 [(2, 36), (3, 0), (3, 0)] [] (mk E c s (hh g)) from rfl).trans (r35_0 X E c s g d  )
set_option maxRecDepth 100000 in
theorem r35_4 (d : Nat) (x1 x2 : Int) : Ev prog clsT X d mc35 4 [(2, 36), (0, x1), (0, x2)] [] (mk E c s (hh g)) =
  (if cmpI .ge x2 10 = true then
  (some ((0, x1), ((mk E c s (hh g)))))
else
  (if inb x2 10 = true then
    (if cmpI .eq ((g 39 (Int.toNat x2))) ((-1)) = true then
    (Ev prog clsT X d mc35 4 [(2, 36), (0, (w32 (x1 + 0))), (0, (w32 (x2 + 1)))] [] (mk E c s (hh g)))
  else
    (Ev prog clsT X d mc35 4 [(2, 36), (0, (w32 (x1 + 1))), (0, (w32 (x2 + 1)))] [] (mk E c s (hh g))))
  else none)) :=
  (evk_at (r := (if cmpI .ge x2 10 = true then
  (some ((0, x1), (mk E c s (hh g))))
else
  ((fget 2058 ((mk E c s (hh g))) 36).bind fun v1 =>
    (aget X 100 ((mk E c s (hh g))) v1 x2).bind fun v2 =>
    if cmpI .eq v2 ((-1)) = true then
    (Ev prog clsT X d mc35 4 [(2, 36), (0, (w32 (x1 + 0))), (0, (w32 (x2 + 1)))] [] (mk E c s (hh g)))
  else
    (Ev prog clsT X d mc35 4 [(2, 36), (0, (w32 (x1 + 1))), (0, (w32 (x2 + 1)))] [] (mk E c s (hh g)))))) X [0, 4] 18 rfl).trans (by simp (maxSteps := 10000000) only [↓A39, ↓F2058_36, bindI, Option.bind_some, if_true_, and_self, ite_true, true_and, true_or, or_true])
set_option maxRecDepth 100000 in
theorem r36_0 (d : Nat) : Ev prog clsT X d mc36 0 [(2, 36), (3, 0), (3, 0)] [] (mk E c s (hh g)) =
  (Ev prog clsT X d mc36 4 [(2, 36), (0, 0), (0, 0)] [] (mk E c s (hh g))) :=
  evk_at X [0, 4] 6 rfl
set_option maxRecDepth 100000 in
theorem rc36_ (d : Nat) : Call prog clsT X (d + 1) 36 [(2, 36)] (mk E c s (hh g)) =
  (Ev prog clsT X d mc36 4 [(2, 36), (0, 0), (0, 0)] [] (mk E c s (hh g))) :=
  (show Call prog clsT X (d + 1) 36 [(2, 36)] (mk E c s (hh g)) = Ev prog clsT X d mc36 0 [(2, 36), (3, 0), (3, 0)] [] (mk E c s (hh g)) from rfl).trans (r36_0 X E c s g d  )
set_option maxRecDepth 100000 in
theorem r36_4 (d : Nat) (x1 x2 : Int) : Ev prog clsT X d mc36 4 [(2, 36), (0, x1), (0, x2)] [] (mk E c s (hh g)) =
  (if cmpI .ge x2 4 = true then
  (some ((0, x1), ((mk E c s (hh g)))))
else
  (if inb x2 4 = true then
    (if cmpI .eq ((g 37 (Int.toNat x2))) ((-1)) = true then
    (Ev prog clsT X d mc36 4 [(2, 36), (0, (w32 (x1 + 0))), (0, (w32 (x2 + 1)))] [] (mk E c s (hh g)))
  else
    (Ev prog clsT X d mc36 4 [(2, 36), (0, (w32 (x1 + 1))), (0, (w32 (x2 + 1)))] [] (mk E c s (hh g))))
  else none)) :=
  (evk_at (r := (if cmpI .ge x2 4 = true then
  (some ((0, x1), (mk E c s (hh g))))
else
  ((fget 2050 ((mk E c s (hh g))) 36).bind fun v1 =>
    (aget X 100 ((mk E c s (hh g))) v1 x2).bind fun v2 =>
    if cmpI .eq v2 ((-1)) = true then
    (Ev prog clsT X d mc36 4 [(2, 36), (0, (w32 (x1 + 0))), (0, (w32 (x2 + 1)))] [] (mk E c s (hh g)))
  else
    (Ev prog clsT X d mc36 4 [(2, 36), (0, (w32 (x1 + 1))), (0, (w32 (x2 + 1)))] [] (mk E c s (hh g)))))) X [0, 4] 18 rfl).trans (by simp (maxSteps := 10000000) only [↓A37, ↓F2050_36, bindI, Option.bind_some, if_true_, and_self, ite_true, true_and, true_or, or_true])
set_option maxRecDepth 100000 in
theorem r37_11 (d : Nat) (s1 : Int) : Ev prog clsT X d mc37 11 [(2, 9)] [(2, s1), (2, 9)] (mk E c s (hh g)) =
  (if (2 : Nat) = 2 ∧ (2 : Nat) = fTg 2570 ∧ ((2 : Nat) = 2 → vref ((mk E c s (hh g))) s1 = true) ∧ (fTy 2570 = 3 → one01 s1 = true) then
  (if (2 : Nat) = 2 ∧ (2 : Nat) = fTg 2594 ∧ ((2 : Nat) = 2 → vref ((mk E c s (hh (up g 9 2 s1)))) ((-10)) = true) ∧ (fTy 2594 = 3 → one01 ((-10)) = true) then
  (some ((3, 0), ((mk E c s (hh (up (up g 9 2 s1) 9 8 ((-10)))))))) else none) else none) :=
  (evk_at (r := (if (2 : Nat) = 2 ∧ (2 : Nat) = fTg 2570 ∧ ((2 : Nat) = 2 → vref ((mk E c s (hh g))) s1 = true) ∧ (fTy 2570 = 3 → one01 s1 = true) then (fput 2570 ((mk E c s (hh g))) 9 s1).bind fun M1 =>
  (if (2 : Nat) = 2 ∧ (2 : Nat) = fTg 2594 ∧ ((2 : Nat) = 2 → vref M1 ((-10)) = true) ∧ (fTy 2594 = 3 → one01 ((-10)) = true) then (fput 2594 M1 9 ((-10))).bind fun M2 =>
  (some ((3, 0), M2)) else none) else none)) X [0, 11] 6 rfl).trans (by simp (maxSteps := 10000000) only [↓W2570_9, ↓W2594_9, bindI, Option.bind_some, if_true_, and_self, ite_true, true_and, true_or, or_true])
set_option maxRecDepth 100000 in
theorem r38_0 (d : Nat) (x1 : Int) : Ev prog clsT X d mc38 0 [(2, 9), (1, x1), (3, 0), (3, 0), (3, 0)] [] (mk E c s (hh g)) =
  (Ev prog clsT X d mc38 2 [(2, 9), (1, x1), (3, 0), (0, 56), (3, 0)] [] (mk E c s (hh g))) :=
  evk_at X [0, 2, 20] 4 rfl
set_option maxRecDepth 100000 in
theorem rc38_ (d : Nat) (x1 : Int) : Call prog clsT X (d + 1) 38 [(2, 9), (1, x1)] (mk E c s (hh g)) =
  (Ev prog clsT X d mc38 2 [(2, 9), (1, x1), (3, 0), (0, 56), (3, 0)] [] (mk E c s (hh g))) :=
  (show Call prog clsT X (d + 1) 38 [(2, 9), (1, x1)] (mk E c s (hh g)) = Ev prog clsT X d mc38 0 [(2, 9), (1, x1), (3, 0), (3, 0), (3, 0)] [] (mk E c s (hh g)) from rfl).trans (r38_0 X E c s g d x1 )
set_option maxRecDepth 100000 in
theorem r38_2 (d : Nat) (x1 x3 : Int) (w2 w4 : MV) : Ev prog clsT X d mc38 2 [(2, 9), (1, x1), w2, (0, x3), w4] [] (mk E c s (hh g)) =
  (if cmpI .lt x3 0 = true then
  (some ((3, 0), ((mk E c s (hh g)))))
else
  (if cmpI .eq ((w32 ((land64 ((lushr64 x1 x3)) 255)))) 10 = true then
    (Ev prog clsT X d mc38 20 [(2, 9), (1, x1), (3, 0), (0, x3), (0, (w32 ((land64 ((lushr64 x1 x3)) 255))))] [] (mk E c s (hh g)))
  else
    (if cmpI .lt ((w32 ((land64 ((lushr64 x1 x3)) 255)))) 32 = true then
      (Ev prog clsT X d mc38 2 [(2, 9), (1, x1), (3, 0), (0, (w32 (x3 + (-8)))), (0, (w32 ((land64 ((lushr64 x1 x3)) 255))))] [] (mk E c s (hh g)))
    else
      (if cmpI .gt ((w32 ((land64 ((lushr64 x1 x3)) 255)))) 126 = true then
        (Ev prog clsT X d mc38 2 [(2, 9), (1, x1), (3, 0), (0, (w32 (x3 + (-8)))), (0, (w32 ((land64 ((lushr64 x1 x3)) 255))))] [] (mk E c s (hh g)))
      else
        (Ev prog clsT X d mc38 20 [(2, 9), (1, x1), (3, 0), (0, x3), (0, (w32 ((land64 ((lushr64 x1 x3)) 255))))] [] (mk E c s (hh g))))))) :=
  (evk_at (r := (if cmpI .lt x3 0 = true then
  (some ((3, 0), (mk E c s (hh g))))
else
  (if cmpI .eq ((w32 ((land64 ((lushr64 x1 x3)) 255)))) 10 = true then
    (Ev prog clsT X d mc38 20 [(2, 9), (1, x1), (3, 0), (0, x3), (0, (w32 ((land64 ((lushr64 x1 x3)) 255))))] [] (mk E c s (hh g)))
  else
    (if cmpI .lt ((w32 ((land64 ((lushr64 x1 x3)) 255)))) 32 = true then
      (Ev prog clsT X d mc38 2 [(2, 9), (1, x1), (3, 0), (0, (w32 (x3 + (-8)))), (0, (w32 ((land64 ((lushr64 x1 x3)) 255))))] [] (mk E c s (hh g)))
    else
      (if cmpI .gt ((w32 ((land64 ((lushr64 x1 x3)) 255)))) 126 = true then
        (Ev prog clsT X d mc38 2 [(2, 9), (1, x1), (3, 0), (0, (w32 (x3 + (-8)))), (0, (w32 ((land64 ((lushr64 x1 x3)) 255))))] [] (mk E c s (hh g)))
      else
        (Ev prog clsT X d mc38 20 [(2, 9), (1, x1), (3, 0), (0, x3), (0, (w32 ((land64 ((lushr64 x1 x3)) 255))))] [] (mk E c s (hh g)))))))) X [0, 2, 20] 22 rfl).trans (by simp (maxSteps := 10000000) only [bindI, Option.bind_some, if_true_, and_self, ite_true, true_and, true_or, or_true])
set_option maxRecDepth 100000 in
theorem r38_20 (d : Nat) (x1 x3 x4 : Int) : Ev prog clsT X d mc38 20 [(2, 9), (1, x1), (3, 0), (0, x3), (0, x4)] [] (mk E c s (hh g)) =
  (if cmpI .ge ((g 9 1)) 1000 = true then
  (Ev prog clsT X d mc38 2 [(2, 9), (1, x1), (3, 0), (0, (w32 (x3 + (-8)))), (0, x4)] [] (mk E c s (hh g)))
else
  (if inb ((g 9 1)) 1000 = true then
    (Ev prog clsT X d mc38 2 [(2, 9), (1, x1), (3, 0), (0, (w32 (x3 + (-8)))), (0, x4)] [] (mk E c s (hh (up (up g 10 (Int.toNat ((g 9 1))) (sx8 ((sx8 x4)))) 9 1 ((w32 (((g 9 1)) + 1)))))))
  else none)) :=
  (evk_at (r := ((fget 2564 ((mk E c s (hh g))) 9).bind fun v1 =>
  if cmpI .ge v1 1000 = true then
  (Ev prog clsT X d mc38 2 [(2, 9), (1, x1), (3, 0), (0, (w32 (x3 + (-8)))), (0, x4)] [] (mk E c s (hh g)))
else
  ((fget 2562 ((mk E c s (hh g))) 9).bind fun v2 =>
    (fget 2564 ((mk E c s (hh g))) 9).bind fun v3 =>
    (aput 103 ((mk E c s (hh g))) v2 v3 (sx8 ((sx8 x4)))).bind fun M4 =>
    (fget 2564 M4 9).bind fun v5 =>
    (fput 2564 M4 9 ((w32 (v5 + 1)))).bind fun M6 =>
    Ev prog clsT X d mc38 2 [(2, 9), (1, x1), (3, 0), (0, (w32 (x3 + (-8)))), (0, x4)] [] M6))) X [0, 2, 20] 21 rfl).trans (by simp (maxSteps := 10000000) only [uc_10_9, ↓F2562_9, ↓F2564_9, ↓S10, ↓W2564_9, bindI, Option.bind_some, if_true_, and_self, ite_true, true_and, true_or, or_true])
set_option maxRecDepth 100000 in
theorem r39_0 (d : Nat) (x1 : Int) : Ev prog clsT X d mc39 0 [(2, 9), (0, x1), (3, 0)] [] (mk E c s (hh g)) =
  ((fget 2564 ((growF ((mk E c s (hh g))) 7 8 (fDef (clsT.getD 7 [])))) 9).bind fun v1 =>
  if (2 : Nat) = 2 ∧ rcv ((growF ((mk E c s (hh g))) 7 8 (fDef (clsT.getD 7 [])))) ((nx ((mk E c s (hh g))))) 8 = true then
  ((Call prog clsT X d 65 [(2, (nx ((mk E c s (hh g))))), (0, v1)] ((growF ((mk E c s (hh g))) 7 8 (fDef (clsT.getD 7 []))))).bind fun r2 => if r2.1.1 = 4 then none else
  Ev prog clsT X d mc39 6 [(2, 9), (0, x1), (3, 0)] (pushR r2.1 [(2, (nx ((mk E c s (hh g))))), (2, 9)]) r2.2) else none) :=
  evk_at X [0, 6, 23, 25, 37] 7 rfl
set_option maxRecDepth 100000 in
theorem rc39_ (d : Nat) (x1 : Int) : Call prog clsT X (d + 1) 39 [(2, 9), (0, x1)] (mk E c s (hh g)) =
  ((fget 2564 ((growF ((mk E c s (hh g))) 7 8 (fDef (clsT.getD 7 [])))) 9).bind fun v1 =>
  if (2 : Nat) = 2 ∧ rcv ((growF ((mk E c s (hh g))) 7 8 (fDef (clsT.getD 7 [])))) ((nx ((mk E c s (hh g))))) 8 = true then
  ((Call prog clsT X d 65 [(2, (nx ((mk E c s (hh g))))), (0, v1)] ((growF ((mk E c s (hh g))) 7 8 (fDef (clsT.getD 7 []))))).bind fun r2 => if r2.1.1 = 4 then none else
  Ev prog clsT X d mc39 6 [(2, 9), (0, x1), (3, 0)] (pushR r2.1 [(2, (nx ((mk E c s (hh g))))), (2, 9)]) r2.2) else none) :=
  (show Call prog clsT X (d + 1) 39 [(2, 9), (0, x1)] (mk E c s (hh g)) = Ev prog clsT X d mc39 0 [(2, 9), (0, x1), (3, 0)] [] (mk E c s (hh g)) from rfl).trans (r39_0 X E c s g d x1 )
set_option maxRecDepth 100000 in
theorem r39_6 (d : Nat) (x1 s1 : Int) : Ev prog clsT X d mc39 6 [(2, 9), (0, x1), (3, 0)] [(2, s1), (2, 9)] (mk E c s (hh g)) =
  (if (2 : Nat) = 2 ∧ (2 : Nat) = fTg 2570 ∧ ((2 : Nat) = 2 → vref ((mk E c s (hh g))) s1 = true) ∧ (fTy 2570 = 3 → one01 s1 = true) then
  (if cmpI .ne x1 2 = true then
  (if (2 : Nat) = 2 ∧ (2 : Nat) = fTg 2594 ∧ ((2 : Nat) = 2 → vref ((mk E c s (hh (up g 9 2 s1)))) ((-10)) = true) ∧ (fTy 2594 = 3 → one01 ((-10)) = true) then
    ((Call prog clsT X d 40 [(2, 9)] ((mk E c s (hh (up (up (up (up g 9 2 s1) 9 8 ((-10))) 9 3 0) 9 4 0))))).bind fun r1 => if r1.1.1 = 4 then none else
    Ev prog clsT X d mc39 23 [(2, 9), (0, x1), (3, 0)] (pushR r1.1 []) r1.2) else none)
else
  (if (2 : Nat) = 2 ∧ (2 : Nat) = fTg 2594 ∧ ((2 : Nat) = 2 → vref ((mk E c s (hh (up g 9 2 s1)))) ((-11)) = true) ∧ (fTy 2594 = 3 → one01 ((-11)) = true) then
    ((Call prog clsT X d 40 [(2, 9)] ((mk E c s (hh (up (up (up (up g 9 2 s1) 9 8 ((-11))) 9 3 0) 9 4 0))))).bind fun r2 => if r2.1.1 = 4 then none else
    Ev prog clsT X d mc39 23 [(2, 9), (0, x1), (3, 0)] (pushR r2.1 []) r2.2) else none)) else none) :=
  (evk_at (r := (if (2 : Nat) = 2 ∧ (2 : Nat) = fTg 2570 ∧ ((2 : Nat) = 2 → vref ((mk E c s (hh g))) s1 = true) ∧ (fTy 2570 = 3 → one01 s1 = true) then (fput 2570 ((mk E c s (hh g))) 9 s1).bind fun M1 =>
  (if cmpI .ne x1 2 = true then
  (if (2 : Nat) = 2 ∧ (2 : Nat) = fTg 2594 ∧ ((2 : Nat) = 2 → vref M1 ((-10)) = true) ∧ (fTy 2594 = 3 → one01 ((-10)) = true) then (fput 2594 M1 9 ((-10))).bind fun M2 =>
    ((fput 2572 M2 9 0).bind fun M3 =>
    (fput 2576 M3 9 0).bind fun M4 =>
    if (2 : Nat) = 2 ∧ rcv M4 9 6 = true then
    ((Call prog clsT X d 40 [(2, 9)] M4).bind fun r5 => if r5.1.1 = 4 then none else
    Ev prog clsT X d mc39 23 [(2, 9), (0, x1), (3, 0)] (pushR r5.1 []) r5.2) else none) else none)
else
  (if (2 : Nat) = 2 ∧ (2 : Nat) = fTg 2594 ∧ ((2 : Nat) = 2 → vref M1 ((-11)) = true) ∧ (fTy 2594 = 3 → one01 ((-11)) = true) then (fput 2594 M1 9 ((-11))).bind fun M6 =>
    ((fput 2572 M6 9 0).bind fun M7 =>
    (fput 2576 M7 9 0).bind fun M8 =>
    if (2 : Nat) = 2 ∧ rcv M8 9 6 = true then
    ((Call prog clsT X d 40 [(2, 9)] M8).bind fun r9 => if r9.1.1 = 4 then none else
    Ev prog clsT X d mc39 23 [(2, 9), (0, x1), (3, 0)] (pushR r9.1 []) r9.2) else none) else none)) else none)) X [0, 6, 23, 25, 37] 17 rfl).trans (by simp (maxSteps := 10000000) only [R9_6, ↓W2570_9, ↓W2572_9, ↓W2576_9, ↓W2594_9, bindI, Option.bind_some, if_true_, and_self, ite_true, true_and, true_or, or_true])
set_option maxRecDepth 100000 in
theorem r39_23 (d : Nat) (x1 : Int) : Ev prog clsT X d mc39 23 [(2, 9), (0, x1), (3, 0)] [] (mk E c s (hh g)) =
  (Ev prog clsT X d mc39 25 [(2, 9), (0, x1), (0, 0)] [] (mk E c s (hh g))) :=
  evk_at X [0, 6, 23, 25, 37] 4 rfl
set_option maxRecDepth 100000 in
theorem r39_25 (d : Nat) (x1 x2 : Int) : Ev prog clsT X d mc39 25 [(2, 9), (0, x1), (0, x2)] [] (mk E c s (hh g)) =
  (if cmpI .ge x2 1000 = true then
  (some ((0, (g 9 3)), ((mk E c s (hh (up g 9 1 0))))))
else
  (if cmpI .ne ((g 9 3)) 0 = true then
    (some ((0, (g 9 3)), ((mk E c s (hh (up g 9 1 0))))))
  else
    (if cmpI .eq ((g 9 6)) 0 = true then
      (some ((0, (g 9 3)), ((mk E c s (hh (up g 9 1 0))))))
    else
      ((Call prog clsT X d 43 [(2, 9), (0, x1)] ((mk E c s (hh g)))).bind fun r1 => if r1.1.1 = 4 then none else
        Ev prog clsT X d mc39 37 [(2, 9), (0, x1), (0, x2)] (pushR r1.1 []) r1.2)))) :=
  (evk_at (r := (if cmpI .ge x2 1000 = true then
  ((fput 2564 ((mk E c s (hh g))) 9 0).bind fun M1 =>
    (fget 2572 M1 9).bind fun v2 =>
    some ((0, v2), M1))
else
  ((fget 2572 ((mk E c s (hh g))) 9).bind fun v3 =>
    if cmpI .ne v3 0 = true then
    ((fput 2564 ((mk E c s (hh g))) 9 0).bind fun M4 =>
      (fget 2572 M4 9).bind fun v5 =>
      some ((0, v5), M4))
  else
    ((fget 2584 ((mk E c s (hh g))) 9).bind fun v6 =>
      if cmpI .eq v6 0 = true then
      ((fput 2564 ((mk E c s (hh g))) 9 0).bind fun M7 =>
        (fget 2572 M7 9).bind fun v8 =>
        some ((0, v8), M7))
    else
      (if (2 : Nat) = 2 ∧ rcv ((mk E c s (hh g))) 9 6 = true then
        ((Call prog clsT X d 43 [(2, 9), (0, x1)] ((mk E c s (hh g)))).bind fun r9 => if r9.1.1 = 4 then none else
        Ev prog clsT X d mc39 37 [(2, 9), (0, x1), (0, x2)] (pushR r9.1 []) r9.2) else none))))) X [0, 6, 23, 25, 37] 16 rfl).trans (by simp (maxSteps := 10000000) only [R9_6, uq_1_3, ↓F2572_9, ↓F2584_9, ↓W2564_9, bindI, Option.bind_some, if_true_, and_self, ite_true, true_and, true_or, or_true])
set_option maxRecDepth 100000 in
theorem r39_37 (d : Nat) (x1 x2 : Int) : Ev prog clsT X d mc39 37 [(2, 9), (0, x1), (0, x2)] [] (mk E c s (hh g)) =
  (Ev prog clsT X d mc39 25 [(2, 9), (0, x1), (0, (w32 (x2 + 1)))] [] (mk E c s (hh g))) :=
  evk_at X [0, 6, 23, 25, 37] 4 rfl
set_option maxRecDepth 100000 in
theorem r40_0 (d : Nat) : Ev prog clsT X d mc40 0 [(2, 9), (3, 0)] [] (mk E c s (hh g)) =
  (if cmpI .eq ((g 9 3)) 0 = true then
  (Ev prog clsT X d mc40 11 [(2, 9), (0, (g 9 4))] [] (mk E c s (hh (up g 9 5 ((g 9 4))))))
else
  (some ((3, 0), ((mk E c s (hh g)))))) :=
  (evk_at (r := ((fget 2572 ((mk E c s (hh g))) 9).bind fun v1 =>
  if cmpI .eq v1 0 = true then
  ((fget 2576 ((mk E c s (hh g))) 9).bind fun v2 =>
    (fput 2580 ((mk E c s (hh g))) 9 v2).bind fun M3 =>
    (fget 2576 M3 9).bind fun v4 =>
    Ev prog clsT X d mc40 11 [(2, 9), (0, v4)] [] M3)
else
  (some ((3, 0), (mk E c s (hh g)))))) X [0, 11, 34, 63, 64, 80, 81, 96] 12 rfl).trans (by simp (maxSteps := 10000000) only [uq_5_4, ↓F2572_9, ↓F2576_9, ↓W2580_9, bindI, Option.bind_some, if_true_, and_self, ite_true, true_and, true_or, or_true])
set_option maxRecDepth 100000 in
theorem rc40_ (d : Nat) : Call prog clsT X (d + 1) 40 [(2, 9)] (mk E c s (hh g)) =
  (if cmpI .eq ((g 9 3)) 0 = true then
  (Ev prog clsT X d mc40 11 [(2, 9), (0, (g 9 4))] [] (mk E c s (hh (up g 9 5 ((g 9 4))))))
else
  (some ((3, 0), ((mk E c s (hh g)))))) :=
  (show Call prog clsT X (d + 1) 40 [(2, 9)] (mk E c s (hh g)) = Ev prog clsT X d mc40 0 [(2, 9), (3, 0)] [] (mk E c s (hh g)) from rfl).trans (r40_0 X E c s g d  )
set_option maxRecDepth 100000 in
theorem r40_11 (d : Nat) (x1 : Int) : Ev prog clsT X d mc40 11 [(2, 9), (0, x1)] [] (mk E c s (hh g)) =
  (if cmpI .ge x1 ((g 9 1)) = true then
  (Ev prog clsT X d mc40 34 [(2, 9), (0, x1)] [] (mk E c s (hh g)))
else
  (if inb x1 1000 = true then
    (if cmpI .eq ((g 10 (Int.toNat x1))) 32 = true then
    (Ev prog clsT X d mc40 11 [(2, 9), (0, (w32 (x1 + 1)))] [] (mk E c s (hh (up g 9 5 ((w32 (x1 + 1)))))))
  else
    (if inb x1 1000 = true then
      (if cmpI .ne ((g 10 (Int.toNat x1))) 10 = true then
      (Ev prog clsT X d mc40 34 [(2, 9), (0, x1)] [] (mk E c s (hh g)))
    else
      (Ev prog clsT X d mc40 11 [(2, 9), (0, (w32 (x1 + 1)))] [] (mk E c s (hh (up g 9 5 ((w32 (x1 + 1))))))))
    else none))
  else none)) :=
  (evk_at (r := ((fget 2564 ((mk E c s (hh g))) 9).bind fun v1 =>
  if cmpI .ge x1 v1 = true then
  (Ev prog clsT X d mc40 34 [(2, 9), (0, x1)] [] (mk E c s (hh g)))
else
  ((fget 2562 ((mk E c s (hh g))) 9).bind fun v2 =>
    (aget X 103 ((mk E c s (hh g))) v2 x1).bind fun v3 =>
    if cmpI .eq v3 32 = true then
    ((fput 2580 ((mk E c s (hh g))) 9 ((w32 (x1 + 1)))).bind fun M4 =>
      Ev prog clsT X d mc40 11 [(2, 9), (0, (w32 (x1 + 1)))] [] M4)
  else
    ((fget 2562 ((mk E c s (hh g))) 9).bind fun v5 =>
      (aget X 103 ((mk E c s (hh g))) v5 x1).bind fun v6 =>
      if cmpI .ne v6 10 = true then
      (Ev prog clsT X d mc40 34 [(2, 9), (0, x1)] [] (mk E c s (hh g)))
    else
      ((fput 2580 ((mk E c s (hh g))) 9 ((w32 (x1 + 1)))).bind fun M7 =>
        Ev prog clsT X d mc40 11 [(2, 9), (0, (w32 (x1 + 1)))] [] M7))))) X [0, 11, 34, 63, 64, 80, 81, 96] 25 rfl).trans (by simp (maxSteps := 10000000) only [↓A10, ↓F2562_9, ↓F2564_9, ↓W2580_9, bindI, Option.bind_some, if_true_, and_self, ite_true, true_and, true_or, or_true])
set_option maxRecDepth 100000 in
theorem r40_34 (d : Nat) (x1 : Int) : Ev prog clsT X d mc40 34 [(2, 9), (0, x1)] [] (mk E c s (hh g)) =
  (if cmpI .lt ((g 9 5)) ((g 9 1)) = true then
  (if inb ((g 9 5)) 1000 = true then
    (if cmpI .lt ((g 10 (Int.toNat ((g 9 5))))) 97 = true then
    (Ev prog clsT X d mc40 64 [(2, 9), (0, x1)] [] (mk E c s (hh (up g 9 4 ((g 9 5))))))
  else
    (if inb ((g 9 5)) 1000 = true then
      (if cmpI .gt ((g 10 (Int.toNat ((g 9 5))))) 122 = true then
      (Ev prog clsT X d mc40 64 [(2, 9), (0, x1)] [] (mk E c s (hh (up g 9 4 ((g 9 5))))))
    else
      ((Call prog clsT X d 41 [(2, 9)] ((mk E c s (hh (up g 9 4 ((g 9 5))))))).bind fun r1 => if r1.1.1 = 4 then none else
        Ev prog clsT X d mc40 63 [(2, 9), (0, x1)] (pushR r1.1 []) r1.2))
    else none))
  else none)
else
  (some ((3, 0), ((mk E c s (hh (up (up g 9 4 ((g 9 5))) 9 6 0))))))) :=
  (evk_at (r := ((fget 2580 ((mk E c s (hh g))) 9).bind fun v1 =>
  (fput 2576 ((mk E c s (hh g))) 9 v1).bind fun M2 =>
  (fget 2580 M2 9).bind fun v3 =>
  (fget 2564 M2 9).bind fun v4 =>
  if cmpI .lt v3 v4 = true then
  ((fget 2562 M2 9).bind fun v5 =>
    (fget 2580 M2 9).bind fun v6 =>
    (aget X 103 M2 v5 v6).bind fun v7 =>
    if cmpI .lt v7 97 = true then
    (Ev prog clsT X d mc40 64 [(2, 9), (0, x1)] [] M2)
  else
    ((fget 2562 M2 9).bind fun v8 =>
      (fget 2580 M2 9).bind fun v9 =>
      (aget X 103 M2 v8 v9).bind fun v10 =>
      if cmpI .gt v10 122 = true then
      (Ev prog clsT X d mc40 64 [(2, 9), (0, x1)] [] M2)
    else
      (if (2 : Nat) = 2 ∧ rcv M2 9 6 = true then
        ((Call prog clsT X d 41 [(2, 9)] M2).bind fun r11 => if r11.1.1 = 4 then none else
        Ev prog clsT X d mc40 63 [(2, 9), (0, x1)] (pushR r11.1 []) r11.2) else none)))
else
  ((fput 2584 M2 9 0).bind fun M12 =>
    some ((3, 0), M12)))) X [0, 11, 34, 63, 64, 80, 81, 96] 26 rfl).trans (by simp (maxSteps := 10000000) only [R9_6, uc_9_10, uq_4_1, uq_4_5, ↓A10, ↓F2562_9, ↓F2564_9, ↓F2580_9, ↓W2576_9, ↓W2584_9, bindI, Option.bind_some, if_true_, and_self, ite_true, true_and, true_or, or_true])
set_option maxRecDepth 100000 in
theorem r40_63 (d : Nat) (x1 : Int) : Ev prog clsT X d mc40 63 [(2, 9), (0, x1)] [] (mk E c s (hh g)) =
  (some ((3, 0), ((mk E c s (hh g))))) :=
  (evk_at (r := (some ((3, 0), (mk E c s (hh g))))) X [0, 11, 34, 63, 64, 80, 81, 96] 3 rfl).trans (by simp (maxSteps := 10000000) only [bindI, Option.bind_some, if_true_, and_self, ite_true, true_and, true_or, or_true])
set_option maxRecDepth 100000 in
theorem r40_64 (d : Nat) (x1 : Int) : Ev prog clsT X d mc40 64 [(2, 9), (0, x1)] [] (mk E c s (hh g)) =
  (if inb ((g 9 5)) 1000 = true then
  (if cmpI .lt ((g 10 (Int.toNat ((g 9 5))))) 48 = true then
  (Ev prog clsT X d mc40 81 [(2, 9), (0, x1)] [] (mk E c s (hh g)))
else
  (if inb ((g 9 5)) 1000 = true then
    (if cmpI .gt ((g 10 (Int.toNat ((g 9 5))))) 57 = true then
    (Ev prog clsT X d mc40 81 [(2, 9), (0, x1)] [] (mk E c s (hh g)))
  else
    ((Call prog clsT X d 42 [(2, 9)] ((mk E c s (hh g)))).bind fun r1 => if r1.1.1 = 4 then none else
      Ev prog clsT X d mc40 80 [(2, 9), (0, x1)] (pushR r1.1 []) r1.2))
  else none))
else none) :=
  (evk_at (r := ((fget 2562 ((mk E c s (hh g))) 9).bind fun v1 =>
  (fget 2580 ((mk E c s (hh g))) 9).bind fun v2 =>
  (aget X 103 ((mk E c s (hh g))) v1 v2).bind fun v3 =>
  if cmpI .lt v3 48 = true then
  (Ev prog clsT X d mc40 81 [(2, 9), (0, x1)] [] (mk E c s (hh g)))
else
  ((fget 2562 ((mk E c s (hh g))) 9).bind fun v4 =>
    (fget 2580 ((mk E c s (hh g))) 9).bind fun v5 =>
    (aget X 103 ((mk E c s (hh g))) v4 v5).bind fun v6 =>
    if cmpI .gt v6 57 = true then
    (Ev prog clsT X d mc40 81 [(2, 9), (0, x1)] [] (mk E c s (hh g)))
  else
    (if (2 : Nat) = 2 ∧ rcv ((mk E c s (hh g))) 9 6 = true then
      ((Call prog clsT X d 42 [(2, 9)] ((mk E c s (hh g)))).bind fun r7 => if r7.1.1 = 4 then none else
      Ev prog clsT X d mc40 80 [(2, 9), (0, x1)] (pushR r7.1 []) r7.2) else none)))) X [0, 11, 34, 63, 64, 80, 81, 96] 17 rfl).trans (by simp (maxSteps := 10000000) only [R9_6, ↓A10, ↓F2562_9, ↓F2580_9, bindI, Option.bind_some, if_true_, and_self, ite_true, true_and, true_or, or_true])
set_option maxRecDepth 100000 in
theorem r40_80 (d : Nat) (x1 : Int) : Ev prog clsT X d mc40 80 [(2, 9), (0, x1)] [] (mk E c s (hh g)) =
  (some ((3, 0), ((mk E c s (hh g))))) :=
  (evk_at (r := (some ((3, 0), (mk E c s (hh g))))) X [0, 11, 34, 63, 64, 80, 81, 96] 3 rfl).trans (by simp (maxSteps := 10000000) only [bindI, Option.bind_some, if_true_, and_self, ite_true, true_and, true_or, or_true])
set_option maxRecDepth 100000 in
theorem r40_81 (d : Nat) (x1 : Int) : Ev prog clsT X d mc40 81 [(2, 9), (0, x1)] [] (mk E c s (hh g)) =
  (if inb ((g 9 5)) 1000 = true then
  ((Call prog clsT X d 249 [(2, (-12)), (0, (c16 ((g 10 (Int.toNat ((g 9 5)))))))] ((mk E c s (hh (up g 9 4 ((w32 (((g 9 5)) + 1)))))))).bind fun r1 => if r1.1.1 = 4 then none else
  Ev prog clsT X d mc40 96 [(2, 9), (0, x1)] (pushR r1.1 [(2, 9)]) r1.2)
else none) :=
  (evk_at (r := ((fget 2580 ((mk E c s (hh g))) 9).bind fun v1 =>
  (fput 2576 ((mk E c s (hh g))) 9 ((w32 (v1 + 1)))).bind fun M2 =>
  (fget 2562 M2 9).bind fun v3 =>
  (fget 2580 M2 9).bind fun v4 =>
  (aget X 103 M2 v3 v4).bind fun v5 =>
  if (2 : Nat) = 2 ∧ rcv M2 ((-12)) 14 = true then
  ((Call prog clsT X d 249 [(2, (-12)), (0, (c16 v5))] M2).bind fun r6 => if r6.1.1 = 4 then none else
  Ev prog clsT X d mc40 96 [(2, 9), (0, x1)] (pushR r6.1 [(2, 9)]) r6.2) else none)) X [0, 11, 34, 63, 64, 80, 81, 96] 16 rfl).trans (by simp (maxSteps := 10000000) only [Rm12, uc_9_10, uq_4_5, ↓A10, ↓F2562_9, ↓F2580_9, ↓W2576_9, bindI, Option.bind_some, if_true_, and_self, ite_true, true_and, true_or, or_true])
set_option maxRecDepth 100000 in
theorem r40_96 (d : Nat) (x1 s1 : Int) : Ev prog clsT X d mc40 96 [(2, 9), (0, x1)] [(0, s1), (2, 9)] (mk E c s (hh g)) =
  (if cmpI .lt s1 0 = true then
  (some ((3, 0), ((mk E c s (hh (up g 9 6 4))))))
else
  (some ((3, 0), ((mk E c s (hh (up g 9 6 3))))))) :=
  (evk_at (r := (if cmpI .lt s1 0 = true then
  ((fput 2584 ((mk E c s (hh g))) 9 4).bind fun M1 =>
    some ((3, 0), M1))
else
  ((fput 2584 ((mk E c s (hh g))) 9 3).bind fun M2 =>
    some ((3, 0), M2)))) X [0, 11, 34, 63, 64, 80, 81, 96] 6 rfl).trans (by simp (maxSteps := 10000000) only [↓W2584_9, bindI, Option.bind_some, if_true_, and_self, ite_true, true_and, true_or, or_true])
set_option maxRecDepth 100000 in
theorem r41_0 (d : Nat) : Ev prog clsT X d mc41 0 [(2, 9), (3, 0)] [] (mk E c s (hh g)) =
  (Ev prog clsT X d mc41 3 [(2, 9), (0, (g 9 5))] [] (mk E c s (hh g))) :=
  (evk_at (r := ((fget 2580 ((mk E c s (hh g))) 9).bind fun v1 =>
  Ev prog clsT X d mc41 3 [(2, 9), (0, v1)] [] (mk E c s (hh g)))) X [0, 3] 5 rfl).trans (by simp (maxSteps := 10000000) only [↓F2580_9, bindI, Option.bind_some, if_true_, and_self, ite_true, true_and, true_or, or_true])
set_option maxRecDepth 100000 in
theorem rc41_ (d : Nat) : Call prog clsT X (d + 1) 41 [(2, 9)] (mk E c s (hh g)) =
  (Ev prog clsT X d mc41 3 [(2, 9), (0, (g 9 5))] [] (mk E c s (hh g))) :=
  (show Call prog clsT X (d + 1) 41 [(2, 9)] (mk E c s (hh g)) = Ev prog clsT X d mc41 0 [(2, 9), (3, 0)] [] (mk E c s (hh g)) from rfl).trans (r41_0 X E c s g d  )
set_option maxRecDepth 100000 in
theorem r41_3 (d : Nat) (x1 : Int) : Ev prog clsT X d mc41 3 [(2, 9), (0, x1)] [] (mk E c s (hh g)) =
  (if cmpI .ge x1 ((g 9 1)) = true then
  (if cmpI .gt ((w32 (((g 9 4)) - ((g 9 5))))) 8 = true then
    (some ((3, 0), ((mk E c s (hh (up g 9 6 4))))))
  else
    (some ((3, 0), ((mk E c s (hh (up g 9 6 1)))))))
else
  (if inb x1 1000 = true then
    (if cmpI .lt ((g 10 (Int.toNat x1))) 97 = true then
    (if cmpI .gt ((w32 (((g 9 4)) - ((g 9 5))))) 8 = true then
      (some ((3, 0), ((mk E c s (hh (up g 9 6 4))))))
    else
      (some ((3, 0), ((mk E c s (hh (up g 9 6 1)))))))
  else
    (if inb x1 1000 = true then
      (if cmpI .gt ((g 10 (Int.toNat x1))) 122 = true then
      (if cmpI .gt ((w32 (((g 9 4)) - ((g 9 5))))) 8 = true then
        (some ((3, 0), ((mk E c s (hh (up g 9 6 4))))))
      else
        (some ((3, 0), ((mk E c s (hh (up g 9 6 1)))))))
    else
      (Ev prog clsT X d mc41 3 [(2, 9), (0, (w32 (x1 + 1)))] [] (mk E c s (hh (up g 9 4 ((w32 (x1 + 1))))))))
    else none))
  else none)) :=
  (evk_at (r := ((fget 2564 ((mk E c s (hh g))) 9).bind fun v1 =>
  if cmpI .ge x1 v1 = true then
  ((fget 2576 ((mk E c s (hh g))) 9).bind fun v2 =>
    (fget 2580 ((mk E c s (hh g))) 9).bind fun v3 =>
    if cmpI .gt ((w32 (v2 - v3))) 8 = true then
    ((fput 2584 ((mk E c s (hh g))) 9 4).bind fun M4 =>
      some ((3, 0), M4))
  else
    ((fput 2584 ((mk E c s (hh g))) 9 1).bind fun M5 =>
      some ((3, 0), M5)))
else
  ((fget 2562 ((mk E c s (hh g))) 9).bind fun v6 =>
    (aget X 103 ((mk E c s (hh g))) v6 x1).bind fun v7 =>
    if cmpI .lt v7 97 = true then
    ((fget 2576 ((mk E c s (hh g))) 9).bind fun v8 =>
      (fget 2580 ((mk E c s (hh g))) 9).bind fun v9 =>
      if cmpI .gt ((w32 (v8 - v9))) 8 = true then
      ((fput 2584 ((mk E c s (hh g))) 9 4).bind fun M10 =>
        some ((3, 0), M10))
    else
      ((fput 2584 ((mk E c s (hh g))) 9 1).bind fun M11 =>
        some ((3, 0), M11)))
  else
    ((fget 2562 ((mk E c s (hh g))) 9).bind fun v12 =>
      (aget X 103 ((mk E c s (hh g))) v12 x1).bind fun v13 =>
      if cmpI .gt v13 122 = true then
      ((fget 2576 ((mk E c s (hh g))) 9).bind fun v14 =>
        (fget 2580 ((mk E c s (hh g))) 9).bind fun v15 =>
        if cmpI .gt ((w32 (v14 - v15))) 8 = true then
        ((fput 2584 ((mk E c s (hh g))) 9 4).bind fun M16 =>
          some ((3, 0), M16))
      else
        ((fput 2584 ((mk E c s (hh g))) 9 1).bind fun M17 =>
          some ((3, 0), M17)))
    else
      ((fput 2576 ((mk E c s (hh g))) 9 ((w32 (x1 + 1)))).bind fun M18 =>
        Ev prog clsT X d mc41 3 [(2, 9), (0, (w32 (x1 + 1)))] [] M18))))) X [0, 3] 29 rfl).trans (by simp (maxSteps := 10000000) only [↓A10, ↓F2562_9, ↓F2564_9, ↓F2576_9, ↓F2580_9, ↓W2576_9, ↓W2584_9, bindI, Option.bind_some, if_true_, and_self, ite_true, true_and, true_or, or_true])
set_option maxRecDepth 100000 in
theorem r42_0 (d : Nat) : Ev prog clsT X d mc42 0 [(2, 9), (3, 0)] [] (mk E c s (hh g)) =
  (Ev prog clsT X d mc42 6 [(2, 9), (0, (g 9 5))] [] (mk E c s (hh (up g 9 7 0)))) :=
  (evk_at (r := ((fput 2588 ((mk E c s (hh g))) 9 0).bind fun M1 =>
  (fget 2580 M1 9).bind fun v2 =>
  Ev prog clsT X d mc42 6 [(2, 9), (0, v2)] [] M1)) X [0, 6] 8 rfl).trans (by simp (maxSteps := 10000000) only [uq_7_5, ↓F2580_9, ↓W2588_9, bindI, Option.bind_some, if_true_, and_self, ite_true, true_and, true_or, or_true])
set_option maxRecDepth 100000 in
theorem rc42_ (d : Nat) : Call prog clsT X (d + 1) 42 [(2, 9)] (mk E c s (hh g)) =
  (Ev prog clsT X d mc42 6 [(2, 9), (0, (g 9 5))] [] (mk E c s (hh (up g 9 7 0)))) :=
  (show Call prog clsT X (d + 1) 42 [(2, 9)] (mk E c s (hh g)) = Ev prog clsT X d mc42 0 [(2, 9), (3, 0)] [] (mk E c s (hh g)) from rfl).trans (r42_0 X E c s g d  )
set_option maxRecDepth 100000 in
theorem r42_6 (d : Nat) (x1 : Int) : Ev prog clsT X d mc42 6 [(2, 9), (0, x1)] [] (mk E c s (hh g)) =
  (if cmpI .ge x1 ((g 9 1)) = true then
  (if cmpI .gt ((w32 (((g 9 4)) - ((g 9 5))))) 4 = true then
    (some ((3, 0), ((mk E c s (hh (up g 9 6 4))))))
  else
    (some ((3, 0), ((mk E c s (hh (up g 9 6 2)))))))
else
  (if inb x1 1000 = true then
    (if cmpI .lt ((g 10 (Int.toNat x1))) 48 = true then
    (if cmpI .gt ((w32 (((g 9 4)) - ((g 9 5))))) 4 = true then
      (some ((3, 0), ((mk E c s (hh (up g 9 6 4))))))
    else
      (some ((3, 0), ((mk E c s (hh (up g 9 6 2)))))))
  else
    (if inb x1 1000 = true then
      (if cmpI .gt ((g 10 (Int.toNat x1))) 57 = true then
      (if cmpI .gt ((w32 (((g 9 4)) - ((g 9 5))))) 4 = true then
        (some ((3, 0), ((mk E c s (hh (up g 9 6 4))))))
      else
        (some ((3, 0), ((mk E c s (hh (up g 9 6 2)))))))
    else
      (if inb x1 1000 = true then
        (Ev prog clsT X d mc42 6 [(2, 9), (0, (w32 (x1 + 1)))] [] (mk E c s (hh (up (up g 9 7 ((w32 (((w32 (((g 9 7)) * 10))) + ((w32 (((g 10 (Int.toNat x1))) - 48))))))) 9 4 ((w32 (x1 + 1)))))))
      else none))
    else none))
  else none)) :=
  (evk_at (r := ((fget 2564 ((mk E c s (hh g))) 9).bind fun v1 =>
  if cmpI .ge x1 v1 = true then
  ((fget 2576 ((mk E c s (hh g))) 9).bind fun v2 =>
    (fget 2580 ((mk E c s (hh g))) 9).bind fun v3 =>
    if cmpI .gt ((w32 (v2 - v3))) 4 = true then
    ((fput 2584 ((mk E c s (hh g))) 9 4).bind fun M4 =>
      some ((3, 0), M4))
  else
    ((fput 2584 ((mk E c s (hh g))) 9 2).bind fun M5 =>
      some ((3, 0), M5)))
else
  ((fget 2562 ((mk E c s (hh g))) 9).bind fun v6 =>
    (aget X 103 ((mk E c s (hh g))) v6 x1).bind fun v7 =>
    if cmpI .lt v7 48 = true then
    ((fget 2576 ((mk E c s (hh g))) 9).bind fun v8 =>
      (fget 2580 ((mk E c s (hh g))) 9).bind fun v9 =>
      if cmpI .gt ((w32 (v8 - v9))) 4 = true then
      ((fput 2584 ((mk E c s (hh g))) 9 4).bind fun M10 =>
        some ((3, 0), M10))
    else
      ((fput 2584 ((mk E c s (hh g))) 9 2).bind fun M11 =>
        some ((3, 0), M11)))
  else
    ((fget 2562 ((mk E c s (hh g))) 9).bind fun v12 =>
      (aget X 103 ((mk E c s (hh g))) v12 x1).bind fun v13 =>
      if cmpI .gt v13 57 = true then
      ((fget 2576 ((mk E c s (hh g))) 9).bind fun v14 =>
        (fget 2580 ((mk E c s (hh g))) 9).bind fun v15 =>
        if cmpI .gt ((w32 (v14 - v15))) 4 = true then
        ((fput 2584 ((mk E c s (hh g))) 9 4).bind fun M16 =>
          some ((3, 0), M16))
      else
        ((fput 2584 ((mk E c s (hh g))) 9 2).bind fun M17 =>
          some ((3, 0), M17)))
    else
      ((fget 2588 ((mk E c s (hh g))) 9).bind fun v18 =>
        (fget 2562 ((mk E c s (hh g))) 9).bind fun v19 =>
        (aget X 103 ((mk E c s (hh g))) v19 x1).bind fun v20 =>
        (fput 2588 ((mk E c s (hh g))) 9 ((w32 (((w32 (v18 * 10))) + ((w32 (v20 - 48))))))).bind fun M21 =>
        (fput 2576 M21 9 ((w32 (x1 + 1)))).bind fun M22 =>
        Ev prog clsT X d mc42 6 [(2, 9), (0, (w32 (x1 + 1)))] [] M22))))) X [0, 6] 38 rfl).trans (by simp (maxSteps := 10000000) only [↓A10, ↓F2562_9, ↓F2564_9, ↓F2576_9, ↓F2580_9, ↓F2588_9, ↓W2576_9, ↓W2584_9, ↓W2588_9, bindI, Option.bind_some, if_true_, and_self, ite_true, true_and, true_or, or_true])
set_option maxRecDepth 100000 in
theorem r43_0 (d : Nat) (x1 : Int) : Ev prog clsT X d mc43 0 [(2, 9), (0, x1), (3, 0), (3, 0)] [] (mk E c s (hh g)) =
  ((Call prog clsT X d 44 [(2, 9), (2, (-13))] ((mk E c s (hh g)))).bind fun r1 => if r1.1.1 = 4 then none else
  Ev prog clsT X d mc43 3 [(2, 9), (0, x1), (3, 0), (3, 0)] (pushR r1.1 []) r1.2) :=
  (evk_at (r := (if (2 : Nat) = 2 ∧ rcv ((mk E c s (hh g))) 9 6 = true then
  ((Call prog clsT X d 44 [(2, 9), (2, (-13))] ((mk E c s (hh g)))).bind fun r1 => if r1.1.1 = 4 then none else
  Ev prog clsT X d mc43 3 [(2, 9), (0, x1), (3, 0), (3, 0)] (pushR r1.1 []) r1.2) else none)) X [0, 3, 18, 23, 29, 41, 46, 49, 53, 56] 4 rfl).trans (by simp (maxSteps := 10000000) only [R9_6, bindI, Option.bind_some, if_true_, and_self, ite_true, true_and, true_or, or_true])
set_option maxRecDepth 100000 in
theorem rc43_ (d : Nat) (x1 : Int) : Call prog clsT X (d + 1) 43 [(2, 9), (0, x1)] (mk E c s (hh g)) =
  ((Call prog clsT X d 44 [(2, 9), (2, (-13))] ((mk E c s (hh g)))).bind fun r1 => if r1.1.1 = 4 then none else
  Ev prog clsT X d mc43 3 [(2, 9), (0, x1), (3, 0), (3, 0)] (pushR r1.1 []) r1.2) :=
  (show Call prog clsT X (d + 1) 43 [(2, 9), (0, x1)] (mk E c s (hh g)) = Ev prog clsT X d mc43 0 [(2, 9), (0, x1), (3, 0), (3, 0)] [] (mk E c s (hh g)) from rfl).trans (r43_0 X E c s g d x1 )
set_option maxRecDepth 100000 in
theorem r43_3 (d : Nat) (x1 s0 : Int) : Ev prog clsT X d mc43 3 [(2, 9), (0, x1), (3, 0), (3, 0)] [(0, s0)] (mk E c s (hh g)) =
  (if cmpI .eq s0 ((-1)) = true then
  ((Call prog clsT X d 46 [(2, 9), (0, 1)] ((mk E c s (hh g)))).bind fun r1 => if r1.1.1 = 4 then none else
    Ev prog clsT X d mc43 18 [(2, 9), (0, x1), (0, s0), (3, 0)] (pushR r1.1 []) r1.2)
else
  ((aget X 100 ((mk E c s (hh g))) ((-3)) s0).bind fun v2 =>
    if cmpI .ne ((iand32 ((ishr32 v2 x1)) 1)) 0 = true then
    (if cmpI .ne s0 0 = true then
      (if cmpI .ne s0 1 = true then
        ((aget X 100 ((mk E c s (hh g))) ((-4)) s0).bind fun v3 =>
          if cmpI .ne x1 2 = true then
          ((Call prog clsT X d 52 [(2, 9), (0, v3), (0, 0)] ((mk E c s (hh g)))).bind fun r4 => if r4.1.1 = 4 then none else
            Ev prog clsT X d mc43 41 [(2, 9), (0, x1), (0, s0), (3, 0)] (pushR r4.1 []) r4.2)
        else
          ((Call prog clsT X d 52 [(2, 9), (0, v3), (0, 1)] ((mk E c s (hh g)))).bind fun r5 => if r5.1.1 = 4 then none else
            Ev prog clsT X d mc43 41 [(2, 9), (0, x1), (0, s0), (3, 0)] (pushR r5.1 []) r5.2))
      else
        ((Call prog clsT X d 51 [(2, 9)] ((mk E c s (hh g)))).bind fun r6 => if r6.1.1 = 4 then none else
          Ev prog clsT X d mc43 29 [(2, 9), (0, x1), (0, s0), (3, 0)] (pushR r6.1 []) r6.2))
    else
      ((Call prog clsT X d 47 [(2, 9)] ((mk E c s (hh g)))).bind fun r7 => if r7.1.1 = 4 then none else
        Ev prog clsT X d mc43 23 [(2, 9), (0, x1), (0, s0), (3, 0)] (pushR r7.1 []) r7.2))
  else
    ((Call prog clsT X d 46 [(2, 9), (0, 1)] ((mk E c s (hh g)))).bind fun r8 => if r8.1.1 = 4 then none else
      Ev prog clsT X d mc43 18 [(2, 9), (0, x1), (0, s0), (3, 0)] (pushR r8.1 []) r8.2))) :=
  (evk_at (r := (if cmpI .eq s0 ((-1)) = true then
  (if (2 : Nat) = 2 ∧ rcv ((mk E c s (hh g))) 9 6 = true then
    ((Call prog clsT X d 46 [(2, 9), (0, 1)] ((mk E c s (hh g)))).bind fun r1 => if r1.1.1 = 4 then none else
    Ev prog clsT X d mc43 18 [(2, 9), (0, x1), (0, s0), (3, 0)] (pushR r1.1 []) r1.2) else none)
else
  ((aget X 100 ((mk E c s (hh g))) ((-3)) s0).bind fun v2 =>
    if cmpI .ne ((iand32 ((ishr32 v2 x1)) 1)) 0 = true then
    (if cmpI .ne s0 0 = true then
      (if cmpI .ne s0 1 = true then
        ((aget X 100 ((mk E c s (hh g))) ((-4)) s0).bind fun v3 =>
          if cmpI .ne x1 2 = true then
          (if (2 : Nat) = 2 ∧ rcv ((mk E c s (hh g))) 9 6 = true then
            ((Call prog clsT X d 52 [(2, 9), (0, v3), (0, 0)] ((mk E c s (hh g)))).bind fun r4 => if r4.1.1 = 4 then none else
            Ev prog clsT X d mc43 41 [(2, 9), (0, x1), (0, s0), (3, 0)] (pushR r4.1 []) r4.2) else none)
        else
          (if (2 : Nat) = 2 ∧ rcv ((mk E c s (hh g))) 9 6 = true then
            ((Call prog clsT X d 52 [(2, 9), (0, v3), (0, 1)] ((mk E c s (hh g)))).bind fun r5 => if r5.1.1 = 4 then none else
            Ev prog clsT X d mc43 41 [(2, 9), (0, x1), (0, s0), (3, 0)] (pushR r5.1 []) r5.2) else none))
      else
        (if (2 : Nat) = 2 ∧ rcv ((mk E c s (hh g))) 9 6 = true then
          ((Call prog clsT X d 51 [(2, 9)] ((mk E c s (hh g)))).bind fun r6 => if r6.1.1 = 4 then none else
          Ev prog clsT X d mc43 29 [(2, 9), (0, x1), (0, s0), (3, 0)] (pushR r6.1 []) r6.2) else none))
    else
      (if (2 : Nat) = 2 ∧ rcv ((mk E c s (hh g))) 9 6 = true then
        ((Call prog clsT X d 47 [(2, 9)] ((mk E c s (hh g)))).bind fun r7 => if r7.1.1 = 4 then none else
        Ev prog clsT X d mc43 23 [(2, 9), (0, x1), (0, s0), (3, 0)] (pushR r7.1 []) r7.2) else none))
  else
    (if (2 : Nat) = 2 ∧ rcv ((mk E c s (hh g))) 9 6 = true then
      ((Call prog clsT X d 46 [(2, 9), (0, 1)] ((mk E c s (hh g)))).bind fun r8 => if r8.1.1 = 4 then none else
      Ev prog clsT X d mc43 18 [(2, 9), (0, x1), (0, s0), (3, 0)] (pushR r8.1 []) r8.2) else none)))) X [0, 3, 18, 23, 29, 41, 46, 49, 53, 56] 28 rfl).trans (by simp (maxSteps := 10000000) only [R9_6, bindI, Option.bind_some, if_true_, and_self, ite_true, true_and, true_or, or_true])
set_option maxRecDepth 100000 in
theorem r43_18 (d : Nat) (x1 x2 : Int) : Ev prog clsT X d mc43 18 [(2, 9), (0, x1), (0, x2), (3, 0)] [] (mk E c s (hh g)) =
  (some ((3, 0), ((mk E c s (hh g))))) :=
  (evk_at (r := (some ((3, 0), (mk E c s (hh g))))) X [0, 3, 18, 23, 29, 41, 46, 49, 53, 56] 2 rfl).trans (by simp (maxSteps := 10000000) only [bindI, Option.bind_some, if_true_, and_self, ite_true, true_and, true_or, or_true])
set_option maxRecDepth 100000 in
theorem r43_23 (d : Nat) (x1 x2 : Int) : Ev prog clsT X d mc43 23 [(2, 9), (0, x1), (0, x2), (3, 0)] [] (mk E c s (hh g)) =
  (Ev prog clsT X d mc43 53 [(2, 9), (0, x1), (0, x2), (3, 0)] [] (mk E c s (hh g))) :=
  evk_at X [0, 3, 18, 23, 29, 41, 46, 49, 53, 56] 3 rfl
set_option maxRecDepth 100000 in
theorem r43_29 (d : Nat) (x1 x2 s0 : Int) : Ev prog clsT X d mc43 29 [(2, 9), (0, x1), (0, x2), (3, 0)] [(0, s0)] (mk E c s (hh g)) =
  (Ev prog clsT X d mc43 41 [(2, 9), (0, x1), (0, x2), (3, 0)] [(0, s0)] (mk E c s (hh g))) :=
  evk_at X [0, 3, 18, 23, 29, 41, 46, 49, 53, 56] 3 rfl
set_option maxRecDepth 100000 in
theorem r43_41 (d : Nat) (x1 x2 s0 : Int) : Ev prog clsT X d mc43 41 [(2, 9), (0, x1), (0, x2), (3, 0)] [(0, s0)] (mk E c s (hh g)) =
  (if (2 : Nat) = 2 ∧ rcv ((mk E c s (hh g))) ((g 9 2)) 8 = true then
  ((Call prog clsT X d 67 [(2, (g 9 2)), (0, s0)] ((mk E c s (hh g)))).bind fun r1 => if r1.1.1 = 4 then none else
  Ev prog clsT X d mc43 46 [(2, 9), (0, x1), (0, x2), (0, s0)] (pushR r1.1 []) r1.2) else none) :=
  (evk_at (r := ((fget 2570 ((mk E c s (hh g))) 9).bind fun v1 =>
  if (2 : Nat) = 2 ∧ rcv ((mk E c s (hh g))) v1 8 = true then
  ((Call prog clsT X d 67 [(2, v1), (0, s0)] ((mk E c s (hh g)))).bind fun r2 => if r2.1.1 = 4 then none else
  Ev prog clsT X d mc43 46 [(2, 9), (0, x1), (0, x2), (0, s0)] (pushR r2.1 []) r2.2) else none)) X [0, 3, 18, 23, 29, 41, 46, 49, 53, 56] 6 rfl).trans (by simp (maxSteps := 10000000) only [↓F2570_9, bindI, Option.bind_some, if_true_, and_self, ite_true, true_and, true_or, or_true])
set_option maxRecDepth 100000 in
theorem r43_46 (d : Nat) (x1 x2 x3 : Int) : Ev prog clsT X d mc43 46 [(2, 9), (0, x1), (0, x2), (0, x3)] [] (mk E c s (hh g)) =
  ((Call prog clsT X d 53 [(2, 9), (0, 0)] ((mk E c s (hh g)))).bind fun r1 => if r1.1.1 = 4 then none else
  Ev prog clsT X d mc43 49 [(2, 9), (0, x1), (0, x2), (0, x3)] (pushR r1.1 []) r1.2) :=
  (evk_at (r := (if (2 : Nat) = 2 ∧ rcv ((mk E c s (hh g))) 9 6 = true then
  ((Call prog clsT X d 53 [(2, 9), (0, 0)] ((mk E c s (hh g)))).bind fun r1 => if r1.1.1 = 4 then none else
  Ev prog clsT X d mc43 49 [(2, 9), (0, x1), (0, x2), (0, x3)] (pushR r1.1 []) r1.2) else none)) X [0, 3, 18, 23, 29, 41, 46, 49, 53, 56] 4 rfl).trans (by simp (maxSteps := 10000000) only [R9_6, bindI, Option.bind_some, if_true_, and_self, ite_true, true_and, true_or, or_true])
set_option maxRecDepth 100000 in
theorem r43_49 (d : Nat) (x1 x2 x3 : Int) : Ev prog clsT X d mc43 49 [(2, 9), (0, x1), (0, x2), (0, x3)] [] (mk E c s (hh g)) =
  (if (2 : Nat) = 2 ∧ rcv ((mk E c s (hh g))) ((g 9 2)) 8 = true then
  ((Call prog clsT X d 69 [(2, (g 9 2)), (0, x3)] ((mk E c s (hh g)))).bind fun r1 => if r1.1.1 = 4 then none else
  Ev prog clsT X d mc43 53 [(2, 9), (0, x1), (0, x2), (0, x3)] (pushR r1.1 []) r1.2) else none) :=
  (evk_at (r := ((fget 2570 ((mk E c s (hh g))) 9).bind fun v1 =>
  if (2 : Nat) = 2 ∧ rcv ((mk E c s (hh g))) v1 8 = true then
  ((Call prog clsT X d 69 [(2, v1), (0, x3)] ((mk E c s (hh g)))).bind fun r2 => if r2.1.1 = 4 then none else
  Ev prog clsT X d mc43 53 [(2, 9), (0, x1), (0, x2), (0, x3)] (pushR r2.1 []) r2.2) else none)) X [0, 3, 18, 23, 29, 41, 46, 49, 53, 56] 5 rfl).trans (by simp (maxSteps := 10000000) only [↓F2570_9, bindI, Option.bind_some, if_true_, and_self, ite_true, true_and, true_or, or_true])
set_option maxRecDepth 100000 in
theorem r43_53 (d : Nat) (x1 x2 : Int) (w3 : MV) : Ev prog clsT X d mc43 53 [(2, 9), (0, x1), (0, x2), w3] [] (mk E c s (hh g)) =
  ((Call prog clsT X d 59 [(2, 9), (0, 59)] ((mk E c s (hh g)))).bind fun r1 => if r1.1.1 = 4 then none else
  Ev prog clsT X d mc43 56 [(2, 9), (0, x1), (0, x2), w3] (pushR r1.1 []) r1.2) :=
  (evk_at (r := (if (2 : Nat) = 2 ∧ rcv ((mk E c s (hh g))) 9 6 = true then
  ((Call prog clsT X d 59 [(2, 9), (0, 59)] ((mk E c s (hh g)))).bind fun r1 => if r1.1.1 = 4 then none else
  Ev prog clsT X d mc43 56 [(2, 9), (0, x1), (0, x2), w3] (pushR r1.1 []) r1.2) else none)) X [0, 3, 18, 23, 29, 41, 46, 49, 53, 56] 4 rfl).trans (by simp (maxSteps := 10000000) only [R9_6, bindI, Option.bind_some, if_true_, and_self, ite_true, true_and, true_or, or_true])
set_option maxRecDepth 100000 in
theorem r43_56 (d : Nat) (x1 x2 : Int) (w3 : MV) : Ev prog clsT X d mc43 56 [(2, 9), (0, x1), (0, x2), w3] [] (mk E c s (hh g)) =
  (some ((3, 0), ((mk E c s (hh g))))) :=
  (evk_at (r := (some ((3, 0), (mk E c s (hh g))))) X [0, 3, 18, 23, 29, 41, 46, 49, 53, 56] 2 rfl).trans (by simp (maxSteps := 10000000) only [bindI, Option.bind_some, if_true_, and_self, ite_true, true_and, true_or, or_true])
set_option maxRecDepth 100000 in
theorem r44_0 (d : Nat) (x1 : Int) : Ev prog clsT X d mc44 0 [(2, 9), (2, x1), (3, 0), (3, 0), (3, 0), (3, 0)] [] (mk E c s (hh g)) =
  (if cmpI .eq ((g 9 6)) 1 = true then
  (Ev prog clsT X d mc44 8 [(2, 9), (2, x1), (0, 0), (3, 0), (3, 0), (3, 0)] [] (mk E c s (hh g)))
else
  (some ((0, (-1)), ((mk E c s (hh g)))))) :=
  (evk_at (r := ((fget 2584 ((mk E c s (hh g))) 9).bind fun v1 =>
  if cmpI .eq v1 1 = true then
  (Ev prog clsT X d mc44 8 [(2, 9), (2, x1), (0, 0), (3, 0), (3, 0), (3, 0)] [] (mk E c s (hh g)))
else
  (some ((0, (-1)), (mk E c s (hh g)))))) X [0, 8, 15, 24, 32, 42] 8 rfl).trans (by simp (maxSteps := 10000000) only [↓F2584_9, bindI, Option.bind_some, if_true_, and_self, ite_true, true_and, true_or, or_true])
set_option maxRecDepth 100000 in
theorem rc44_ (d : Nat) (x1 : Int) : Call prog clsT X (d + 1) 44 [(2, 9), (2, x1)] (mk E c s (hh g)) =
  (if cmpI .eq ((g 9 6)) 1 = true then
  (Ev prog clsT X d mc44 8 [(2, 9), (2, x1), (0, 0), (3, 0), (3, 0), (3, 0)] [] (mk E c s (hh g)))
else
  (some ((0, (-1)), ((mk E c s (hh g)))))) :=
  (show Call prog clsT X (d + 1) 44 [(2, 9), (2, x1)] (mk E c s (hh g)) = Ev prog clsT X d mc44 0 [(2, 9), (2, x1), (3, 0), (3, 0), (3, 0), (3, 0)] [] (mk E c s (hh g)) from rfl).trans (r44_0 X E c s g d x1 )
set_option maxRecDepth 100000 in
theorem r44_8 (d : Nat) (x1 x2 : Int) (w3 w4 w5 : MV) : Ev prog clsT X d mc44 8 [(2, 9), (2, x1), (0, x2), w3, w4, w5] [] (mk E c s (hh g)) =
  (if (2 : Nat) = 2 ∧ rcv ((mk E c s (hh g))) x1 14 = true then
  ((Call prog clsT X d 252 [(2, x1)] ((mk E c s (hh g)))).bind fun r1 => if r1.1.1 = 4 then none else
  Ev prog clsT X d mc44 15 [(2, 9), (2, x1), (0, x2), (3, 0), (3, 0), (3, 0)] (pushR r1.1 [(0, (w32 (((w32 (x2 + 1))) * 8)))]) r1.2) else none) :=
  evk_at X [0, 8, 15, 24, 32, 42] 8 rfl
set_option maxRecDepth 100000 in
theorem r44_15 (d : Nat) (x1 x2 s0 s1 : Int) : Ev prog clsT X d mc44 15 [(2, 9), (2, x1), (0, x2), (3, 0), (3, 0), (3, 0)] [(0, s1), (0, s0)] (mk E c s (hh g)) =
  (if cmpI .gt s0 s1 = true then
  (some ((0, (-1)), ((mk E c s (hh g)))))
else
  (Ev prog clsT X d mc44 24 [(2, 9), (2, x1), (0, x2), (0, (w32 (x2 * 8))), (0, (w32 (x2 * 8))), (0, 0)] [] (mk E c s (hh g)))) :=
  (evk_at (r := (if cmpI .gt s0 s1 = true then
  (some ((0, (-1)), (mk E c s (hh g))))
else
  (Ev prog clsT X d mc44 24 [(2, 9), (2, x1), (0, x2), (0, (w32 (x2 * 8))), (0, (w32 (x2 * 8))), (0, 0)] [] (mk E c s (hh g))))) X [0, 8, 15, 24, 32, 42] 11 rfl).trans (by simp (maxSteps := 10000000) only [bindI, Option.bind_some, if_true_, and_self, ite_true, true_and, true_or, or_true])
set_option maxRecDepth 100000 in
theorem r44_24 (d : Nat) (x1 x2 x3 x4 x5 : Int) : Ev prog clsT X d mc44 24 [(2, 9), (2, x1), (0, x2), (0, x3), (0, x4), (0, x5)] [] (mk E c s (hh g)) =
  (if cmpI .ge x5 8 = true then
  ((Call prog clsT X d 45 [(2, 9), (2, x1), (0, x3), (0, x4)] ((mk E c s (hh g)))).bind fun r1 => if r1.1.1 = 4 then none else
    Ev prog clsT X d mc44 42 [(2, 9), (2, x1), (0, x2), (0, x3), (0, x4), (0, x5)] (pushR r1.1 []) r1.2)
else
  (if (2 : Nat) = 2 ∧ rcv ((mk E c s (hh g))) x1 14 = true then
    ((Call prog clsT X d 254 [(2, x1), (0, (w32 (x3 + x5)))] ((mk E c s (hh g)))).bind fun r2 => if r2.1.1 = 4 then none else
    Ev prog clsT X d mc44 32 [(2, 9), (2, x1), (0, x2), (0, x3), (0, x4), (0, x5)] (pushR r2.1 []) r2.2) else none)) :=
  (evk_at (r := (if cmpI .ge x5 8 = true then
  (if (2 : Nat) = 2 ∧ rcv ((mk E c s (hh g))) 9 6 = true then
    ((Call prog clsT X d 45 [(2, 9), (2, x1), (0, x3), (0, x4)] ((mk E c s (hh g)))).bind fun r1 => if r1.1.1 = 4 then none else
    Ev prog clsT X d mc44 42 [(2, 9), (2, x1), (0, x2), (0, x3), (0, x4), (0, x5)] (pushR r1.1 []) r1.2) else none)
else
  (if (2 : Nat) = 2 ∧ rcv ((mk E c s (hh g))) x1 14 = true then
    ((Call prog clsT X d 254 [(2, x1), (0, (w32 (x3 + x5)))] ((mk E c s (hh g)))).bind fun r2 => if r2.1.1 = 4 then none else
    Ev prog clsT X d mc44 32 [(2, 9), (2, x1), (0, x2), (0, x3), (0, x4), (0, x5)] (pushR r2.1 []) r2.2) else none))) X [0, 8, 15, 24, 32, 42] 9 rfl).trans (by simp (maxSteps := 10000000) only [R9_6, bindI, Option.bind_some, if_true_, and_self, ite_true, true_and, true_or, or_true])
set_option maxRecDepth 100000 in
theorem r44_32 (d : Nat) (x1 x2 x3 x4 x5 s0 : Int) : Ev prog clsT X d mc44 32 [(2, 9), (2, x1), (0, x2), (0, x3), (0, x4), (0, x5)] [(0, s0)] (mk E c s (hh g)) =
  (if cmpI .eq s0 32 = true then
  ((Call prog clsT X d 45 [(2, 9), (2, x1), (0, x3), (0, x4)] ((mk E c s (hh g)))).bind fun r1 => if r1.1.1 = 4 then none else
    Ev prog clsT X d mc44 42 [(2, 9), (2, x1), (0, x2), (0, x3), (0, x4), (0, x5)] (pushR r1.1 []) r1.2)
else
  (Ev prog clsT X d mc44 24 [(2, 9), (2, x1), (0, x2), (0, x3), (0, (w32 (x4 + 1))), (0, (w32 (x5 + 1)))] [] (mk E c s (hh g)))) :=
  (evk_at (r := (if cmpI .eq s0 32 = true then
  (if (2 : Nat) = 2 ∧ rcv ((mk E c s (hh g))) 9 6 = true then
    ((Call prog clsT X d 45 [(2, 9), (2, x1), (0, x3), (0, x4)] ((mk E c s (hh g)))).bind fun r1 => if r1.1.1 = 4 then none else
    Ev prog clsT X d mc44 42 [(2, 9), (2, x1), (0, x2), (0, x3), (0, x4), (0, x5)] (pushR r1.1 []) r1.2) else none)
else
  (Ev prog clsT X d mc44 24 [(2, 9), (2, x1), (0, x2), (0, x3), (0, (w32 (x4 + 1))), (0, (w32 (x5 + 1)))] [] (mk E c s (hh g))))) X [0, 8, 15, 24, 32, 42] 8 rfl).trans (by simp (maxSteps := 10000000) only [R9_6, bindI, Option.bind_some, if_true_, and_self, ite_true, true_and, true_or, or_true])
set_option maxRecDepth 100000 in
theorem r44_42 (d : Nat) (x1 x2 x3 x4 x5 s0 : Int) : Ev prog clsT X d mc44 42 [(2, 9), (2, x1), (0, x2), (0, x3), (0, x4), (0, x5)] [(0, s0)] (mk E c s (hh g)) =
  (if cmpI .eq s0 0 = true then
  (Ev prog clsT X d mc44 8 [(2, 9), (2, x1), (0, (w32 (x2 + 1))), (0, x3), (0, x4), (0, x5)] [] (mk E c s (hh g)))
else
  (some ((0, x2), ((mk E c s (hh g)))))) :=
  (evk_at (r := (if cmpI .eq s0 0 = true then
  (Ev prog clsT X d mc44 8 [(2, 9), (2, x1), (0, (w32 (x2 + 1))), (0, x3), (0, x4), (0, x5)] [] (mk E c s (hh g)))
else
  (some ((0, x2), (mk E c s (hh g)))))) X [0, 8, 15, 24, 32, 42] 5 rfl).trans (by simp (maxSteps := 10000000) only [bindI, Option.bind_some, if_true_, and_self, ite_true, true_and, true_or, or_true])
set_option maxRecDepth 100000 in
theorem r45_0 (d : Nat) (x1 x2 x3 : Int) : Ev prog clsT X d mc45 0 [(2, 9), (2, x1), (0, x2), (0, x3), (3, 0)] [] (mk E c s (hh g)) =
  (if cmpI .eq ((w32 (((g 9 4)) - ((g 9 5))))) ((w32 (x3 - x2))) = true then
  (Ev prog clsT X d mc45 13 [(2, 9), (2, x1), (0, x2), (0, x3), (0, x2)] [] (mk E c s (hh g)))
else
  (some ((0, 0), ((mk E c s (hh g)))))) :=
  (evk_at (r := ((fget 2576 ((mk E c s (hh g))) 9).bind fun v1 =>
  (fget 2580 ((mk E c s (hh g))) 9).bind fun v2 =>
  if cmpI .eq ((w32 (v1 - v2))) ((w32 (x3 - x2))) = true then
  (Ev prog clsT X d mc45 13 [(2, 9), (2, x1), (0, x2), (0, x3), (0, x2)] [] (mk E c s (hh g)))
else
  (some ((0, 0), (mk E c s (hh g)))))) X [0, 13, 28] 13 rfl).trans (by simp (maxSteps := 10000000) only [↓F2576_9, ↓F2580_9, bindI, Option.bind_some, if_true_, and_self, ite_true, true_and, true_or, or_true])
set_option maxRecDepth 100000 in
theorem rc45_ (d : Nat) (x1 x2 x3 : Int) : Call prog clsT X (d + 1) 45 [(2, 9), (2, x1), (0, x2), (0, x3)] (mk E c s (hh g)) =
  (if cmpI .eq ((w32 (((g 9 4)) - ((g 9 5))))) ((w32 (x3 - x2))) = true then
  (Ev prog clsT X d mc45 13 [(2, 9), (2, x1), (0, x2), (0, x3), (0, x2)] [] (mk E c s (hh g)))
else
  (some ((0, 0), ((mk E c s (hh g)))))) :=
  (show Call prog clsT X (d + 1) 45 [(2, 9), (2, x1), (0, x2), (0, x3)] (mk E c s (hh g)) = Ev prog clsT X d mc45 0 [(2, 9), (2, x1), (0, x2), (0, x3), (3, 0)] [] (mk E c s (hh g)) from rfl).trans (r45_0 X E c s g d x1 x2 x3 )
set_option maxRecDepth 100000 in
theorem r45_13 (d : Nat) (x1 x2 x3 x4 : Int) : Ev prog clsT X d mc45 13 [(2, 9), (2, x1), (0, x2), (0, x3), (0, x4)] [] (mk E c s (hh g)) =
  (if cmpI .ge x4 x3 = true then
  (some ((0, 1), ((mk E c s (hh g)))))
else
  (if inb ((w32 (((w32 (((g 9 5)) + x4))) - x2))) 1000 = true then
    (if (2 : Nat) = 2 ∧ rcv ((mk E c s (hh g))) x1 14 = true then
    ((Call prog clsT X d 254 [(2, x1), (0, x4)] ((mk E c s (hh g)))).bind fun r1 => if r1.1.1 = 4 then none else
    Ev prog clsT X d mc45 28 [(2, 9), (2, x1), (0, x2), (0, x3), (0, x4)] (pushR r1.1 [(0, (g 10 (Int.toNat ((w32 (((w32 (((g 9 5)) + x4))) - x2))))))]) r1.2) else none)
  else none)) :=
  (evk_at (r := (if cmpI .ge x4 x3 = true then
  (some ((0, 1), (mk E c s (hh g))))
else
  ((fget 2562 ((mk E c s (hh g))) 9).bind fun v1 =>
    (fget 2580 ((mk E c s (hh g))) 9).bind fun v2 =>
    (aget X 103 ((mk E c s (hh g))) v1 ((w32 (((w32 (v2 + x4))) - x2)))).bind fun v3 =>
    if (2 : Nat) = 2 ∧ rcv ((mk E c s (hh g))) x1 14 = true then
    ((Call prog clsT X d 254 [(2, x1), (0, x4)] ((mk E c s (hh g)))).bind fun r4 => if r4.1.1 = 4 then none else
    Ev prog clsT X d mc45 28 [(2, 9), (2, x1), (0, x2), (0, x3), (0, x4)] (pushR r4.1 [(0, v3)]) r4.2) else none))) X [0, 13, 28] 16 rfl).trans (by simp (maxSteps := 10000000) only [↓A10, ↓F2562_9, ↓F2580_9, bindI, Option.bind_some, if_true_, and_self, ite_true, true_and, true_or, or_true])
set_option maxRecDepth 100000 in
theorem r45_28 (d : Nat) (x1 x2 x3 x4 s0 s1 : Int) : Ev prog clsT X d mc45 28 [(2, 9), (2, x1), (0, x2), (0, x3), (0, x4)] [(0, s1), (0, s0)] (mk E c s (hh g)) =
  (if cmpI .eq s0 s1 = true then
  (Ev prog clsT X d mc45 13 [(2, 9), (2, x1), (0, x2), (0, x3), (0, (w32 (x4 + 1)))] [] (mk E c s (hh g)))
else
  (some ((0, 0), ((mk E c s (hh g)))))) :=
  (evk_at (r := (if cmpI .eq s0 s1 = true then
  (Ev prog clsT X d mc45 13 [(2, 9), (2, x1), (0, x2), (0, x3), (0, (w32 (x4 + 1)))] [] (mk E c s (hh g)))
else
  (some ((0, 0), (mk E c s (hh g)))))) X [0, 13, 28] 5 rfl).trans (by simp (maxSteps := 10000000) only [bindI, Option.bind_some, if_true_, and_self, ite_true, true_and, true_or, or_true])
set_option maxRecDepth 100000 in
theorem r46_0 (d : Nat) (x1 : Int) : Ev prog clsT X d mc46 0 [(2, 9), (0, x1)] [] (mk E c s (hh g)) =
  (if cmpI .ne ((g 9 3)) 0 = true then
  (some ((3, 0), ((mk E c s (hh (up g 9 6 4))))))
else
  (some ((3, 0), ((mk E c s (hh (up (up g 9 3 ((w32 (x1 + ((w32 (16 * ((g 9 5))))))))) 9 6 4))))))) :=
  (evk_at (r := ((fget 2572 ((mk E c s (hh g))) 9).bind fun v1 =>
  if cmpI .ne v1 0 = true then
  ((fput 2584 ((mk E c s (hh g))) 9 4).bind fun M2 =>
    some ((3, 0), M2))
else
  ((fget 2580 ((mk E c s (hh g))) 9).bind fun v3 =>
    (fput 2572 ((mk E c s (hh g))) 9 ((w32 (x1 + ((w32 (16 * v3))))))).bind fun M4 =>
    (fput 2584 M4 9 4).bind fun M5 =>
    some ((3, 0), M5)))) X [0] 16 rfl).trans (by simp (maxSteps := 10000000) only [↓F2572_9, ↓F2580_9, ↓W2572_9, ↓W2584_9, bindI, Option.bind_some, if_true_, and_self, ite_true, true_and, true_or, or_true])
set_option maxRecDepth 100000 in
theorem rc46_ (d : Nat) (x1 : Int) : Call prog clsT X (d + 1) 46 [(2, 9), (0, x1)] (mk E c s (hh g)) =
  (if cmpI .ne ((g 9 3)) 0 = true then
  (some ((3, 0), ((mk E c s (hh (up g 9 6 4))))))
else
  (some ((3, 0), ((mk E c s (hh (up (up g 9 3 ((w32 (x1 + ((w32 (16 * ((g 9 5))))))))) 9 6 4))))))) :=
  (show Call prog clsT X (d + 1) 46 [(2, 9), (0, x1)] (mk E c s (hh g)) = Ev prog clsT X d mc46 0 [(2, 9), (0, x1)] [] (mk E c s (hh g)) from rfl).trans (r46_0 X E c s g d x1 )
set_option maxRecDepth 100000 in
theorem r47_0 (d : Nat) : Ev prog clsT X d mc47 0 [(2, 9)] [] (mk E c s (hh g)) =
  ((fget 3584 ((mk E c s (hh g))) ((g 9 2))).bind fun v1 =>
  if cmpI .le v1 0 = true then
  (Ev prog clsT X d mc47 7 [(2, 9)] [] (mk E c s (hh g)))
else
  ((Call prog clsT X d 46 [(2, 9), (0, 3)] ((mk E c s (hh g)))).bind fun r2 => if r2.1.1 = 4 then none else
    Ev prog clsT X d mc47 7 [(2, 9)] (pushR r2.1 []) r2.2)) :=
  (evk_at (r := ((fget 2570 ((mk E c s (hh g))) 9).bind fun v1 =>
  (fget 3584 ((mk E c s (hh g))) v1).bind fun v2 =>
  if cmpI .le v2 0 = true then
  (Ev prog clsT X d mc47 7 [(2, 9)] [] (mk E c s (hh g)))
else
  (if (2 : Nat) = 2 ∧ rcv ((mk E c s (hh g))) 9 6 = true then
    ((Call prog clsT X d 46 [(2, 9), (0, 3)] ((mk E c s (hh g)))).bind fun r3 => if r3.1.1 = 4 then none else
    Ev prog clsT X d mc47 7 [(2, 9)] (pushR r3.1 []) r3.2) else none))) X [0, 7, 9, 15, 19, 25] 8 rfl).trans (by simp (maxSteps := 10000000) only [R9_6, ↓F2570_9, bindI, Option.bind_some, if_true_, and_self, ite_true, true_and, true_or, or_true])
set_option maxRecDepth 100000 in
theorem rc47_ (d : Nat) : Call prog clsT X (d + 1) 47 [(2, 9)] (mk E c s (hh g)) =
  ((fget 3584 ((mk E c s (hh g))) ((g 9 2))).bind fun v1 =>
  if cmpI .le v1 0 = true then
  (Ev prog clsT X d mc47 7 [(2, 9)] [] (mk E c s (hh g)))
else
  ((Call prog clsT X d 46 [(2, 9), (0, 3)] ((mk E c s (hh g)))).bind fun r2 => if r2.1.1 = 4 then none else
    Ev prog clsT X d mc47 7 [(2, 9)] (pushR r2.1 []) r2.2)) :=
  (show Call prog clsT X (d + 1) 47 [(2, 9)] (mk E c s (hh g)) = Ev prog clsT X d mc47 0 [(2, 9)] [] (mk E c s (hh g)) from rfl).trans (r47_0 X E c s g d  )
set_option maxRecDepth 100000 in
theorem r47_7 (d : Nat) : Ev prog clsT X d mc47 7 [(2, 9)] [] (mk E c s (hh g)) =
  ((Call prog clsT X d 40 [(2, 9)] ((mk E c s (hh g)))).bind fun r1 => if r1.1.1 = 4 then none else
  Ev prog clsT X d mc47 9 [(2, 9)] (pushR r1.1 []) r1.2) :=
  (evk_at (r := (if (2 : Nat) = 2 ∧ rcv ((mk E c s (hh g))) 9 6 = true then
  ((Call prog clsT X d 40 [(2, 9)] ((mk E c s (hh g)))).bind fun r1 => if r1.1.1 = 4 then none else
  Ev prog clsT X d mc47 9 [(2, 9)] (pushR r1.1 []) r1.2) else none)) X [0, 7, 9, 15, 19, 25] 3 rfl).trans (by simp (maxSteps := 10000000) only [R9_6, bindI, Option.bind_some, if_true_, and_self, ite_true, true_and, true_or, or_true])
set_option maxRecDepth 100000 in
theorem r47_9 (d : Nat) : Ev prog clsT X d mc47 9 [(2, 9)] [] (mk E c s (hh g)) =
  ((Call prog clsT X d 48 [(2, 9), (0, 1), (0, 8)] ((mk E c s (hh g)))).bind fun r1 => if r1.1.1 = 4 then none else
  Ev prog clsT X d mc47 15 [(2, 9)] (pushR r1.1 [(2, (g 9 2))]) r1.2) :=
  (evk_at (r := ((fget 2570 ((mk E c s (hh g))) 9).bind fun v1 =>
  if (2 : Nat) = 2 ∧ rcv ((mk E c s (hh g))) 9 6 = true then
  ((Call prog clsT X d 48 [(2, 9), (0, 1), (0, 8)] ((mk E c s (hh g)))).bind fun r2 => if r2.1.1 = 4 then none else
  Ev prog clsT X d mc47 15 [(2, 9)] (pushR r2.1 [(2, v1)]) r2.2) else none)) X [0, 7, 9, 15, 19, 25] 7 rfl).trans (by simp (maxSteps := 10000000) only [R9_6, ↓F2570_9, bindI, Option.bind_some, if_true_, and_self, ite_true, true_and, true_or, or_true])
set_option maxRecDepth 100000 in
theorem r47_15 (d : Nat) (s0 s1 : Int) : Ev prog clsT X d mc47 15 [(2, 9)] [(0, s1), (2, s0)] (mk E c s (hh g)) =
  ((fput 3584 ((mk E c s (hh g))) s0 s1).bind fun M1 =>
  if (2 : Nat) = 2 ∧ rcv M1 9 6 = true then
  ((Call prog clsT X d 49 [(2, 9), (2, (-14))] M1).bind fun r2 => if r2.1.1 = 4 then none else
  Ev prog clsT X d mc47 19 [(2, 9)] (pushR r2.1 []) r2.2) else none) :=
  evk_at X [0, 7, 9, 15, 19, 25] 5 rfl
set_option maxRecDepth 100000 in
theorem r47_19 (d : Nat) : Ev prog clsT X d mc47 19 [(2, 9)] [] (mk E c s (hh g)) =
  ((Call prog clsT X d 48 [(2, 9), (0, 0), (0, 9)] ((mk E c s (hh g)))).bind fun r1 => if r1.1.1 = 4 then none else
  Ev prog clsT X d mc47 25 [(2, 9)] (pushR r1.1 [(2, (g 9 2))]) r1.2) :=
  (evk_at (r := ((fget 2570 ((mk E c s (hh g))) 9).bind fun v1 =>
  if (2 : Nat) = 2 ∧ rcv ((mk E c s (hh g))) 9 6 = true then
  ((Call prog clsT X d 48 [(2, 9), (0, 0), (0, 9)] ((mk E c s (hh g)))).bind fun r2 => if r2.1.1 = 4 then none else
  Ev prog clsT X d mc47 25 [(2, 9)] (pushR r2.1 [(2, v1)]) r2.2) else none)) X [0, 7, 9, 15, 19, 25] 7 rfl).trans (by simp (maxSteps := 10000000) only [R9_6, ↓F2570_9, bindI, Option.bind_some, if_true_, and_self, ite_true, true_and, true_or, or_true])
set_option maxRecDepth 100000 in
theorem r47_25 (d : Nat) (s0 s1 : Int) : Ev prog clsT X d mc47 25 [(2, 9)] [(0, s1), (2, s0)] (mk E c s (hh g)) =
  ((fput 3588 ((mk E c s (hh g))) s0 s1).bind fun M1 =>
  some ((3, 0), M1)) :=
  evk_at X [0, 7, 9, 15, 19, 25] 3 rfl
set_option maxRecDepth 100000 in
theorem r48_0 (d : Nat) (x1 x2 : Int) : Ev prog clsT X d mc48 0 [(2, 9), (0, x1), (0, x2), (3, 0)] [] (mk E c s (hh g)) =
  (if cmpI .eq ((g 9 6)) 2 = true then
  ((Call prog clsT X d 90 [(0, (g 9 7)), (0, x1), (0, x2)] ((mk E c s (hh g)))).bind fun r1 => if r1.1.1 = 4 then none else
    Ev prog clsT X d mc48 15 [(2, 9), (0, x1), (0, x2), (0, (g 9 7))] (pushR r1.1 []) r1.2)
else
  ((Call prog clsT X d 46 [(2, 9), (0, 1)] ((mk E c s (hh g)))).bind fun r2 => if r2.1.1 = 4 then none else
    Ev prog clsT X d mc48 10 [(2, 9), (0, x1), (0, x2), (0, (g 9 7))] (pushR r2.1 []) r2.2)) :=
  (evk_at (r := ((fget 2588 ((mk E c s (hh g))) 9).bind fun v1 =>
  (fget 2584 ((mk E c s (hh g))) 9).bind fun v2 =>
  if cmpI .eq v2 2 = true then
  ((Call prog clsT X d 90 [(0, v1), (0, x1), (0, x2)] ((mk E c s (hh g)))).bind fun r3 => if r3.1.1 = 4 then none else
    Ev prog clsT X d mc48 15 [(2, 9), (0, x1), (0, x2), (0, v1)] (pushR r3.1 []) r3.2)
else
  (if (2 : Nat) = 2 ∧ rcv ((mk E c s (hh g))) 9 6 = true then
    ((Call prog clsT X d 46 [(2, 9), (0, 1)] ((mk E c s (hh g)))).bind fun r4 => if r4.1.1 = 4 then none else
    Ev prog clsT X d mc48 10 [(2, 9), (0, x1), (0, x2), (0, v1)] (pushR r4.1 []) r4.2) else none))) X [0, 10, 15, 19, 21] 12 rfl).trans (by simp (maxSteps := 10000000) only [R9_6, ↓F2584_9, ↓F2588_9, bindI, Option.bind_some, if_true_, and_self, ite_true, true_and, true_or, or_true])
set_option maxRecDepth 100000 in
theorem rc48_ (d : Nat) (x1 x2 : Int) : Call prog clsT X (d + 1) 48 [(2, 9), (0, x1), (0, x2)] (mk E c s (hh g)) =
  (if cmpI .eq ((g 9 6)) 2 = true then
  ((Call prog clsT X d 90 [(0, (g 9 7)), (0, x1), (0, x2)] ((mk E c s (hh g)))).bind fun r1 => if r1.1.1 = 4 then none else
    Ev prog clsT X d mc48 15 [(2, 9), (0, x1), (0, x2), (0, (g 9 7))] (pushR r1.1 []) r1.2)
else
  ((Call prog clsT X d 46 [(2, 9), (0, 1)] ((mk E c s (hh g)))).bind fun r2 => if r2.1.1 = 4 then none else
    Ev prog clsT X d mc48 10 [(2, 9), (0, x1), (0, x2), (0, (g 9 7))] (pushR r2.1 []) r2.2)) :=
  (show Call prog clsT X (d + 1) 48 [(2, 9), (0, x1), (0, x2)] (mk E c s (hh g)) = Ev prog clsT X d mc48 0 [(2, 9), (0, x1), (0, x2), (3, 0)] [] (mk E c s (hh g)) from rfl).trans (r48_0 X E c s g d x1 x2 )
set_option maxRecDepth 100000 in
theorem r48_10 (d : Nat) (x1 x2 x3 : Int) : Ev prog clsT X d mc48 10 [(2, 9), (0, x1), (0, x2), (0, x3)] [] (mk E c s (hh g)) =
  (Ev prog clsT X d mc48 19 [(2, 9), (0, x1), (0, x2), (0, x3)] [] (mk E c s (hh g))) :=
  evk_at X [0, 10, 15, 19, 21] 3 rfl
set_option maxRecDepth 100000 in
theorem r48_15 (d : Nat) (x1 x2 x3 s0 : Int) : Ev prog clsT X d mc48 15 [(2, 9), (0, x1), (0, x2), (0, x3)] [(0, s0)] (mk E c s (hh g)) =
  (if cmpI .ne s0 0 = true then
  (Ev prog clsT X d mc48 19 [(2, 9), (0, x1), (0, x2), (0, x3)] [] (mk E c s (hh g)))
else
  ((Call prog clsT X d 46 [(2, 9), (0, 4)] ((mk E c s (hh g)))).bind fun r1 => if r1.1.1 = 4 then none else
    Ev prog clsT X d mc48 19 [(2, 9), (0, x1), (0, x2), (0, x3)] (pushR r1.1 []) r1.2)) :=
  (evk_at (r := (if cmpI .ne s0 0 = true then
  (Ev prog clsT X d mc48 19 [(2, 9), (0, x1), (0, x2), (0, x3)] [] (mk E c s (hh g)))
else
  (if (2 : Nat) = 2 ∧ rcv ((mk E c s (hh g))) 9 6 = true then
    ((Call prog clsT X d 46 [(2, 9), (0, 4)] ((mk E c s (hh g)))).bind fun r1 => if r1.1.1 = 4 then none else
    Ev prog clsT X d mc48 19 [(2, 9), (0, x1), (0, x2), (0, x3)] (pushR r1.1 []) r1.2) else none))) X [0, 10, 15, 19, 21] 5 rfl).trans (by simp (maxSteps := 10000000) only [R9_6, bindI, Option.bind_some, if_true_, and_self, ite_true, true_and, true_or, or_true])
set_option maxRecDepth 100000 in
theorem r48_19 (d : Nat) (x1 x2 x3 : Int) : Ev prog clsT X d mc48 19 [(2, 9), (0, x1), (0, x2), (0, x3)] [] (mk E c s (hh g)) =
  ((Call prog clsT X d 40 [(2, 9)] ((mk E c s (hh g)))).bind fun r1 => if r1.1.1 = 4 then none else
  Ev prog clsT X d mc48 21 [(2, 9), (0, x1), (0, x2), (0, x3)] (pushR r1.1 []) r1.2) :=
  (evk_at (r := (if (2 : Nat) = 2 ∧ rcv ((mk E c s (hh g))) 9 6 = true then
  ((Call prog clsT X d 40 [(2, 9)] ((mk E c s (hh g)))).bind fun r1 => if r1.1.1 = 4 then none else
  Ev prog clsT X d mc48 21 [(2, 9), (0, x1), (0, x2), (0, x3)] (pushR r1.1 []) r1.2) else none)) X [0, 10, 15, 19, 21] 3 rfl).trans (by simp (maxSteps := 10000000) only [R9_6, bindI, Option.bind_some, if_true_, and_self, ite_true, true_and, true_or, or_true])
set_option maxRecDepth 100000 in
theorem r48_21 (d : Nat) (x1 x2 x3 : Int) : Ev prog clsT X d mc48 21 [(2, 9), (0, x1), (0, x2), (0, x3)] [] (mk E c s (hh g)) =
  (some ((0, x3), ((mk E c s (hh g))))) :=
  (evk_at (r := (some ((0, x3), (mk E c s (hh g))))) X [0, 10, 15, 19, 21] 3 rfl).trans (by simp (maxSteps := 10000000) only [bindI, Option.bind_some, if_true_, and_self, ite_true, true_and, true_or, or_true])
set_option maxRecDepth 100000 in
theorem r49_0 (d : Nat) (x1 : Int) : Ev prog clsT X d mc49 0 [(2, 9), (2, x1)] [] (mk E c s (hh g)) =
  ((Call prog clsT X d 50 [(2, 9), (2, x1)] ((mk E c s (hh g)))).bind fun r1 => if r1.1.1 = 4 then none else
  Ev prog clsT X d mc49 3 [(2, 9), (2, x1)] (pushR r1.1 []) r1.2) :=
  (evk_at (r := (if (2 : Nat) = 2 ∧ rcv ((mk E c s (hh g))) 9 6 = true then
  ((Call prog clsT X d 50 [(2, 9), (2, x1)] ((mk E c s (hh g)))).bind fun r1 => if r1.1.1 = 4 then none else
  Ev prog clsT X d mc49 3 [(2, 9), (2, x1)] (pushR r1.1 []) r1.2) else none)) X [0, 3, 7, 9] 4 rfl).trans (by simp (maxSteps := 10000000) only [R9_6, bindI, Option.bind_some, if_true_, and_self, ite_true, true_and, true_or, or_true])
set_option maxRecDepth 100000 in
theorem rc49_ (d : Nat) (x1 : Int) : Call prog clsT X (d + 1) 49 [(2, 9), (2, x1)] (mk E c s (hh g)) =
  ((Call prog clsT X d 50 [(2, 9), (2, x1)] ((mk E c s (hh g)))).bind fun r1 => if r1.1.1 = 4 then none else
  Ev prog clsT X d mc49 3 [(2, 9), (2, x1)] (pushR r1.1 []) r1.2) :=
  (show Call prog clsT X (d + 1) 49 [(2, 9), (2, x1)] (mk E c s (hh g)) = Ev prog clsT X d mc49 0 [(2, 9), (2, x1)] [] (mk E c s (hh g)) from rfl).trans (r49_0 X E c s g d x1 )
set_option maxRecDepth 100000 in
theorem r49_3 (d : Nat) (x1 s0 : Int) : Ev prog clsT X d mc49 3 [(2, 9), (2, x1)] [(0, s0)] (mk E c s (hh g)) =
  (if cmpI .ne s0 0 = true then
  (Ev prog clsT X d mc49 7 [(2, 9), (2, x1)] [] (mk E c s (hh g)))
else
  ((Call prog clsT X d 46 [(2, 9), (0, 1)] ((mk E c s (hh g)))).bind fun r1 => if r1.1.1 = 4 then none else
    Ev prog clsT X d mc49 7 [(2, 9), (2, x1)] (pushR r1.1 []) r1.2)) :=
  (evk_at (r := (if cmpI .ne s0 0 = true then
  (Ev prog clsT X d mc49 7 [(2, 9), (2, x1)] [] (mk E c s (hh g)))
else
  (if (2 : Nat) = 2 ∧ rcv ((mk E c s (hh g))) 9 6 = true then
    ((Call prog clsT X d 46 [(2, 9), (0, 1)] ((mk E c s (hh g)))).bind fun r1 => if r1.1.1 = 4 then none else
    Ev prog clsT X d mc49 7 [(2, 9), (2, x1)] (pushR r1.1 []) r1.2) else none))) X [0, 3, 7, 9] 5 rfl).trans (by simp (maxSteps := 10000000) only [R9_6, bindI, Option.bind_some, if_true_, and_self, ite_true, true_and, true_or, or_true])
set_option maxRecDepth 100000 in
theorem r49_7 (d : Nat) (x1 : Int) : Ev prog clsT X d mc49 7 [(2, 9), (2, x1)] [] (mk E c s (hh g)) =
  ((Call prog clsT X d 40 [(2, 9)] ((mk E c s (hh g)))).bind fun r1 => if r1.1.1 = 4 then none else
  Ev prog clsT X d mc49 9 [(2, 9), (2, x1)] (pushR r1.1 []) r1.2) :=
  (evk_at (r := (if (2 : Nat) = 2 ∧ rcv ((mk E c s (hh g))) 9 6 = true then
  ((Call prog clsT X d 40 [(2, 9)] ((mk E c s (hh g)))).bind fun r1 => if r1.1.1 = 4 then none else
  Ev prog clsT X d mc49 9 [(2, 9), (2, x1)] (pushR r1.1 []) r1.2) else none)) X [0, 3, 7, 9] 3 rfl).trans (by simp (maxSteps := 10000000) only [R9_6, bindI, Option.bind_some, if_true_, and_self, ite_true, true_and, true_or, or_true])
set_option maxRecDepth 100000 in
theorem r49_9 (d : Nat) (x1 : Int) : Ev prog clsT X d mc49 9 [(2, 9), (2, x1)] [] (mk E c s (hh g)) =
  (some ((3, 0), ((mk E c s (hh g))))) :=
  (evk_at (r := (some ((3, 0), (mk E c s (hh g))))) X [0, 3, 7, 9] 2 rfl).trans (by simp (maxSteps := 10000000) only [bindI, Option.bind_some, if_true_, and_self, ite_true, true_and, true_or, or_true])
set_option maxRecDepth 100000 in
theorem r50_0 (d : Nat) (x1 : Int) : Ev prog clsT X d mc50 0 [(2, 9), (2, x1)] [] (mk E c s (hh g)) =
  (if cmpI .ne ((g 9 6)) 1 = true then
  (some ((0, 0), ((mk E c s (hh g)))))
else
  (if (2 : Nat) = 2 ∧ rcv ((mk E c s (hh g))) x1 14 = true then
    ((Call prog clsT X d 252 [(2, x1)] ((mk E c s (hh g)))).bind fun r1 => if r1.1.1 = 4 then none else
    Ev prog clsT X d mc50 9 [(2, 9), (2, x1)] (pushR r1.1 [(0, 0), (2, x1), (2, 9)]) r1.2) else none)) :=
  (evk_at (r := ((fget 2584 ((mk E c s (hh g))) 9).bind fun v1 =>
  if cmpI .ne v1 1 = true then
  (some ((0, 0), (mk E c s (hh g))))
else
  (if (2 : Nat) = 2 ∧ rcv ((mk E c s (hh g))) x1 14 = true then
    ((Call prog clsT X d 252 [(2, x1)] ((mk E c s (hh g)))).bind fun r2 => if r2.1.1 = 4 then none else
    Ev prog clsT X d mc50 9 [(2, 9), (2, x1)] (pushR r2.1 [(0, 0), (2, x1), (2, 9)]) r2.2) else none))) X [0, 9, 10] 10 rfl).trans (by simp (maxSteps := 10000000) only [↓F2584_9, bindI, Option.bind_some, if_true_, and_self, ite_true, true_and, true_or, or_true])
set_option maxRecDepth 100000 in
theorem rc50_ (d : Nat) (x1 : Int) : Call prog clsT X (d + 1) 50 [(2, 9), (2, x1)] (mk E c s (hh g)) =
  (if cmpI .ne ((g 9 6)) 1 = true then
  (some ((0, 0), ((mk E c s (hh g)))))
else
  (if (2 : Nat) = 2 ∧ rcv ((mk E c s (hh g))) x1 14 = true then
    ((Call prog clsT X d 252 [(2, x1)] ((mk E c s (hh g)))).bind fun r1 => if r1.1.1 = 4 then none else
    Ev prog clsT X d mc50 9 [(2, 9), (2, x1)] (pushR r1.1 [(0, 0), (2, x1), (2, 9)]) r1.2) else none)) :=
  (show Call prog clsT X (d + 1) 50 [(2, 9), (2, x1)] (mk E c s (hh g)) = Ev prog clsT X d mc50 0 [(2, 9), (2, x1)] [] (mk E c s (hh g)) from rfl).trans (r50_0 X E c s g d x1 )
set_option maxRecDepth 100000 in
theorem r50_9 (d : Nat) (x1 s1 s2 s3 : Int) : Ev prog clsT X d mc50 9 [(2, 9), (2, x1)] [(0, s3), (0, s2), (2, s1), (2, 9)] (mk E c s (hh g)) =
  ((Call prog clsT X d 45 [(2, 9), (2, s1), (0, s2), (0, s3)] ((mk E c s (hh g)))).bind fun r1 => if r1.1.1 = 4 then none else
  Ev prog clsT X d mc50 10 [(2, 9), (2, x1)] (pushR r1.1 []) r1.2) :=
  (evk_at (r := (if (2 : Nat) = 2 ∧ rcv ((mk E c s (hh g))) 9 6 = true then
  ((Call prog clsT X d 45 [(2, 9), (2, s1), (0, s2), (0, s3)] ((mk E c s (hh g)))).bind fun r1 => if r1.1.1 = 4 then none else
  Ev prog clsT X d mc50 10 [(2, 9), (2, x1)] (pushR r1.1 []) r1.2) else none)) X [0, 9, 10] 2 rfl).trans (by simp (maxSteps := 10000000) only [R9_6, bindI, Option.bind_some, if_true_, and_self, ite_true, true_and, true_or, or_true])
set_option maxRecDepth 100000 in
theorem r50_10 (d : Nat) (x1 s0 : Int) : Ev prog clsT X d mc50 10 [(2, 9), (2, x1)] [(0, s0)] (mk E c s (hh g)) =
  (if cmpI .eq s0 0 = true then
  (some ((0, 0), ((mk E c s (hh g)))))
else
  (some ((0, 1), ((mk E c s (hh g)))))) :=
  (evk_at (r := (if cmpI .eq s0 0 = true then
  (some ((0, 0), (mk E c s (hh g))))
else
  (some ((0, 1), (mk E c s (hh g)))))) X [0, 9, 10] 5 rfl).trans (by simp (maxSteps := 10000000) only [bindI, Option.bind_some, if_true_, and_self, ite_true, true_and, true_or, or_true])
set_option maxRecDepth 100000 in
theorem r51_0 (d : Nat) : Ev prog clsT X d mc51 0 [(2, 9), (3, 0)] [] (mk E c s (hh g)) =
  ((fget 3592 ((mk E c s (hh g))) ((g 9 2))).bind fun v1 =>
  if cmpI .lt v1 6 = true then
  ((Call prog clsT X d 40 [(2, 9)] ((mk E c s (hh g)))).bind fun r2 => if r2.1.1 = 4 then none else
    Ev prog clsT X d mc51 14 [(2, 9), (0, v1)] (pushR r2.1 []) r2.2)
else
  ((Call prog clsT X d 46 [(2, 9), (0, 5)] ((mk E c s (hh g)))).bind fun r3 => if r3.1.1 = 4 then none else
    Ev prog clsT X d mc51 10 [(2, 9), (0, v1)] (pushR r3.1 []) r3.2)) :=
  (evk_at (r := ((fget 2570 ((mk E c s (hh g))) 9).bind fun v1 =>
  (fget 3592 ((mk E c s (hh g))) v1).bind fun v2 =>
  if cmpI .lt v2 6 = true then
  (if (2 : Nat) = 2 ∧ rcv ((mk E c s (hh g))) 9 6 = true then
    ((Call prog clsT X d 40 [(2, 9)] ((mk E c s (hh g)))).bind fun r3 => if r3.1.1 = 4 then none else
    Ev prog clsT X d mc51 14 [(2, 9), (0, v2)] (pushR r3.1 []) r3.2) else none)
else
  (if (2 : Nat) = 2 ∧ rcv ((mk E c s (hh g))) 9 6 = true then
    ((Call prog clsT X d 46 [(2, 9), (0, 5)] ((mk E c s (hh g)))).bind fun r4 => if r4.1.1 = 4 then none else
    Ev prog clsT X d mc51 10 [(2, 9), (0, v2)] (pushR r4.1 []) r4.2) else none))) X [0, 10, 14, 22, 33] 11 rfl).trans (by simp (maxSteps := 10000000) only [R9_6, ↓F2570_9, bindI, Option.bind_some, if_true_, and_self, ite_true, true_and, true_or, or_true])
set_option maxRecDepth 100000 in
theorem rc51_ (d : Nat) : Call prog clsT X (d + 1) 51 [(2, 9)] (mk E c s (hh g)) =
  ((fget 3592 ((mk E c s (hh g))) ((g 9 2))).bind fun v1 =>
  if cmpI .lt v1 6 = true then
  ((Call prog clsT X d 40 [(2, 9)] ((mk E c s (hh g)))).bind fun r2 => if r2.1.1 = 4 then none else
    Ev prog clsT X d mc51 14 [(2, 9), (0, v1)] (pushR r2.1 []) r2.2)
else
  ((Call prog clsT X d 46 [(2, 9), (0, 5)] ((mk E c s (hh g)))).bind fun r3 => if r3.1.1 = 4 then none else
    Ev prog clsT X d mc51 10 [(2, 9), (0, v1)] (pushR r3.1 []) r3.2)) :=
  (show Call prog clsT X (d + 1) 51 [(2, 9)] (mk E c s (hh g)) = Ev prog clsT X d mc51 0 [(2, 9), (3, 0)] [] (mk E c s (hh g)) from rfl).trans (r51_0 X E c s g d  )
set_option maxRecDepth 100000 in
theorem r51_10 (d : Nat) (x1 : Int) : Ev prog clsT X d mc51 10 [(2, 9), (0, x1)] [] (mk E c s (hh g)) =
  (some ((0, (-1)), ((mk E c s (hh g))))) :=
  (evk_at (r := (some ((0, (-1)), (mk E c s (hh g))))) X [0, 10, 14, 22, 33] 3 rfl).trans (by simp (maxSteps := 10000000) only [bindI, Option.bind_some, if_true_, and_self, ite_true, true_and, true_or, or_true])
set_option maxRecDepth 100000 in
theorem r51_14 (d : Nat) (x1 : Int) : Ev prog clsT X d mc51 14 [(2, 9), (0, x1)] [] (mk E c s (hh g)) =
  ((fget 3598 ((mk E c s (hh g))) ((g 9 2))).bind fun v1 =>
  (Call prog clsT X d 48 [(2, 9), (0, 0), (0, 99)] ((mk E c s (hh g)))).bind fun r2 => if r2.1.1 = 4 then none else
  Ev prog clsT X d mc51 22 [(2, 9), (0, x1)] (pushR r2.1 [(0, x1), (2, v1)]) r2.2) :=
  (evk_at (r := ((fget 2570 ((mk E c s (hh g))) 9).bind fun v1 =>
  (fget 3598 ((mk E c s (hh g))) v1).bind fun v2 =>
  if (2 : Nat) = 2 ∧ rcv ((mk E c s (hh g))) 9 6 = true then
  ((Call prog clsT X d 48 [(2, 9), (0, 0), (0, 99)] ((mk E c s (hh g)))).bind fun r3 => if r3.1.1 = 4 then none else
  Ev prog clsT X d mc51 22 [(2, 9), (0, x1)] (pushR r3.1 [(0, x1), (2, v2)]) r3.2) else none)) X [0, 10, 14, 22, 33] 9 rfl).trans (by simp (maxSteps := 10000000) only [R9_6, ↓F2570_9, bindI, Option.bind_some, if_true_, and_self, ite_true, true_and, true_or, or_true])
set_option maxRecDepth 100000 in
theorem r51_22 (d : Nat) (x1 s0 s1 s2 : Int) : Ev prog clsT X d mc51 22 [(2, 9), (0, x1)] [(0, s2), (0, s1), (2, s0)] (mk E c s (hh g)) =
  ((aput 100 ((mk E c s (hh g))) s0 s1 (s2)).bind fun M1 =>
  (fget 2570 M1 9).bind fun v2 =>
  (fget 3592 M1 v2).bind fun v3 =>
  (fput 3592 M1 v2 ((w32 (v3 + 1)))).bind fun M4 =>
  if (2 : Nat) = 2 ∧ rcv M4 9 6 = true then
  ((Call prog clsT X d 49 [(2, 9), (2, (-15))] M4).bind fun r5 => if r5.1.1 = 4 then none else
  Ev prog clsT X d mc51 33 [(2, 9), (0, x1)] (pushR r5.1 []) r5.2) else none) :=
  evk_at X [0, 10, 14, 22, 33] 12 rfl
set_option maxRecDepth 100000 in
theorem r51_33 (d : Nat) (x1 : Int) : Ev prog clsT X d mc51 33 [(2, 9), (0, x1)] [] (mk E c s (hh g)) =
  (some ((0, x1), ((mk E c s (hh g))))) :=
  (evk_at (r := (some ((0, x1), (mk E c s (hh g))))) X [0, 10, 14, 22, 33] 3 rfl).trans (by simp (maxSteps := 10000000) only [bindI, Option.bind_some, if_true_, and_self, ite_true, true_and, true_or, or_true])
set_option maxRecDepth 100000 in
theorem r52_0 (d : Nat) (x1 x2 : Int) : Ev prog clsT X d mc52 0 [(2, 9), (0, x1), (0, x2)] [] (mk E c s (hh g)) =
  (if (2 : Nat) = 2 ∧ rcv ((mk E c s (hh g))) ((g 9 2)) 8 = true then
  ((Call prog clsT X d 66 [(2, (g 9 2)), (0, x1)] ((mk E c s (hh g)))).bind fun r1 => if r1.1.1 = 4 then none else
  Ev prog clsT X d mc52 4 [(2, 9), (0, x1), (0, x2)] (pushR r1.1 []) r1.2) else none) :=
  (evk_at (r := ((fget 2570 ((mk E c s (hh g))) 9).bind fun v1 =>
  if (2 : Nat) = 2 ∧ rcv ((mk E c s (hh g))) v1 8 = true then
  ((Call prog clsT X d 66 [(2, v1), (0, x1)] ((mk E c s (hh g)))).bind fun r2 => if r2.1.1 = 4 then none else
  Ev prog clsT X d mc52 4 [(2, 9), (0, x1), (0, x2)] (pushR r2.1 []) r2.2) else none)) X [0, 4, 8, 10, 15] 5 rfl).trans (by simp (maxSteps := 10000000) only [↓F2570_9, bindI, Option.bind_some, if_true_, and_self, ite_true, true_and, true_or, or_true])
set_option maxRecDepth 100000 in
theorem rc52_ (d : Nat) (x1 x2 : Int) : Call prog clsT X (d + 1) 52 [(2, 9), (0, x1), (0, x2)] (mk E c s (hh g)) =
  (if (2 : Nat) = 2 ∧ rcv ((mk E c s (hh g))) ((g 9 2)) 8 = true then
  ((Call prog clsT X d 66 [(2, (g 9 2)), (0, x1)] ((mk E c s (hh g)))).bind fun r1 => if r1.1.1 = 4 then none else
  Ev prog clsT X d mc52 4 [(2, 9), (0, x1), (0, x2)] (pushR r1.1 []) r1.2) else none) :=
  (show Call prog clsT X (d + 1) 52 [(2, 9), (0, x1), (0, x2)] (mk E c s (hh g)) = Ev prog clsT X d mc52 0 [(2, 9), (0, x1), (0, x2)] [] (mk E c s (hh g)) from rfl).trans (r52_0 X E c s g d x1 x2 )
set_option maxRecDepth 100000 in
theorem r52_4 (d : Nat) (x1 x2 s0 : Int) : Ev prog clsT X d mc52 4 [(2, 9), (0, x1), (0, x2)] [(0, s0)] (mk E c s (hh g)) =
  (if cmpI .eq s0 0 = true then
  (Ev prog clsT X d mc52 8 [(2, 9), (0, x1), (0, x2)] [] (mk E c s (hh g)))
else
  ((Call prog clsT X d 46 [(2, 9), (0, 3)] ((mk E c s (hh g)))).bind fun r1 => if r1.1.1 = 4 then none else
    Ev prog clsT X d mc52 8 [(2, 9), (0, x1), (0, x2)] (pushR r1.1 []) r1.2)) :=
  (evk_at (r := (if cmpI .eq s0 0 = true then
  (Ev prog clsT X d mc52 8 [(2, 9), (0, x1), (0, x2)] [] (mk E c s (hh g)))
else
  (if (2 : Nat) = 2 ∧ rcv ((mk E c s (hh g))) 9 6 = true then
    ((Call prog clsT X d 46 [(2, 9), (0, 3)] ((mk E c s (hh g)))).bind fun r1 => if r1.1.1 = 4 then none else
    Ev prog clsT X d mc52 8 [(2, 9), (0, x1), (0, x2)] (pushR r1.1 []) r1.2) else none))) X [0, 4, 8, 10, 15] 5 rfl).trans (by simp (maxSteps := 10000000) only [R9_6, bindI, Option.bind_some, if_true_, and_self, ite_true, true_and, true_or, or_true])
set_option maxRecDepth 100000 in
theorem r52_8 (d : Nat) (x1 x2 : Int) : Ev prog clsT X d mc52 8 [(2, 9), (0, x1), (0, x2)] [] (mk E c s (hh g)) =
  ((Call prog clsT X d 40 [(2, 9)] ((mk E c s (hh g)))).bind fun r1 => if r1.1.1 = 4 then none else
  Ev prog clsT X d mc52 10 [(2, 9), (0, x1), (0, x2)] (pushR r1.1 []) r1.2) :=
  (evk_at (r := (if (2 : Nat) = 2 ∧ rcv ((mk E c s (hh g))) 9 6 = true then
  ((Call prog clsT X d 40 [(2, 9)] ((mk E c s (hh g)))).bind fun r1 => if r1.1.1 = 4 then none else
  Ev prog clsT X d mc52 10 [(2, 9), (0, x1), (0, x2)] (pushR r1.1 []) r1.2) else none)) X [0, 4, 8, 10, 15] 3 rfl).trans (by simp (maxSteps := 10000000) only [R9_6, bindI, Option.bind_some, if_true_, and_self, ite_true, true_and, true_or, or_true])
set_option maxRecDepth 100000 in
theorem r52_10 (d : Nat) (x1 x2 : Int) : Ev prog clsT X d mc52 10 [(2, 9), (0, x1), (0, x2)] [] (mk E c s (hh g)) =
  (if cmpI .eq x2 0 = true then
  (Ev prog clsT X d mc52 15 [(2, 9), (0, x1), (0, x2)] [] (mk E c s (hh g)))
else
  ((Call prog clsT X d 49 [(2, 9), (2, (-15))] ((mk E c s (hh g)))).bind fun r1 => if r1.1.1 = 4 then none else
    Ev prog clsT X d mc52 15 [(2, 9), (0, x1), (0, x2)] (pushR r1.1 []) r1.2)) :=
  (evk_at (r := (if cmpI .eq x2 0 = true then
  (Ev prog clsT X d mc52 15 [(2, 9), (0, x1), (0, x2)] [] (mk E c s (hh g)))
else
  (if (2 : Nat) = 2 ∧ rcv ((mk E c s (hh g))) 9 6 = true then
    ((Call prog clsT X d 49 [(2, 9), (2, (-15))] ((mk E c s (hh g)))).bind fun r1 => if r1.1.1 = 4 then none else
    Ev prog clsT X d mc52 15 [(2, 9), (0, x1), (0, x2)] (pushR r1.1 []) r1.2) else none))) X [0, 4, 8, 10, 15] 6 rfl).trans (by simp (maxSteps := 10000000) only [R9_6, bindI, Option.bind_some, if_true_, and_self, ite_true, true_and, true_or, or_true])
set_option maxRecDepth 100000 in
theorem r52_15 (d : Nat) (x1 x2 : Int) : Ev prog clsT X d mc52 15 [(2, 9), (0, x1), (0, x2)] [] (mk E c s (hh g)) =
  (some ((0, x1), ((mk E c s (hh g))))) :=
  (evk_at (r := (some ((0, x1), (mk E c s (hh g))))) X [0, 4, 8, 10, 15] 3 rfl).trans (by simp (maxSteps := 10000000) only [bindI, Option.bind_some, if_true_, and_self, ite_true, true_and, true_or, or_true])
set_option maxRecDepth 100000 in
theorem r53_0 (d : Nat) (x1 : Int) : Ev prog clsT X d mc53 0 [(2, 9), (0, x1), (3, 0), (3, 0)] [] (mk E c s (hh g)) =
  ((Call prog clsT X d 54 [(2, 9), (0, x1)] ((mk E c s (hh g)))).bind fun r1 => if r1.1.1 = 4 then none else
  Ev prog clsT X d mc53 3 [(2, 9), (0, x1), (3, 0), (3, 0)] (pushR r1.1 []) r1.2) :=
  (evk_at (r := (if (2 : Nat) = 2 ∧ rcv ((mk E c s (hh g))) 9 6 = true then
  ((Call prog clsT X d 54 [(2, 9), (0, x1)] ((mk E c s (hh g)))).bind fun r1 => if r1.1.1 = 4 then none else
  Ev prog clsT X d mc53 3 [(2, 9), (0, x1), (3, 0), (3, 0)] (pushR r1.1 []) r1.2) else none)) X [0, 3, 5, 11, 15, 19, 26, 29, 33] 4 rfl).trans (by simp (maxSteps := 10000000) only [R9_6, bindI, Option.bind_some, if_true_, and_self, ite_true, true_and, true_or, or_true])
set_option maxRecDepth 100000 in
theorem rc53_ (d : Nat) (x1 : Int) : Call prog clsT X (d + 1) 53 [(2, 9), (0, x1)] (mk E c s (hh g)) =
  ((Call prog clsT X d 54 [(2, 9), (0, x1)] ((mk E c s (hh g)))).bind fun r1 => if r1.1.1 = 4 then none else
  Ev prog clsT X d mc53 3 [(2, 9), (0, x1), (3, 0), (3, 0)] (pushR r1.1 []) r1.2) :=
  (show Call prog clsT X (d + 1) 53 [(2, 9), (0, x1)] (mk E c s (hh g)) = Ev prog clsT X d mc53 0 [(2, 9), (0, x1), (3, 0), (3, 0)] [] (mk E c s (hh g)) from rfl).trans (r53_0 X E c s g d x1 )
set_option maxRecDepth 100000 in
theorem r53_3 (d : Nat) (x1 : Int) : Ev prog clsT X d mc53 3 [(2, 9), (0, x1), (3, 0), (3, 0)] [] (mk E c s (hh g)) =
  (Ev prog clsT X d mc53 5 [(2, 9), (0, x1), (0, 0), (3, 0)] [] (mk E c s (hh g))) :=
  evk_at X [0, 3, 5, 11, 15, 19, 26, 29, 33] 4 rfl
set_option maxRecDepth 100000 in
theorem r53_5 (d : Nat) (x1 x2 : Int) (w3 : MV) : Ev prog clsT X d mc53 5 [(2, 9), (0, x1), (0, x2), w3] [] (mk E c s (hh g)) =
  (if cmpI .ge x2 1000 = true then
  (some ((3, 0), ((mk E c s (hh g)))))
else
  ((Call prog clsT X d 50 [(2, 9), (2, (-17))] ((mk E c s (hh g)))).bind fun r1 => if r1.1.1 = 4 then none else
    Ev prog clsT X d mc53 11 [(2, 9), (0, x1), (0, x2), (3, 0)] (pushR r1.1 []) r1.2)) :=
  (evk_at (r := (if cmpI .ge x2 1000 = true then
  (some ((3, 0), (mk E c s (hh g))))
else
  (if (2 : Nat) = 2 ∧ rcv ((mk E c s (hh g))) 9 6 = true then
    ((Call prog clsT X d 50 [(2, 9), (2, (-17))] ((mk E c s (hh g)))).bind fun r1 => if r1.1.1 = 4 then none else
    Ev prog clsT X d mc53 11 [(2, 9), (0, x1), (0, x2), (3, 0)] (pushR r1.1 []) r1.2) else none))) X [0, 3, 5, 11, 15, 19, 26, 29, 33] 7 rfl).trans (by simp (maxSteps := 10000000) only [R9_6, bindI, Option.bind_some, if_true_, and_self, ite_true, true_and, true_or, or_true])
set_option maxRecDepth 100000 in
theorem r53_11 (d : Nat) (x1 x2 s0 : Int) : Ev prog clsT X d mc53 11 [(2, 9), (0, x1), (0, x2), (3, 0)] [(0, s0)] (mk E c s (hh g)) =
  (if cmpI .ne s0 0 = true then
  ((Call prog clsT X d 50 [(2, 9), (2, (-17))] ((mk E c s (hh g)))).bind fun r1 => if r1.1.1 = 4 then none else
    Ev prog clsT X d mc53 19 [(2, 9), (0, x1), (0, x2), (3, 0)] (pushR r1.1 []) r1.2)
else
  ((Call prog clsT X d 50 [(2, 9), (2, (-18))] ((mk E c s (hh g)))).bind fun r2 => if r2.1.1 = 4 then none else
    Ev prog clsT X d mc53 15 [(2, 9), (0, x1), (0, x2), (3, 0)] (pushR r2.1 []) r2.2)) :=
  (evk_at (r := (if cmpI .ne s0 0 = true then
  (if (2 : Nat) = 2 ∧ rcv ((mk E c s (hh g))) 9 6 = true then
    ((Call prog clsT X d 50 [(2, 9), (2, (-17))] ((mk E c s (hh g)))).bind fun r1 => if r1.1.1 = 4 then none else
    Ev prog clsT X d mc53 19 [(2, 9), (0, x1), (0, x2), (3, 0)] (pushR r1.1 []) r1.2) else none)
else
  (if (2 : Nat) = 2 ∧ rcv ((mk E c s (hh g))) 9 6 = true then
    ((Call prog clsT X d 50 [(2, 9), (2, (-18))] ((mk E c s (hh g)))).bind fun r2 => if r2.1.1 = 4 then none else
    Ev prog clsT X d mc53 15 [(2, 9), (0, x1), (0, x2), (3, 0)] (pushR r2.1 []) r2.2) else none))) X [0, 3, 5, 11, 15, 19, 26, 29, 33] 5 rfl).trans (by simp (maxSteps := 10000000) only [R9_6, bindI, Option.bind_some, if_true_, and_self, ite_true, true_and, true_or, or_true])
set_option maxRecDepth 100000 in
theorem r53_15 (d : Nat) (x1 x2 s0 : Int) : Ev prog clsT X d mc53 15 [(2, 9), (0, x1), (0, x2), (3, 0)] [(0, s0)] (mk E c s (hh g)) =
  (if cmpI .eq s0 0 = true then
  (some ((3, 0), ((mk E c s (hh g)))))
else
  ((Call prog clsT X d 50 [(2, 9), (2, (-17))] ((mk E c s (hh g)))).bind fun r1 => if r1.1.1 = 4 then none else
    Ev prog clsT X d mc53 19 [(2, 9), (0, x1), (0, x2), (3, 0)] (pushR r1.1 []) r1.2)) :=
  (evk_at (r := (if cmpI .eq s0 0 = true then
  (some ((3, 0), (mk E c s (hh g))))
else
  (if (2 : Nat) = 2 ∧ rcv ((mk E c s (hh g))) 9 6 = true then
    ((Call prog clsT X d 50 [(2, 9), (2, (-17))] ((mk E c s (hh g)))).bind fun r1 => if r1.1.1 = 4 then none else
    Ev prog clsT X d mc53 19 [(2, 9), (0, x1), (0, x2), (3, 0)] (pushR r1.1 []) r1.2) else none))) X [0, 3, 5, 11, 15, 19, 26, 29, 33] 5 rfl).trans (by simp (maxSteps := 10000000) only [R9_6, bindI, Option.bind_some, if_true_, and_self, ite_true, true_and, true_or, or_true])
set_option maxRecDepth 100000 in
theorem r53_19 (d : Nat) (x1 x2 s0 : Int) : Ev prog clsT X d mc53 19 [(2, 9), (0, x1), (0, x2), (3, 0)] [(0, s0)] (mk E c s (hh g)) =
  (if cmpI .eq s0 0 = true then
  ((Call prog clsT X d 40 [(2, 9)] ((mk E c s (hh g)))).bind fun r1 => if r1.1.1 = 4 then none else
    Ev prog clsT X d mc53 26 [(2, 9), (0, x1), (0, x2), (0, 20002)] (pushR r1.1 []) r1.2)
else
  ((Call prog clsT X d 40 [(2, 9)] ((mk E c s (hh g)))).bind fun r2 => if r2.1.1 = 4 then none else
    Ev prog clsT X d mc53 26 [(2, 9), (0, x1), (0, x2), (0, 20001)] (pushR r2.1 []) r2.2)) :=
  (evk_at (r := (if cmpI .eq s0 0 = true then
  (if (2 : Nat) = 2 ∧ rcv ((mk E c s (hh g))) 9 6 = true then
    ((Call prog clsT X d 40 [(2, 9)] ((mk E c s (hh g)))).bind fun r1 => if r1.1.1 = 4 then none else
    Ev prog clsT X d mc53 26 [(2, 9), (0, x1), (0, x2), (0, 20002)] (pushR r1.1 []) r1.2) else none)
else
  (if (2 : Nat) = 2 ∧ rcv ((mk E c s (hh g))) 9 6 = true then
    ((Call prog clsT X d 40 [(2, 9)] ((mk E c s (hh g)))).bind fun r2 => if r2.1.1 = 4 then none else
    Ev prog clsT X d mc53 26 [(2, 9), (0, x1), (0, x2), (0, 20001)] (pushR r2.1 []) r2.2) else none))) X [0, 3, 5, 11, 15, 19, 26, 29, 33] 7 rfl).trans (by simp (maxSteps := 10000000) only [R9_6, bindI, Option.bind_some, if_true_, and_self, ite_true, true_and, true_or, or_true])
set_option maxRecDepth 100000 in
theorem r53_26 (d : Nat) (x1 x2 x3 : Int) : Ev prog clsT X d mc53 26 [(2, 9), (0, x1), (0, x2), (0, x3)] [] (mk E c s (hh g)) =
  ((Call prog clsT X d 54 [(2, 9), (0, x1)] ((mk E c s (hh g)))).bind fun r1 => if r1.1.1 = 4 then none else
  Ev prog clsT X d mc53 29 [(2, 9), (0, x1), (0, x2), (0, x3)] (pushR r1.1 []) r1.2) :=
  (evk_at (r := (if (2 : Nat) = 2 ∧ rcv ((mk E c s (hh g))) 9 6 = true then
  ((Call prog clsT X d 54 [(2, 9), (0, x1)] ((mk E c s (hh g)))).bind fun r1 => if r1.1.1 = 4 then none else
  Ev prog clsT X d mc53 29 [(2, 9), (0, x1), (0, x2), (0, x3)] (pushR r1.1 []) r1.2) else none)) X [0, 3, 5, 11, 15, 19, 26, 29, 33] 4 rfl).trans (by simp (maxSteps := 10000000) only [R9_6, bindI, Option.bind_some, if_true_, and_self, ite_true, true_and, true_or, or_true])
set_option maxRecDepth 100000 in
theorem r53_29 (d : Nat) (x1 x2 x3 : Int) : Ev prog clsT X d mc53 29 [(2, 9), (0, x1), (0, x2), (0, x3)] [] (mk E c s (hh g)) =
  (if (2 : Nat) = 2 ∧ rcv ((mk E c s (hh g))) ((g 9 2)) 8 = true then
  ((Call prog clsT X d 68 [(2, (g 9 2)), (0, x3)] ((mk E c s (hh g)))).bind fun r1 => if r1.1.1 = 4 then none else
  Ev prog clsT X d mc53 33 [(2, 9), (0, x1), (0, x2), (0, x3)] (pushR r1.1 []) r1.2) else none) :=
  (evk_at (r := ((fget 2570 ((mk E c s (hh g))) 9).bind fun v1 =>
  if (2 : Nat) = 2 ∧ rcv ((mk E c s (hh g))) v1 8 = true then
  ((Call prog clsT X d 68 [(2, v1), (0, x3)] ((mk E c s (hh g)))).bind fun r2 => if r2.1.1 = 4 then none else
  Ev prog clsT X d mc53 33 [(2, 9), (0, x1), (0, x2), (0, x3)] (pushR r2.1 []) r2.2) else none)) X [0, 3, 5, 11, 15, 19, 26, 29, 33] 5 rfl).trans (by simp (maxSteps := 10000000) only [↓F2570_9, bindI, Option.bind_some, if_true_, and_self, ite_true, true_and, true_or, or_true])
set_option maxRecDepth 100000 in
theorem r53_33 (d : Nat) (x1 x2 x3 : Int) : Ev prog clsT X d mc53 33 [(2, 9), (0, x1), (0, x2), (0, x3)] [] (mk E c s (hh g)) =
  (Ev prog clsT X d mc53 5 [(2, 9), (0, x1), (0, (w32 (x2 + 1))), (0, x3)] [] (mk E c s (hh g))) :=
  evk_at X [0, 3, 5, 11, 15, 19, 26, 29, 33] 4 rfl
set_option maxRecDepth 100000 in
theorem r54_0 (d : Nat) (x1 : Int) : Ev prog clsT X d mc54 0 [(2, 9), (0, x1), (3, 0)] [] (mk E c s (hh g)) =
  ((Call prog clsT X d 55 [(2, 9), (0, x1)] ((mk E c s (hh g)))).bind fun r1 => if r1.1.1 = 4 then none else
  Ev prog clsT X d mc54 3 [(2, 9), (0, x1), (3, 0)] (pushR r1.1 []) r1.2) :=
  (evk_at (r := (if (2 : Nat) = 2 ∧ rcv ((mk E c s (hh g))) 9 6 = true then
  ((Call prog clsT X d 55 [(2, 9), (0, x1)] ((mk E c s (hh g)))).bind fun r1 => if r1.1.1 = 4 then none else
  Ev prog clsT X d mc54 3 [(2, 9), (0, x1), (3, 0)] (pushR r1.1 []) r1.2) else none)) X [0, 3, 6, 10, 14, 21, 24, 28] 4 rfl).trans (by simp (maxSteps := 10000000) only [R9_6, bindI, Option.bind_some, if_true_, and_self, ite_true, true_and, true_or, or_true])
set_option maxRecDepth 100000 in
theorem rc54_ (d : Nat) (x1 : Int) : Call prog clsT X (d + 1) 54 [(2, 9), (0, x1)] (mk E c s (hh g)) =
  ((Call prog clsT X d 55 [(2, 9), (0, x1)] ((mk E c s (hh g)))).bind fun r1 => if r1.1.1 = 4 then none else
  Ev prog clsT X d mc54 3 [(2, 9), (0, x1), (3, 0)] (pushR r1.1 []) r1.2) :=
  (show Call prog clsT X (d + 1) 54 [(2, 9), (0, x1)] (mk E c s (hh g)) = Ev prog clsT X d mc54 0 [(2, 9), (0, x1), (3, 0)] [] (mk E c s (hh g)) from rfl).trans (r54_0 X E c s g d x1 )
set_option maxRecDepth 100000 in
theorem r54_3 (d : Nat) (x1 : Int) : Ev prog clsT X d mc54 3 [(2, 9), (0, x1), (3, 0)] [] (mk E c s (hh g)) =
  ((Call prog clsT X d 58 [(2, 9), (0, 60)] ((mk E c s (hh g)))).bind fun r1 => if r1.1.1 = 4 then none else
  Ev prog clsT X d mc54 6 [(2, 9), (0, x1), (3, 0)] (pushR r1.1 []) r1.2) :=
  (evk_at (r := (if (2 : Nat) = 2 ∧ rcv ((mk E c s (hh g))) 9 6 = true then
  ((Call prog clsT X d 58 [(2, 9), (0, 60)] ((mk E c s (hh g)))).bind fun r1 => if r1.1.1 = 4 then none else
  Ev prog clsT X d mc54 6 [(2, 9), (0, x1), (3, 0)] (pushR r1.1 []) r1.2) else none)) X [0, 3, 6, 10, 14, 21, 24, 28] 4 rfl).trans (by simp (maxSteps := 10000000) only [R9_6, bindI, Option.bind_some, if_true_, and_self, ite_true, true_and, true_or, or_true])
set_option maxRecDepth 100000 in
theorem r54_6 (d : Nat) (x1 s0 : Int) : Ev prog clsT X d mc54 6 [(2, 9), (0, x1), (3, 0)] [(0, s0)] (mk E c s (hh g)) =
  (if cmpI .ne s0 0 = true then
  ((Call prog clsT X d 58 [(2, 9), (0, 60)] ((mk E c s (hh g)))).bind fun r1 => if r1.1.1 = 4 then none else
    Ev prog clsT X d mc54 14 [(2, 9), (0, x1), (3, 0)] (pushR r1.1 []) r1.2)
else
  ((Call prog clsT X d 58 [(2, 9), (0, 61)] ((mk E c s (hh g)))).bind fun r2 => if r2.1.1 = 4 then none else
    Ev prog clsT X d mc54 10 [(2, 9), (0, x1), (3, 0)] (pushR r2.1 []) r2.2)) :=
  (evk_at (r := (if cmpI .ne s0 0 = true then
  (if (2 : Nat) = 2 ∧ rcv ((mk E c s (hh g))) 9 6 = true then
    ((Call prog clsT X d 58 [(2, 9), (0, 60)] ((mk E c s (hh g)))).bind fun r1 => if r1.1.1 = 4 then none else
    Ev prog clsT X d mc54 14 [(2, 9), (0, x1), (3, 0)] (pushR r1.1 []) r1.2) else none)
else
  (if (2 : Nat) = 2 ∧ rcv ((mk E c s (hh g))) 9 6 = true then
    ((Call prog clsT X d 58 [(2, 9), (0, 61)] ((mk E c s (hh g)))).bind fun r2 => if r2.1.1 = 4 then none else
    Ev prog clsT X d mc54 10 [(2, 9), (0, x1), (3, 0)] (pushR r2.1 []) r2.2) else none))) X [0, 3, 6, 10, 14, 21, 24, 28] 5 rfl).trans (by simp (maxSteps := 10000000) only [R9_6, bindI, Option.bind_some, if_true_, and_self, ite_true, true_and, true_or, or_true])
set_option maxRecDepth 100000 in
theorem r54_10 (d : Nat) (x1 s0 : Int) : Ev prog clsT X d mc54 10 [(2, 9), (0, x1), (3, 0)] [(0, s0)] (mk E c s (hh g)) =
  (if cmpI .eq s0 0 = true then
  (Ev prog clsT X d mc54 28 [(2, 9), (0, x1), (3, 0)] [] (mk E c s (hh g)))
else
  ((Call prog clsT X d 58 [(2, 9), (0, 60)] ((mk E c s (hh g)))).bind fun r1 => if r1.1.1 = 4 then none else
    Ev prog clsT X d mc54 14 [(2, 9), (0, x1), (3, 0)] (pushR r1.1 []) r1.2)) :=
  (evk_at (r := (if cmpI .eq s0 0 = true then
  (Ev prog clsT X d mc54 28 [(2, 9), (0, x1), (3, 0)] [] (mk E c s (hh g)))
else
  (if (2 : Nat) = 2 ∧ rcv ((mk E c s (hh g))) 9 6 = true then
    ((Call prog clsT X d 58 [(2, 9), (0, 60)] ((mk E c s (hh g)))).bind fun r1 => if r1.1.1 = 4 then none else
    Ev prog clsT X d mc54 14 [(2, 9), (0, x1), (3, 0)] (pushR r1.1 []) r1.2) else none))) X [0, 3, 6, 10, 14, 21, 24, 28] 5 rfl).trans (by simp (maxSteps := 10000000) only [R9_6, bindI, Option.bind_some, if_true_, and_self, ite_true, true_and, true_or, or_true])
set_option maxRecDepth 100000 in
theorem r54_14 (d : Nat) (x1 s0 : Int) : Ev prog clsT X d mc54 14 [(2, 9), (0, x1), (3, 0)] [(0, s0)] (mk E c s (hh g)) =
  (if cmpI .eq s0 0 = true then
  ((Call prog clsT X d 40 [(2, 9)] ((mk E c s (hh g)))).bind fun r1 => if r1.1.1 = 4 then none else
    Ev prog clsT X d mc54 21 [(2, 9), (0, x1), (0, 20004)] (pushR r1.1 []) r1.2)
else
  ((Call prog clsT X d 40 [(2, 9)] ((mk E c s (hh g)))).bind fun r2 => if r2.1.1 = 4 then none else
    Ev prog clsT X d mc54 21 [(2, 9), (0, x1), (0, 20003)] (pushR r2.1 []) r2.2)) :=
  (evk_at (r := (if cmpI .eq s0 0 = true then
  (if (2 : Nat) = 2 ∧ rcv ((mk E c s (hh g))) 9 6 = true then
    ((Call prog clsT X d 40 [(2, 9)] ((mk E c s (hh g)))).bind fun r1 => if r1.1.1 = 4 then none else
    Ev prog clsT X d mc54 21 [(2, 9), (0, x1), (0, 20004)] (pushR r1.1 []) r1.2) else none)
else
  (if (2 : Nat) = 2 ∧ rcv ((mk E c s (hh g))) 9 6 = true then
    ((Call prog clsT X d 40 [(2, 9)] ((mk E c s (hh g)))).bind fun r2 => if r2.1.1 = 4 then none else
    Ev prog clsT X d mc54 21 [(2, 9), (0, x1), (0, 20003)] (pushR r2.1 []) r2.2) else none))) X [0, 3, 6, 10, 14, 21, 24, 28] 7 rfl).trans (by simp (maxSteps := 10000000) only [R9_6, bindI, Option.bind_some, if_true_, and_self, ite_true, true_and, true_or, or_true])
set_option maxRecDepth 100000 in
theorem r54_21 (d : Nat) (x1 x2 : Int) : Ev prog clsT X d mc54 21 [(2, 9), (0, x1), (0, x2)] [] (mk E c s (hh g)) =
  ((Call prog clsT X d 55 [(2, 9), (0, x1)] ((mk E c s (hh g)))).bind fun r1 => if r1.1.1 = 4 then none else
  Ev prog clsT X d mc54 24 [(2, 9), (0, x1), (0, x2)] (pushR r1.1 []) r1.2) :=
  (evk_at (r := (if (2 : Nat) = 2 ∧ rcv ((mk E c s (hh g))) 9 6 = true then
  ((Call prog clsT X d 55 [(2, 9), (0, x1)] ((mk E c s (hh g)))).bind fun r1 => if r1.1.1 = 4 then none else
  Ev prog clsT X d mc54 24 [(2, 9), (0, x1), (0, x2)] (pushR r1.1 []) r1.2) else none)) X [0, 3, 6, 10, 14, 21, 24, 28] 4 rfl).trans (by simp (maxSteps := 10000000) only [R9_6, bindI, Option.bind_some, if_true_, and_self, ite_true, true_and, true_or, or_true])
set_option maxRecDepth 100000 in
theorem r54_24 (d : Nat) (x1 x2 : Int) : Ev prog clsT X d mc54 24 [(2, 9), (0, x1), (0, x2)] [] (mk E c s (hh g)) =
  (if (2 : Nat) = 2 ∧ rcv ((mk E c s (hh g))) ((g 9 2)) 8 = true then
  ((Call prog clsT X d 68 [(2, (g 9 2)), (0, x2)] ((mk E c s (hh g)))).bind fun r1 => if r1.1.1 = 4 then none else
  Ev prog clsT X d mc54 28 [(2, 9), (0, x1), (0, x2)] (pushR r1.1 []) r1.2) else none) :=
  (evk_at (r := ((fget 2570 ((mk E c s (hh g))) 9).bind fun v1 =>
  if (2 : Nat) = 2 ∧ rcv ((mk E c s (hh g))) v1 8 = true then
  ((Call prog clsT X d 68 [(2, v1), (0, x2)] ((mk E c s (hh g)))).bind fun r2 => if r2.1.1 = 4 then none else
  Ev prog clsT X d mc54 28 [(2, 9), (0, x1), (0, x2)] (pushR r2.1 []) r2.2) else none)) X [0, 3, 6, 10, 14, 21, 24, 28] 5 rfl).trans (by simp (maxSteps := 10000000) only [↓F2570_9, bindI, Option.bind_some, if_true_, and_self, ite_true, true_and, true_or, or_true])
set_option maxRecDepth 100000 in
theorem r54_28 (d : Nat) (x1 : Int) (w2 : MV) : Ev prog clsT X d mc54 28 [(2, 9), (0, x1), w2] [] (mk E c s (hh g)) =
  (some ((3, 0), ((mk E c s (hh g))))) :=
  (evk_at (r := (some ((3, 0), (mk E c s (hh g))))) X [0, 3, 6, 10, 14, 21, 24, 28] 2 rfl).trans (by simp (maxSteps := 10000000) only [bindI, Option.bind_some, if_true_, and_self, ite_true, true_and, true_or, or_true])
set_option maxRecDepth 100000 in
theorem r55_0 (d : Nat) (x1 : Int) : Ev prog clsT X d mc55 0 [(2, 9), (0, x1), (3, 0), (3, 0)] [] (mk E c s (hh g)) =
  ((Call prog clsT X d 56 [(2, 9), (0, x1)] ((mk E c s (hh g)))).bind fun r1 => if r1.1.1 = 4 then none else
  Ev prog clsT X d mc55 3 [(2, 9), (0, x1), (3, 0), (3, 0)] (pushR r1.1 []) r1.2) :=
  (evk_at (r := (if (2 : Nat) = 2 ∧ rcv ((mk E c s (hh g))) 9 6 = true then
  ((Call prog clsT X d 56 [(2, 9), (0, x1)] ((mk E c s (hh g)))).bind fun r1 => if r1.1.1 = 4 then none else
  Ev prog clsT X d mc55 3 [(2, 9), (0, x1), (3, 0), (3, 0)] (pushR r1.1 []) r1.2) else none)) X [0, 3, 5, 11, 15, 19, 26, 29, 33] 4 rfl).trans (by simp (maxSteps := 10000000) only [R9_6, bindI, Option.bind_some, if_true_, and_self, ite_true, true_and, true_or, or_true])
set_option maxRecDepth 100000 in
theorem rc55_ (d : Nat) (x1 : Int) : Call prog clsT X (d + 1) 55 [(2, 9), (0, x1)] (mk E c s (hh g)) =
  ((Call prog clsT X d 56 [(2, 9), (0, x1)] ((mk E c s (hh g)))).bind fun r1 => if r1.1.1 = 4 then none else
  Ev prog clsT X d mc55 3 [(2, 9), (0, x1), (3, 0), (3, 0)] (pushR r1.1 []) r1.2) :=
  (show Call prog clsT X (d + 1) 55 [(2, 9), (0, x1)] (mk E c s (hh g)) = Ev prog clsT X d mc55 0 [(2, 9), (0, x1), (3, 0), (3, 0)] [] (mk E c s (hh g)) from rfl).trans (r55_0 X E c s g d x1 )
set_option maxRecDepth 100000 in
theorem r55_3 (d : Nat) (x1 : Int) : Ev prog clsT X d mc55 3 [(2, 9), (0, x1), (3, 0), (3, 0)] [] (mk E c s (hh g)) =
  (Ev prog clsT X d mc55 5 [(2, 9), (0, x1), (0, 0), (3, 0)] [] (mk E c s (hh g))) :=
  evk_at X [0, 3, 5, 11, 15, 19, 26, 29, 33] 4 rfl
set_option maxRecDepth 100000 in
theorem r55_5 (d : Nat) (x1 x2 : Int) (w3 : MV) : Ev prog clsT X d mc55 5 [(2, 9), (0, x1), (0, x2), w3] [] (mk E c s (hh g)) =
  (if cmpI .ge x2 1000 = true then
  (some ((3, 0), ((mk E c s (hh g)))))
else
  ((Call prog clsT X d 58 [(2, 9), (0, 43)] ((mk E c s (hh g)))).bind fun r1 => if r1.1.1 = 4 then none else
    Ev prog clsT X d mc55 11 [(2, 9), (0, x1), (0, x2), (3, 0)] (pushR r1.1 []) r1.2)) :=
  (evk_at (r := (if cmpI .ge x2 1000 = true then
  (some ((3, 0), (mk E c s (hh g))))
else
  (if (2 : Nat) = 2 ∧ rcv ((mk E c s (hh g))) 9 6 = true then
    ((Call prog clsT X d 58 [(2, 9), (0, 43)] ((mk E c s (hh g)))).bind fun r1 => if r1.1.1 = 4 then none else
    Ev prog clsT X d mc55 11 [(2, 9), (0, x1), (0, x2), (3, 0)] (pushR r1.1 []) r1.2) else none))) X [0, 3, 5, 11, 15, 19, 26, 29, 33] 7 rfl).trans (by simp (maxSteps := 10000000) only [R9_6, bindI, Option.bind_some, if_true_, and_self, ite_true, true_and, true_or, or_true])
set_option maxRecDepth 100000 in
theorem r55_11 (d : Nat) (x1 x2 s0 : Int) : Ev prog clsT X d mc55 11 [(2, 9), (0, x1), (0, x2), (3, 0)] [(0, s0)] (mk E c s (hh g)) =
  (if cmpI .ne s0 0 = true then
  ((Call prog clsT X d 58 [(2, 9), (0, 43)] ((mk E c s (hh g)))).bind fun r1 => if r1.1.1 = 4 then none else
    Ev prog clsT X d mc55 19 [(2, 9), (0, x1), (0, x2), (3, 0)] (pushR r1.1 []) r1.2)
else
  ((Call prog clsT X d 58 [(2, 9), (0, 45)] ((mk E c s (hh g)))).bind fun r2 => if r2.1.1 = 4 then none else
    Ev prog clsT X d mc55 15 [(2, 9), (0, x1), (0, x2), (3, 0)] (pushR r2.1 []) r2.2)) :=
  (evk_at (r := (if cmpI .ne s0 0 = true then
  (if (2 : Nat) = 2 ∧ rcv ((mk E c s (hh g))) 9 6 = true then
    ((Call prog clsT X d 58 [(2, 9), (0, 43)] ((mk E c s (hh g)))).bind fun r1 => if r1.1.1 = 4 then none else
    Ev prog clsT X d mc55 19 [(2, 9), (0, x1), (0, x2), (3, 0)] (pushR r1.1 []) r1.2) else none)
else
  (if (2 : Nat) = 2 ∧ rcv ((mk E c s (hh g))) 9 6 = true then
    ((Call prog clsT X d 58 [(2, 9), (0, 45)] ((mk E c s (hh g)))).bind fun r2 => if r2.1.1 = 4 then none else
    Ev prog clsT X d mc55 15 [(2, 9), (0, x1), (0, x2), (3, 0)] (pushR r2.1 []) r2.2) else none))) X [0, 3, 5, 11, 15, 19, 26, 29, 33] 5 rfl).trans (by simp (maxSteps := 10000000) only [R9_6, bindI, Option.bind_some, if_true_, and_self, ite_true, true_and, true_or, or_true])
set_option maxRecDepth 100000 in
theorem r55_15 (d : Nat) (x1 x2 s0 : Int) : Ev prog clsT X d mc55 15 [(2, 9), (0, x1), (0, x2), (3, 0)] [(0, s0)] (mk E c s (hh g)) =
  (if cmpI .eq s0 0 = true then
  (some ((3, 0), ((mk E c s (hh g)))))
else
  ((Call prog clsT X d 58 [(2, 9), (0, 43)] ((mk E c s (hh g)))).bind fun r1 => if r1.1.1 = 4 then none else
    Ev prog clsT X d mc55 19 [(2, 9), (0, x1), (0, x2), (3, 0)] (pushR r1.1 []) r1.2)) :=
  (evk_at (r := (if cmpI .eq s0 0 = true then
  (some ((3, 0), (mk E c s (hh g))))
else
  (if (2 : Nat) = 2 ∧ rcv ((mk E c s (hh g))) 9 6 = true then
    ((Call prog clsT X d 58 [(2, 9), (0, 43)] ((mk E c s (hh g)))).bind fun r1 => if r1.1.1 = 4 then none else
    Ev prog clsT X d mc55 19 [(2, 9), (0, x1), (0, x2), (3, 0)] (pushR r1.1 []) r1.2) else none))) X [0, 3, 5, 11, 15, 19, 26, 29, 33] 5 rfl).trans (by simp (maxSteps := 10000000) only [R9_6, bindI, Option.bind_some, if_true_, and_self, ite_true, true_and, true_or, or_true])
set_option maxRecDepth 100000 in
theorem r55_19 (d : Nat) (x1 x2 s0 : Int) : Ev prog clsT X d mc55 19 [(2, 9), (0, x1), (0, x2), (3, 0)] [(0, s0)] (mk E c s (hh g)) =
  (if cmpI .eq s0 0 = true then
  ((Call prog clsT X d 40 [(2, 9)] ((mk E c s (hh g)))).bind fun r1 => if r1.1.1 = 4 then none else
    Ev prog clsT X d mc55 26 [(2, 9), (0, x1), (0, x2), (0, 20006)] (pushR r1.1 []) r1.2)
else
  ((Call prog clsT X d 40 [(2, 9)] ((mk E c s (hh g)))).bind fun r2 => if r2.1.1 = 4 then none else
    Ev prog clsT X d mc55 26 [(2, 9), (0, x1), (0, x2), (0, 20005)] (pushR r2.1 []) r2.2)) :=
  (evk_at (r := (if cmpI .eq s0 0 = true then
  (if (2 : Nat) = 2 ∧ rcv ((mk E c s (hh g))) 9 6 = true then
    ((Call prog clsT X d 40 [(2, 9)] ((mk E c s (hh g)))).bind fun r1 => if r1.1.1 = 4 then none else
    Ev prog clsT X d mc55 26 [(2, 9), (0, x1), (0, x2), (0, 20006)] (pushR r1.1 []) r1.2) else none)
else
  (if (2 : Nat) = 2 ∧ rcv ((mk E c s (hh g))) 9 6 = true then
    ((Call prog clsT X d 40 [(2, 9)] ((mk E c s (hh g)))).bind fun r2 => if r2.1.1 = 4 then none else
    Ev prog clsT X d mc55 26 [(2, 9), (0, x1), (0, x2), (0, 20005)] (pushR r2.1 []) r2.2) else none))) X [0, 3, 5, 11, 15, 19, 26, 29, 33] 7 rfl).trans (by simp (maxSteps := 10000000) only [R9_6, bindI, Option.bind_some, if_true_, and_self, ite_true, true_and, true_or, or_true])
set_option maxRecDepth 100000 in
theorem r55_26 (d : Nat) (x1 x2 x3 : Int) : Ev prog clsT X d mc55 26 [(2, 9), (0, x1), (0, x2), (0, x3)] [] (mk E c s (hh g)) =
  ((Call prog clsT X d 56 [(2, 9), (0, x1)] ((mk E c s (hh g)))).bind fun r1 => if r1.1.1 = 4 then none else
  Ev prog clsT X d mc55 29 [(2, 9), (0, x1), (0, x2), (0, x3)] (pushR r1.1 []) r1.2) :=
  (evk_at (r := (if (2 : Nat) = 2 ∧ rcv ((mk E c s (hh g))) 9 6 = true then
  ((Call prog clsT X d 56 [(2, 9), (0, x1)] ((mk E c s (hh g)))).bind fun r1 => if r1.1.1 = 4 then none else
  Ev prog clsT X d mc55 29 [(2, 9), (0, x1), (0, x2), (0, x3)] (pushR r1.1 []) r1.2) else none)) X [0, 3, 5, 11, 15, 19, 26, 29, 33] 4 rfl).trans (by simp (maxSteps := 10000000) only [R9_6, bindI, Option.bind_some, if_true_, and_self, ite_true, true_and, true_or, or_true])
set_option maxRecDepth 100000 in
theorem r55_29 (d : Nat) (x1 x2 x3 : Int) : Ev prog clsT X d mc55 29 [(2, 9), (0, x1), (0, x2), (0, x3)] [] (mk E c s (hh g)) =
  (if (2 : Nat) = 2 ∧ rcv ((mk E c s (hh g))) ((g 9 2)) 8 = true then
  ((Call prog clsT X d 68 [(2, (g 9 2)), (0, x3)] ((mk E c s (hh g)))).bind fun r1 => if r1.1.1 = 4 then none else
  Ev prog clsT X d mc55 33 [(2, 9), (0, x1), (0, x2), (0, x3)] (pushR r1.1 []) r1.2) else none) :=
  (evk_at (r := ((fget 2570 ((mk E c s (hh g))) 9).bind fun v1 =>
  if (2 : Nat) = 2 ∧ rcv ((mk E c s (hh g))) v1 8 = true then
  ((Call prog clsT X d 68 [(2, v1), (0, x3)] ((mk E c s (hh g)))).bind fun r2 => if r2.1.1 = 4 then none else
  Ev prog clsT X d mc55 33 [(2, 9), (0, x1), (0, x2), (0, x3)] (pushR r2.1 []) r2.2) else none)) X [0, 3, 5, 11, 15, 19, 26, 29, 33] 5 rfl).trans (by simp (maxSteps := 10000000) only [↓F2570_9, bindI, Option.bind_some, if_true_, and_self, ite_true, true_and, true_or, or_true])
set_option maxRecDepth 100000 in
theorem r55_33 (d : Nat) (x1 x2 x3 : Int) : Ev prog clsT X d mc55 33 [(2, 9), (0, x1), (0, x2), (0, x3)] [] (mk E c s (hh g)) =
  (Ev prog clsT X d mc55 5 [(2, 9), (0, x1), (0, (w32 (x2 + 1))), (0, x3)] [] (mk E c s (hh g))) :=
  evk_at X [0, 3, 5, 11, 15, 19, 26, 29, 33] 4 rfl
set_option maxRecDepth 100000 in
theorem r56_0 (d : Nat) (x1 : Int) : Ev prog clsT X d mc56 0 [(2, 9), (0, x1), (3, 0)] [] (mk E c s (hh g)) =
  ((Call prog clsT X d 57 [(2, 9), (0, x1)] ((mk E c s (hh g)))).bind fun r1 => if r1.1.1 = 4 then none else
  Ev prog clsT X d mc56 3 [(2, 9), (0, x1), (3, 0)] (pushR r1.1 []) r1.2) :=
  (evk_at (r := (if (2 : Nat) = 2 ∧ rcv ((mk E c s (hh g))) 9 6 = true then
  ((Call prog clsT X d 57 [(2, 9), (0, x1)] ((mk E c s (hh g)))).bind fun r1 => if r1.1.1 = 4 then none else
  Ev prog clsT X d mc56 3 [(2, 9), (0, x1), (3, 0)] (pushR r1.1 []) r1.2) else none)) X [0, 3, 5, 11, 14, 17, 21] 4 rfl).trans (by simp (maxSteps := 10000000) only [R9_6, bindI, Option.bind_some, if_true_, and_self, ite_true, true_and, true_or, or_true])
set_option maxRecDepth 100000 in
theorem rc56_ (d : Nat) (x1 : Int) : Call prog clsT X (d + 1) 56 [(2, 9), (0, x1)] (mk E c s (hh g)) =
  ((Call prog clsT X d 57 [(2, 9), (0, x1)] ((mk E c s (hh g)))).bind fun r1 => if r1.1.1 = 4 then none else
  Ev prog clsT X d mc56 3 [(2, 9), (0, x1), (3, 0)] (pushR r1.1 []) r1.2) :=
  (show Call prog clsT X (d + 1) 56 [(2, 9), (0, x1)] (mk E c s (hh g)) = Ev prog clsT X d mc56 0 [(2, 9), (0, x1), (3, 0)] [] (mk E c s (hh g)) from rfl).trans (r56_0 X E c s g d x1 )
set_option maxRecDepth 100000 in
theorem r56_3 (d : Nat) (x1 : Int) : Ev prog clsT X d mc56 3 [(2, 9), (0, x1), (3, 0)] [] (mk E c s (hh g)) =
  (Ev prog clsT X d mc56 5 [(2, 9), (0, x1), (0, 0)] [] (mk E c s (hh g))) :=
  evk_at X [0, 3, 5, 11, 14, 17, 21] 4 rfl
set_option maxRecDepth 100000 in
theorem r56_5 (d : Nat) (x1 x2 : Int) : Ev prog clsT X d mc56 5 [(2, 9), (0, x1), (0, x2)] [] (mk E c s (hh g)) =
  (if cmpI .ge x2 1000 = true then
  (some ((3, 0), ((mk E c s (hh g)))))
else
  ((Call prog clsT X d 58 [(2, 9), (0, 42)] ((mk E c s (hh g)))).bind fun r1 => if r1.1.1 = 4 then none else
    Ev prog clsT X d mc56 11 [(2, 9), (0, x1), (0, x2)] (pushR r1.1 []) r1.2)) :=
  (evk_at (r := (if cmpI .ge x2 1000 = true then
  (some ((3, 0), (mk E c s (hh g))))
else
  (if (2 : Nat) = 2 ∧ rcv ((mk E c s (hh g))) 9 6 = true then
    ((Call prog clsT X d 58 [(2, 9), (0, 42)] ((mk E c s (hh g)))).bind fun r1 => if r1.1.1 = 4 then none else
    Ev prog clsT X d mc56 11 [(2, 9), (0, x1), (0, x2)] (pushR r1.1 []) r1.2) else none))) X [0, 3, 5, 11, 14, 17, 21] 7 rfl).trans (by simp (maxSteps := 10000000) only [R9_6, bindI, Option.bind_some, if_true_, and_self, ite_true, true_and, true_or, or_true])
set_option maxRecDepth 100000 in
theorem r56_11 (d : Nat) (x1 x2 s0 : Int) : Ev prog clsT X d mc56 11 [(2, 9), (0, x1), (0, x2)] [(0, s0)] (mk E c s (hh g)) =
  (if cmpI .eq s0 0 = true then
  (some ((3, 0), ((mk E c s (hh g)))))
else
  ((Call prog clsT X d 40 [(2, 9)] ((mk E c s (hh g)))).bind fun r1 => if r1.1.1 = 4 then none else
    Ev prog clsT X d mc56 14 [(2, 9), (0, x1), (0, x2)] (pushR r1.1 []) r1.2)) :=
  (evk_at (r := (if cmpI .eq s0 0 = true then
  (some ((3, 0), (mk E c s (hh g))))
else
  (if (2 : Nat) = 2 ∧ rcv ((mk E c s (hh g))) 9 6 = true then
    ((Call prog clsT X d 40 [(2, 9)] ((mk E c s (hh g)))).bind fun r1 => if r1.1.1 = 4 then none else
    Ev prog clsT X d mc56 14 [(2, 9), (0, x1), (0, x2)] (pushR r1.1 []) r1.2) else none))) X [0, 3, 5, 11, 14, 17, 21] 4 rfl).trans (by simp (maxSteps := 10000000) only [R9_6, bindI, Option.bind_some, if_true_, and_self, ite_true, true_and, true_or, or_true])
set_option maxRecDepth 100000 in
theorem r56_14 (d : Nat) (x1 x2 : Int) : Ev prog clsT X d mc56 14 [(2, 9), (0, x1), (0, x2)] [] (mk E c s (hh g)) =
  ((Call prog clsT X d 57 [(2, 9), (0, x1)] ((mk E c s (hh g)))).bind fun r1 => if r1.1.1 = 4 then none else
  Ev prog clsT X d mc56 17 [(2, 9), (0, x1), (0, x2)] (pushR r1.1 []) r1.2) :=
  (evk_at (r := (if (2 : Nat) = 2 ∧ rcv ((mk E c s (hh g))) 9 6 = true then
  ((Call prog clsT X d 57 [(2, 9), (0, x1)] ((mk E c s (hh g)))).bind fun r1 => if r1.1.1 = 4 then none else
  Ev prog clsT X d mc56 17 [(2, 9), (0, x1), (0, x2)] (pushR r1.1 []) r1.2) else none)) X [0, 3, 5, 11, 14, 17, 21] 4 rfl).trans (by simp (maxSteps := 10000000) only [R9_6, bindI, Option.bind_some, if_true_, and_self, ite_true, true_and, true_or, or_true])
set_option maxRecDepth 100000 in
theorem r56_17 (d : Nat) (x1 x2 : Int) : Ev prog clsT X d mc56 17 [(2, 9), (0, x1), (0, x2)] [] (mk E c s (hh g)) =
  (if (2 : Nat) = 2 ∧ rcv ((mk E c s (hh g))) ((g 9 2)) 8 = true then
  ((Call prog clsT X d 68 [(2, (g 9 2)), (0, 20007)] ((mk E c s (hh g)))).bind fun r1 => if r1.1.1 = 4 then none else
  Ev prog clsT X d mc56 21 [(2, 9), (0, x1), (0, x2)] (pushR r1.1 []) r1.2) else none) :=
  (evk_at (r := ((fget 2570 ((mk E c s (hh g))) 9).bind fun v1 =>
  if (2 : Nat) = 2 ∧ rcv ((mk E c s (hh g))) v1 8 = true then
  ((Call prog clsT X d 68 [(2, v1), (0, 20007)] ((mk E c s (hh g)))).bind fun r2 => if r2.1.1 = 4 then none else
  Ev prog clsT X d mc56 21 [(2, 9), (0, x1), (0, x2)] (pushR r2.1 []) r2.2) else none)) X [0, 3, 5, 11, 14, 17, 21] 5 rfl).trans (by simp (maxSteps := 10000000) only [↓F2570_9, bindI, Option.bind_some, if_true_, and_self, ite_true, true_and, true_or, or_true])
set_option maxRecDepth 100000 in
theorem r56_21 (d : Nat) (x1 x2 : Int) : Ev prog clsT X d mc56 21 [(2, 9), (0, x1), (0, x2)] [] (mk E c s (hh g)) =
  (Ev prog clsT X d mc56 5 [(2, 9), (0, x1), (0, (w32 (x2 + 1)))] [] (mk E c s (hh g))) :=
  evk_at X [0, 3, 5, 11, 14, 17, 21] 4 rfl
set_option maxRecDepth 100000 in
theorem r57_0 (d : Nat) (x1 : Int) : Ev prog clsT X d mc57 0 [(2, 9), (0, x1), (3, 0)] [] (mk E c s (hh g)) =
  ((Call prog clsT X d 44 [(2, 9), (2, (g 9 8))] ((mk E c s (hh g)))).bind fun r1 => if r1.1.1 = 4 then none else
  Ev prog clsT X d mc57 4 [(2, 9), (0, x1), (3, 0)] (pushR r1.1 []) r1.2) :=
  (evk_at (r := ((fget 2594 ((mk E c s (hh g))) 9).bind fun v1 =>
  if (2 : Nat) = 2 ∧ rcv ((mk E c s (hh g))) 9 6 = true then
  ((Call prog clsT X d 44 [(2, 9), (2, v1)] ((mk E c s (hh g)))).bind fun r2 => if r2.1.1 = 4 then none else
  Ev prog clsT X d mc57 4 [(2, 9), (0, x1), (3, 0)] (pushR r2.1 []) r2.2) else none)) X [0, 4, 15, 19, 23, 24, 30, 40, 42, 52, 54, 58, 61, 66, 70, 73, 78, 81] 5 rfl).trans (by simp (maxSteps := 10000000) only [R9_6, ↓F2594_9, bindI, Option.bind_some, if_true_, and_self, ite_true, true_and, true_or, or_true])
set_option maxRecDepth 100000 in
theorem rc57_ (d : Nat) (x1 : Int) : Call prog clsT X (d + 1) 57 [(2, 9), (0, x1)] (mk E c s (hh g)) =
  ((Call prog clsT X d 44 [(2, 9), (2, (g 9 8))] ((mk E c s (hh g)))).bind fun r1 => if r1.1.1 = 4 then none else
  Ev prog clsT X d mc57 4 [(2, 9), (0, x1), (3, 0)] (pushR r1.1 []) r1.2) :=
  (show Call prog clsT X (d + 1) 57 [(2, 9), (0, x1)] (mk E c s (hh g)) = Ev prog clsT X d mc57 0 [(2, 9), (0, x1), (3, 0)] [] (mk E c s (hh g)) from rfl).trans (r57_0 X E c s g d x1 )
set_option maxRecDepth 100000 in
theorem r57_4 (d : Nat) (x1 s0 : Int) : Ev prog clsT X d mc57 4 [(2, 9), (0, x1), (3, 0)] [(0, s0)] (mk E c s (hh g)) =
  (if cmpI .eq ((g 9 6)) 2 = true then
  (Ev prog clsT X d mc57 24 [(2, 9), (0, x1), (0, s0)] [] (mk E c s (hh g)))
else
  (if cmpI .ne s0 ((-1)) = true then
    (Ev prog clsT X d mc57 24 [(2, 9), (0, x1), (0, s0)] [] (mk E c s (hh g)))
  else
    ((Call prog clsT X d 50 [(2, 9), (2, (-16))] ((mk E c s (hh g)))).bind fun r1 => if r1.1.1 = 4 then none else
      Ev prog clsT X d mc57 15 [(2, 9), (0, x1), (0, s0)] (pushR r1.1 []) r1.2))) :=
  (evk_at (r := ((fget 2584 ((mk E c s (hh g))) 9).bind fun v1 =>
  if cmpI .eq v1 2 = true then
  (Ev prog clsT X d mc57 24 [(2, 9), (0, x1), (0, s0)] [] (mk E c s (hh g)))
else
  (if cmpI .ne s0 ((-1)) = true then
    (Ev prog clsT X d mc57 24 [(2, 9), (0, x1), (0, s0)] [] (mk E c s (hh g)))
  else
    (if (2 : Nat) = 2 ∧ rcv ((mk E c s (hh g))) 9 6 = true then
      ((Call prog clsT X d 50 [(2, 9), (2, (-16))] ((mk E c s (hh g)))).bind fun r2 => if r2.1.1 = 4 then none else
      Ev prog clsT X d mc57 15 [(2, 9), (0, x1), (0, s0)] (pushR r2.1 []) r2.2) else none)))) X [0, 4, 15, 19, 23, 24, 30, 40, 42, 52, 54, 58, 61, 66, 70, 73, 78, 81] 12 rfl).trans (by simp (maxSteps := 10000000) only [R9_6, ↓F2584_9, bindI, Option.bind_some, if_true_, and_self, ite_true, true_and, true_or, or_true])
set_option maxRecDepth 100000 in
theorem r57_15 (d : Nat) (x1 x2 s0 : Int) : Ev prog clsT X d mc57 15 [(2, 9), (0, x1), (0, x2)] [(0, s0)] (mk E c s (hh g)) =
  (if cmpI .ne s0 0 = true then
  (Ev prog clsT X d mc57 24 [(2, 9), (0, x1), (0, x2)] [] (mk E c s (hh g)))
else
  ((Call prog clsT X d 58 [(2, 9), (0, 40)] ((mk E c s (hh g)))).bind fun r1 => if r1.1.1 = 4 then none else
    Ev prog clsT X d mc57 19 [(2, 9), (0, x1), (0, x2)] (pushR r1.1 []) r1.2)) :=
  (evk_at (r := (if cmpI .ne s0 0 = true then
  (Ev prog clsT X d mc57 24 [(2, 9), (0, x1), (0, x2)] [] (mk E c s (hh g)))
else
  (if (2 : Nat) = 2 ∧ rcv ((mk E c s (hh g))) 9 6 = true then
    ((Call prog clsT X d 58 [(2, 9), (0, 40)] ((mk E c s (hh g)))).bind fun r1 => if r1.1.1 = 4 then none else
    Ev prog clsT X d mc57 19 [(2, 9), (0, x1), (0, x2)] (pushR r1.1 []) r1.2) else none))) X [0, 4, 15, 19, 23, 24, 30, 40, 42, 52, 54, 58, 61, 66, 70, 73, 78, 81] 5 rfl).trans (by simp (maxSteps := 10000000) only [R9_6, bindI, Option.bind_some, if_true_, and_self, ite_true, true_and, true_or, or_true])
set_option maxRecDepth 100000 in
theorem r57_19 (d : Nat) (x1 x2 s0 : Int) : Ev prog clsT X d mc57 19 [(2, 9), (0, x1), (0, x2)] [(0, s0)] (mk E c s (hh g)) =
  (if cmpI .ne s0 0 = true then
  (Ev prog clsT X d mc57 24 [(2, 9), (0, x1), (0, x2)] [] (mk E c s (hh g)))
else
  ((Call prog clsT X d 46 [(2, 9), (0, 1)] ((mk E c s (hh g)))).bind fun r1 => if r1.1.1 = 4 then none else
    Ev prog clsT X d mc57 23 [(2, 9), (0, x1), (0, x2)] (pushR r1.1 []) r1.2)) :=
  (evk_at (r := (if cmpI .ne s0 0 = true then
  (Ev prog clsT X d mc57 24 [(2, 9), (0, x1), (0, x2)] [] (mk E c s (hh g)))
else
  (if (2 : Nat) = 2 ∧ rcv ((mk E c s (hh g))) 9 6 = true then
    ((Call prog clsT X d 46 [(2, 9), (0, 1)] ((mk E c s (hh g)))).bind fun r1 => if r1.1.1 = 4 then none else
    Ev prog clsT X d mc57 23 [(2, 9), (0, x1), (0, x2)] (pushR r1.1 []) r1.2) else none))) X [0, 4, 15, 19, 23, 24, 30, 40, 42, 52, 54, 58, 61, 66, 70, 73, 78, 81] 5 rfl).trans (by simp (maxSteps := 10000000) only [R9_6, bindI, Option.bind_some, if_true_, and_self, ite_true, true_and, true_or, or_true])
set_option maxRecDepth 100000 in
theorem r57_23 (d : Nat) (x1 x2 : Int) : Ev prog clsT X d mc57 23 [(2, 9), (0, x1), (0, x2)] [] (mk E c s (hh g)) =
  (Ev prog clsT X d mc57 81 [(2, 9), (0, x1), (0, x2)] [] (mk E c s (hh g))) :=
  evk_at X [0, 4, 15, 19, 23, 24, 30, 40, 42, 52, 54, 58, 61, 66, 70, 73, 78, 81] 3 rfl
set_option maxRecDepth 100000 in
theorem r57_24 (d : Nat) (x1 x2 : Int) : Ev prog clsT X d mc57 24 [(2, 9), (0, x1), (0, x2)] [] (mk E c s (hh g)) =
  (if cmpI .lt x1 5 = true then
  (if cmpI .ne ((g 9 6)) 2 = true then
    (if cmpI .eq x2 ((-1)) = true then
      ((Call prog clsT X d 50 [(2, 9), (2, (-16))] ((mk E c s (hh g)))).bind fun r1 => if r1.1.1 = 4 then none else
        Ev prog clsT X d mc57 58 [(2, 9), (0, x1), (0, x2)] (pushR r1.1 []) r1.2)
    else
      (if (2 : Nat) = 2 ∧ rcv ((mk E c s (hh g))) ((g 9 2)) 8 = true then
        ((Call prog clsT X d 68 [(2, (g 9 2)), (0, (w32 (10000 + x2)))] ((mk E c s (hh g)))).bind fun r2 => if r2.1.1 = 4 then none else
        Ev prog clsT X d mc57 52 [(2, 9), (0, x1), (0, x2)] (pushR r2.1 []) r2.2) else none))
  else
    (if (2 : Nat) = 2 ∧ rcv ((mk E c s (hh g))) ((g 9 2)) 8 = true then
      ((Call prog clsT X d 68 [(2, (g 9 2)), (0, (g 9 7))] ((mk E c s (hh g)))).bind fun r3 => if r3.1.1 = 4 then none else
      Ev prog clsT X d mc57 40 [(2, 9), (0, x1), (0, x2)] (pushR r3.1 []) r3.2) else none))
else
  ((Call prog clsT X d 46 [(2, 9), (0, 5)] ((mk E c s (hh g)))).bind fun r4 => if r4.1.1 = 4 then none else
    Ev prog clsT X d mc57 30 [(2, 9), (0, x1), (0, x2)] (pushR r4.1 []) r4.2)) :=
  (evk_at (r := (if cmpI .lt x1 5 = true then
  ((fget 2584 ((mk E c s (hh g))) 9).bind fun v1 =>
    if cmpI .ne v1 2 = true then
    (if cmpI .eq x2 ((-1)) = true then
      (if (2 : Nat) = 2 ∧ rcv ((mk E c s (hh g))) 9 6 = true then
        ((Call prog clsT X d 50 [(2, 9), (2, (-16))] ((mk E c s (hh g)))).bind fun r2 => if r2.1.1 = 4 then none else
        Ev prog clsT X d mc57 58 [(2, 9), (0, x1), (0, x2)] (pushR r2.1 []) r2.2) else none)
    else
      ((fget 2570 ((mk E c s (hh g))) 9).bind fun v3 =>
        if (2 : Nat) = 2 ∧ rcv ((mk E c s (hh g))) v3 8 = true then
        ((Call prog clsT X d 68 [(2, v3), (0, (w32 (10000 + x2)))] ((mk E c s (hh g)))).bind fun r4 => if r4.1.1 = 4 then none else
        Ev prog clsT X d mc57 52 [(2, 9), (0, x1), (0, x2)] (pushR r4.1 []) r4.2) else none))
  else
    ((fget 2570 ((mk E c s (hh g))) 9).bind fun v5 =>
      (fget 2588 ((mk E c s (hh g))) 9).bind fun v6 =>
      if (2 : Nat) = 2 ∧ rcv ((mk E c s (hh g))) v5 8 = true then
      ((Call prog clsT X d 68 [(2, v5), (0, v6)] ((mk E c s (hh g)))).bind fun r7 => if r7.1.1 = 4 then none else
      Ev prog clsT X d mc57 40 [(2, 9), (0, x1), (0, x2)] (pushR r7.1 []) r7.2) else none))
else
  (if (2 : Nat) = 2 ∧ rcv ((mk E c s (hh g))) 9 6 = true then
    ((Call prog clsT X d 46 [(2, 9), (0, 5)] ((mk E c s (hh g)))).bind fun r8 => if r8.1.1 = 4 then none else
    Ev prog clsT X d mc57 30 [(2, 9), (0, x1), (0, x2)] (pushR r8.1 []) r8.2) else none))) X [0, 4, 15, 19, 23, 24, 30, 40, 42, 52, 54, 58, 61, 66, 70, 73, 78, 81] 17 rfl).trans (by simp (maxSteps := 10000000) only [R9_6, ↓F2570_9, ↓F2584_9, ↓F2588_9, bindI, Option.bind_some, if_true_, and_self, ite_true, true_and, true_or, or_true])
set_option maxRecDepth 100000 in
theorem r57_30 (d : Nat) (x1 x2 : Int) : Ev prog clsT X d mc57 30 [(2, 9), (0, x1), (0, x2)] [] (mk E c s (hh g)) =
  (Ev prog clsT X d mc57 81 [(2, 9), (0, x1), (0, x2)] [] (mk E c s (hh g))) :=
  evk_at X [0, 4, 15, 19, 23, 24, 30, 40, 42, 52, 54, 58, 61, 66, 70, 73, 78, 81] 3 rfl
set_option maxRecDepth 100000 in
theorem r57_40 (d : Nat) (x1 x2 : Int) : Ev prog clsT X d mc57 40 [(2, 9), (0, x1), (0, x2)] [] (mk E c s (hh g)) =
  ((Call prog clsT X d 40 [(2, 9)] ((mk E c s (hh g)))).bind fun r1 => if r1.1.1 = 4 then none else
  Ev prog clsT X d mc57 42 [(2, 9), (0, x1), (0, x2)] (pushR r1.1 []) r1.2) :=
  (evk_at (r := (if (2 : Nat) = 2 ∧ rcv ((mk E c s (hh g))) 9 6 = true then
  ((Call prog clsT X d 40 [(2, 9)] ((mk E c s (hh g)))).bind fun r1 => if r1.1.1 = 4 then none else
  Ev prog clsT X d mc57 42 [(2, 9), (0, x1), (0, x2)] (pushR r1.1 []) r1.2) else none)) X [0, 4, 15, 19, 23, 24, 30, 40, 42, 52, 54, 58, 61, 66, 70, 73, 78, 81] 3 rfl).trans (by simp (maxSteps := 10000000) only [R9_6, bindI, Option.bind_some, if_true_, and_self, ite_true, true_and, true_or, or_true])
set_option maxRecDepth 100000 in
theorem r57_42 (d : Nat) (x1 x2 : Int) : Ev prog clsT X d mc57 42 [(2, 9), (0, x1), (0, x2)] [] (mk E c s (hh g)) =
  (Ev prog clsT X d mc57 81 [(2, 9), (0, x1), (0, x2)] [] (mk E c s (hh g))) :=
  evk_at X [0, 4, 15, 19, 23, 24, 30, 40, 42, 52, 54, 58, 61, 66, 70, 73, 78, 81] 3 rfl
set_option maxRecDepth 100000 in
theorem r57_52 (d : Nat) (x1 x2 : Int) : Ev prog clsT X d mc57 52 [(2, 9), (0, x1), (0, x2)] [] (mk E c s (hh g)) =
  ((Call prog clsT X d 40 [(2, 9)] ((mk E c s (hh g)))).bind fun r1 => if r1.1.1 = 4 then none else
  Ev prog clsT X d mc57 54 [(2, 9), (0, x1), (0, x2)] (pushR r1.1 []) r1.2) :=
  (evk_at (r := (if (2 : Nat) = 2 ∧ rcv ((mk E c s (hh g))) 9 6 = true then
  ((Call prog clsT X d 40 [(2, 9)] ((mk E c s (hh g)))).bind fun r1 => if r1.1.1 = 4 then none else
  Ev prog clsT X d mc57 54 [(2, 9), (0, x1), (0, x2)] (pushR r1.1 []) r1.2) else none)) X [0, 4, 15, 19, 23, 24, 30, 40, 42, 52, 54, 58, 61, 66, 70, 73, 78, 81] 3 rfl).trans (by simp (maxSteps := 10000000) only [R9_6, bindI, Option.bind_some, if_true_, and_self, ite_true, true_and, true_or, or_true])
set_option maxRecDepth 100000 in
theorem r57_54 (d : Nat) (x1 x2 : Int) : Ev prog clsT X d mc57 54 [(2, 9), (0, x1), (0, x2)] [] (mk E c s (hh g)) =
  (Ev prog clsT X d mc57 81 [(2, 9), (0, x1), (0, x2)] [] (mk E c s (hh g))) :=
  evk_at X [0, 4, 15, 19, 23, 24, 30, 40, 42, 52, 54, 58, 61, 66, 70, 73, 78, 81] 3 rfl
set_option maxRecDepth 100000 in
theorem r57_58 (d : Nat) (x1 x2 s0 : Int) : Ev prog clsT X d mc57 58 [(2, 9), (0, x1), (0, x2)] [(0, s0)] (mk E c s (hh g)) =
  (if cmpI .eq s0 0 = true then
  ((Call prog clsT X d 40 [(2, 9)] ((mk E c s (hh g)))).bind fun r1 => if r1.1.1 = 4 then none else
    Ev prog clsT X d mc57 73 [(2, 9), (0, x1), (0, x2)] (pushR r1.1 []) r1.2)
else
  ((Call prog clsT X d 40 [(2, 9)] ((mk E c s (hh g)))).bind fun r2 => if r2.1.1 = 4 then none else
    Ev prog clsT X d mc57 61 [(2, 9), (0, x1), (0, x2)] (pushR r2.1 []) r2.2)) :=
  (evk_at (r := (if cmpI .eq s0 0 = true then
  (if (2 : Nat) = 2 ∧ rcv ((mk E c s (hh g))) 9 6 = true then
    ((Call prog clsT X d 40 [(2, 9)] ((mk E c s (hh g)))).bind fun r1 => if r1.1.1 = 4 then none else
    Ev prog clsT X d mc57 73 [(2, 9), (0, x1), (0, x2)] (pushR r1.1 []) r1.2) else none)
else
  (if (2 : Nat) = 2 ∧ rcv ((mk E c s (hh g))) 9 6 = true then
    ((Call prog clsT X d 40 [(2, 9)] ((mk E c s (hh g)))).bind fun r2 => if r2.1.1 = 4 then none else
    Ev prog clsT X d mc57 61 [(2, 9), (0, x1), (0, x2)] (pushR r2.1 []) r2.2) else none))) X [0, 4, 15, 19, 23, 24, 30, 40, 42, 52, 54, 58, 61, 66, 70, 73, 78, 81] 4 rfl).trans (by simp (maxSteps := 10000000) only [R9_6, bindI, Option.bind_some, if_true_, and_self, ite_true, true_and, true_or, or_true])
set_option maxRecDepth 100000 in
theorem r57_61 (d : Nat) (x1 x2 : Int) : Ev prog clsT X d mc57 61 [(2, 9), (0, x1), (0, x2)] [] (mk E c s (hh g)) =
  ((Call prog clsT X d 57 [(2, 9), (0, (w32 (x1 + 1)))] ((mk E c s (hh g)))).bind fun r1 => if r1.1.1 = 4 then none else
  Ev prog clsT X d mc57 66 [(2, 9), (0, x1), (0, x2)] (pushR r1.1 []) r1.2) :=
  (evk_at (r := (if (2 : Nat) = 2 ∧ rcv ((mk E c s (hh g))) 9 6 = true then
  ((Call prog clsT X d 57 [(2, 9), (0, (w32 (x1 + 1)))] ((mk E c s (hh g)))).bind fun r1 => if r1.1.1 = 4 then none else
  Ev prog clsT X d mc57 66 [(2, 9), (0, x1), (0, x2)] (pushR r1.1 []) r1.2) else none)) X [0, 4, 15, 19, 23, 24, 30, 40, 42, 52, 54, 58, 61, 66, 70, 73, 78, 81] 6 rfl).trans (by simp (maxSteps := 10000000) only [R9_6, bindI, Option.bind_some, if_true_, and_self, ite_true, true_and, true_or, or_true])
set_option maxRecDepth 100000 in
theorem r57_66 (d : Nat) (x1 x2 : Int) : Ev prog clsT X d mc57 66 [(2, 9), (0, x1), (0, x2)] [] (mk E c s (hh g)) =
  (if (2 : Nat) = 2 ∧ rcv ((mk E c s (hh g))) ((g 9 2)) 8 = true then
  ((Call prog clsT X d 68 [(2, (g 9 2)), (0, 20000)] ((mk E c s (hh g)))).bind fun r1 => if r1.1.1 = 4 then none else
  Ev prog clsT X d mc57 70 [(2, 9), (0, x1), (0, x2)] (pushR r1.1 []) r1.2) else none) :=
  (evk_at (r := ((fget 2570 ((mk E c s (hh g))) 9).bind fun v1 =>
  if (2 : Nat) = 2 ∧ rcv ((mk E c s (hh g))) v1 8 = true then
  ((Call prog clsT X d 68 [(2, v1), (0, 20000)] ((mk E c s (hh g)))).bind fun r2 => if r2.1.1 = 4 then none else
  Ev prog clsT X d mc57 70 [(2, 9), (0, x1), (0, x2)] (pushR r2.1 []) r2.2) else none)) X [0, 4, 15, 19, 23, 24, 30, 40, 42, 52, 54, 58, 61, 66, 70, 73, 78, 81] 5 rfl).trans (by simp (maxSteps := 10000000) only [↓F2570_9, bindI, Option.bind_some, if_true_, and_self, ite_true, true_and, true_or, or_true])
set_option maxRecDepth 100000 in
theorem r57_70 (d : Nat) (x1 x2 : Int) : Ev prog clsT X d mc57 70 [(2, 9), (0, x1), (0, x2)] [] (mk E c s (hh g)) =
  (Ev prog clsT X d mc57 81 [(2, 9), (0, x1), (0, x2)] [] (mk E c s (hh g))) :=
  evk_at X [0, 4, 15, 19, 23, 24, 30, 40, 42, 52, 54, 58, 61, 66, 70, 73, 78, 81] 3 rfl
set_option maxRecDepth 100000 in
theorem r57_73 (d : Nat) (x1 x2 : Int) : Ev prog clsT X d mc57 73 [(2, 9), (0, x1), (0, x2)] [] (mk E c s (hh g)) =
  ((Call prog clsT X d 53 [(2, 9), (0, (w32 (x1 + 1)))] ((mk E c s (hh g)))).bind fun r1 => if r1.1.1 = 4 then none else
  Ev prog clsT X d mc57 78 [(2, 9), (0, x1), (0, x2)] (pushR r1.1 []) r1.2) :=
  (evk_at (r := (if (2 : Nat) = 2 ∧ rcv ((mk E c s (hh g))) 9 6 = true then
  ((Call prog clsT X d 53 [(2, 9), (0, (w32 (x1 + 1)))] ((mk E c s (hh g)))).bind fun r1 => if r1.1.1 = 4 then none else
  Ev prog clsT X d mc57 78 [(2, 9), (0, x1), (0, x2)] (pushR r1.1 []) r1.2) else none)) X [0, 4, 15, 19, 23, 24, 30, 40, 42, 52, 54, 58, 61, 66, 70, 73, 78, 81] 6 rfl).trans (by simp (maxSteps := 10000000) only [R9_6, bindI, Option.bind_some, if_true_, and_self, ite_true, true_and, true_or, or_true])
set_option maxRecDepth 100000 in
theorem r57_78 (d : Nat) (x1 x2 : Int) : Ev prog clsT X d mc57 78 [(2, 9), (0, x1), (0, x2)] [] (mk E c s (hh g)) =
  ((Call prog clsT X d 59 [(2, 9), (0, 41)] ((mk E c s (hh g)))).bind fun r1 => if r1.1.1 = 4 then none else
  Ev prog clsT X d mc57 81 [(2, 9), (0, x1), (0, x2)] (pushR r1.1 []) r1.2) :=
  (evk_at (r := (if (2 : Nat) = 2 ∧ rcv ((mk E c s (hh g))) 9 6 = true then
  ((Call prog clsT X d 59 [(2, 9), (0, 41)] ((mk E c s (hh g)))).bind fun r1 => if r1.1.1 = 4 then none else
  Ev prog clsT X d mc57 81 [(2, 9), (0, x1), (0, x2)] (pushR r1.1 []) r1.2) else none)) X [0, 4, 15, 19, 23, 24, 30, 40, 42, 52, 54, 58, 61, 66, 70, 73, 78, 81] 4 rfl).trans (by simp (maxSteps := 10000000) only [R9_6, bindI, Option.bind_some, if_true_, and_self, ite_true, true_and, true_or, or_true])
set_option maxRecDepth 100000 in
theorem r57_81 (d : Nat) (x1 x2 : Int) : Ev prog clsT X d mc57 81 [(2, 9), (0, x1), (0, x2)] [] (mk E c s (hh g)) =
  (some ((3, 0), ((mk E c s (hh g))))) :=
  (evk_at (r := (some ((3, 0), (mk E c s (hh g))))) X [0, 4, 15, 19, 23, 24, 30, 40, 42, 52, 54, 58, 61, 66, 70, 73, 78, 81] 2 rfl).trans (by simp (maxSteps := 10000000) only [bindI, Option.bind_some, if_true_, and_self, ite_true, true_and, true_or, or_true])
set_option maxRecDepth 100000 in
theorem r58_0 (d : Nat) (x1 : Int) : Ev prog clsT X d mc58 0 [(2, 9), (0, x1)] [] (mk E c s (hh g)) =
  (if cmpI .ne ((g 9 6)) 3 = true then
  (some ((0, 0), ((mk E c s (hh g)))))
else
  (if inb ((g 9 5)) 1000 = true then
    (if cmpI .ne ((g 10 (Int.toNat ((g 9 5))))) x1 = true then
    (some ((0, 0), ((mk E c s (hh g)))))
  else
    (some ((0, 1), ((mk E c s (hh g))))))
  else none)) :=
  (evk_at (r := ((fget 2584 ((mk E c s (hh g))) 9).bind fun v1 =>
  if cmpI .ne v1 3 = true then
  (some ((0, 0), (mk E c s (hh g))))
else
  ((fget 2562 ((mk E c s (hh g))) 9).bind fun v2 =>
    (fget 2580 ((mk E c s (hh g))) 9).bind fun v3 =>
    (aget X 103 ((mk E c s (hh g))) v2 v3).bind fun v4 =>
    if cmpI .ne v4 x1 = true then
    (some ((0, 0), (mk E c s (hh g))))
  else
    (some ((0, 1), (mk E c s (hh g))))))) X [0] 15 rfl).trans (by simp (maxSteps := 10000000) only [↓A10, ↓F2562_9, ↓F2580_9, ↓F2584_9, bindI, Option.bind_some, if_true_, and_self, ite_true, true_and, true_or, or_true])
set_option maxRecDepth 100000 in
theorem rc58_ (d : Nat) (x1 : Int) : Call prog clsT X (d + 1) 58 [(2, 9), (0, x1)] (mk E c s (hh g)) =
  (if cmpI .ne ((g 9 6)) 3 = true then
  (some ((0, 0), ((mk E c s (hh g)))))
else
  (if inb ((g 9 5)) 1000 = true then
    (if cmpI .ne ((g 10 (Int.toNat ((g 9 5))))) x1 = true then
    (some ((0, 0), ((mk E c s (hh g)))))
  else
    (some ((0, 1), ((mk E c s (hh g))))))
  else none)) :=
  (show Call prog clsT X (d + 1) 58 [(2, 9), (0, x1)] (mk E c s (hh g)) = Ev prog clsT X d mc58 0 [(2, 9), (0, x1)] [] (mk E c s (hh g)) from rfl).trans (r58_0 X E c s g d x1 )
set_option maxRecDepth 100000 in
theorem r59_0 (d : Nat) (x1 : Int) : Ev prog clsT X d mc59 0 [(2, 9), (0, x1)] [] (mk E c s (hh g)) =
  ((Call prog clsT X d 58 [(2, 9), (0, x1)] ((mk E c s (hh g)))).bind fun r1 => if r1.1.1 = 4 then none else
  Ev prog clsT X d mc59 3 [(2, 9), (0, x1)] (pushR r1.1 []) r1.2) :=
  (evk_at (r := (if (2 : Nat) = 2 ∧ rcv ((mk E c s (hh g))) 9 6 = true then
  ((Call prog clsT X d 58 [(2, 9), (0, x1)] ((mk E c s (hh g)))).bind fun r1 => if r1.1.1 = 4 then none else
  Ev prog clsT X d mc59 3 [(2, 9), (0, x1)] (pushR r1.1 []) r1.2) else none)) X [0, 3, 7, 9] 4 rfl).trans (by simp (maxSteps := 10000000) only [R9_6, bindI, Option.bind_some, if_true_, and_self, ite_true, true_and, true_or, or_true])
set_option maxRecDepth 100000 in
theorem rc59_ (d : Nat) (x1 : Int) : Call prog clsT X (d + 1) 59 [(2, 9), (0, x1)] (mk E c s (hh g)) =
  ((Call prog clsT X d 58 [(2, 9), (0, x1)] ((mk E c s (hh g)))).bind fun r1 => if r1.1.1 = 4 then none else
  Ev prog clsT X d mc59 3 [(2, 9), (0, x1)] (pushR r1.1 []) r1.2) :=
  (show Call prog clsT X (d + 1) 59 [(2, 9), (0, x1)] (mk E c s (hh g)) = Ev prog clsT X d mc59 0 [(2, 9), (0, x1)] [] (mk E c s (hh g)) from rfl).trans (r59_0 X E c s g d x1 )
set_option maxRecDepth 100000 in
theorem r59_3 (d : Nat) (x1 s0 : Int) : Ev prog clsT X d mc59 3 [(2, 9), (0, x1)] [(0, s0)] (mk E c s (hh g)) =
  (if cmpI .ne s0 0 = true then
  (Ev prog clsT X d mc59 7 [(2, 9), (0, x1)] [] (mk E c s (hh g)))
else
  ((Call prog clsT X d 46 [(2, 9), (0, 1)] ((mk E c s (hh g)))).bind fun r1 => if r1.1.1 = 4 then none else
    Ev prog clsT X d mc59 7 [(2, 9), (0, x1)] (pushR r1.1 []) r1.2)) :=
  (evk_at (r := (if cmpI .ne s0 0 = true then
  (Ev prog clsT X d mc59 7 [(2, 9), (0, x1)] [] (mk E c s (hh g)))
else
  (if (2 : Nat) = 2 ∧ rcv ((mk E c s (hh g))) 9 6 = true then
    ((Call prog clsT X d 46 [(2, 9), (0, 1)] ((mk E c s (hh g)))).bind fun r1 => if r1.1.1 = 4 then none else
    Ev prog clsT X d mc59 7 [(2, 9), (0, x1)] (pushR r1.1 []) r1.2) else none))) X [0, 3, 7, 9] 5 rfl).trans (by simp (maxSteps := 10000000) only [R9_6, bindI, Option.bind_some, if_true_, and_self, ite_true, true_and, true_or, or_true])
set_option maxRecDepth 100000 in
theorem r59_7 (d : Nat) (x1 : Int) : Ev prog clsT X d mc59 7 [(2, 9), (0, x1)] [] (mk E c s (hh g)) =
  ((Call prog clsT X d 40 [(2, 9)] ((mk E c s (hh g)))).bind fun r1 => if r1.1.1 = 4 then none else
  Ev prog clsT X d mc59 9 [(2, 9), (0, x1)] (pushR r1.1 []) r1.2) :=
  (evk_at (r := (if (2 : Nat) = 2 ∧ rcv ((mk E c s (hh g))) 9 6 = true then
  ((Call prog clsT X d 40 [(2, 9)] ((mk E c s (hh g)))).bind fun r1 => if r1.1.1 = 4 then none else
  Ev prog clsT X d mc59 9 [(2, 9), (0, x1)] (pushR r1.1 []) r1.2) else none)) X [0, 3, 7, 9] 3 rfl).trans (by simp (maxSteps := 10000000) only [R9_6, bindI, Option.bind_some, if_true_, and_self, ite_true, true_and, true_or, or_true])
set_option maxRecDepth 100000 in
theorem r59_9 (d : Nat) (x1 : Int) : Ev prog clsT X d mc59 9 [(2, 9), (0, x1)] [] (mk E c s (hh g)) =
  (some ((3, 0), ((mk E c s (hh g))))) :=
  (evk_at (r := (some ((3, 0), (mk E c s (hh g))))) X [0, 3, 7, 9] 2 rfl).trans (by simp (maxSteps := 10000000) only [bindI, Option.bind_some, if_true_, and_self, ite_true, true_and, true_or, or_true])
set_option maxRecDepth 100000 in
theorem r61_0 (d : Nat) (x1 : Int) : Ev prog clsT X d mc61 0 [(2, 48), (0, x1), (3, 0)] [] (mk E c s (hh g)) =
  ((Call prog clsT X d 248 [(2, 51), (0, (-1))] ((mk E c s (hh (up g 48 6 x1))))).bind fun r1 => if r1.1.1 = 4 then none else
  Ev prog clsT X d mc61 7 [(2, 48), (0, x1), (3, 0)] (pushR r1.1 []) r1.2) :=
  (evk_at (r := ((fput 3096 ((mk E c s (hh g))) 48 x1).bind fun M1 =>
  (fget 3082 M1 48).bind fun v2 =>
  (Call prog clsT X d 248 [(2, v2), (0, (-1))] M1).bind fun r3 => if r3.1.1 = 4 then none else
  Ev prog clsT X d mc61 7 [(2, 48), (0, x1), (3, 0)] (pushR r3.1 []) r3.2)) X [0, 7, 9, 14, 21, 25] 8 rfl).trans (by simp (maxSteps := 10000000) only [↓F3082_48, ↓W3096_48, bindI, Option.bind_some, if_true_, and_self, ite_true, true_and, true_or, or_true])
set_option maxRecDepth 100000 in
theorem rc61_ (d : Nat) (x1 : Int) : Call prog clsT X (d + 1) 61 [(2, 48), (0, x1)] (mk E c s (hh g)) =
  ((Call prog clsT X d 248 [(2, 51), (0, (-1))] ((mk E c s (hh (up g 48 6 x1))))).bind fun r1 => if r1.1.1 = 4 then none else
  Ev prog clsT X d mc61 7 [(2, 48), (0, x1), (3, 0)] (pushR r1.1 []) r1.2) :=
  (show Call prog clsT X (d + 1) 61 [(2, 48), (0, x1)] (mk E c s (hh g)) = Ev prog clsT X d mc61 0 [(2, 48), (0, x1), (3, 0)] [] (mk E c s (hh g)) from rfl).trans (r61_0 X E c s g d x1 )
set_option maxRecDepth 100000 in
theorem r61_7 (d : Nat) (x1 : Int) : Ev prog clsT X d mc61 7 [(2, 48), (0, x1), (3, 0)] [] (mk E c s (hh g)) =
  ((Call prog clsT X d 62 [(2, 48)] ((mk E c s (hh g)))).bind fun r1 => if r1.1.1 = 4 then none else
  Ev prog clsT X d mc61 9 [(2, 48), (0, x1), (3, 0)] (pushR r1.1 []) r1.2) :=
  (evk_at (r := (if (2 : Nat) = 2 ∧ rcv ((mk E c s (hh g))) 48 7 = true then
  ((Call prog clsT X d 62 [(2, 48)] ((mk E c s (hh g)))).bind fun r1 => if r1.1.1 = 4 then none else
  Ev prog clsT X d mc61 9 [(2, 48), (0, x1), (3, 0)] (pushR r1.1 []) r1.2) else none)) X [0, 7, 9, 14, 21, 25] 3 rfl).trans (by simp (maxSteps := 10000000) only [R48_7, bindI, Option.bind_some, if_true_, and_self, ite_true, true_and, true_or, or_true])
set_option maxRecDepth 100000 in
theorem r61_9 (d : Nat) (x1 s0 : Int) : Ev prog clsT X d mc61 9 [(2, 48), (0, x1), (3, 0)] [(0, s0)] (mk E c s (hh g)) =
  (if cmpI .ne s0 0 = true then
  (Ev prog clsT X d mc61 14 [(2, 48), (0, x1), (0, 0)] [] (mk E c s (hh g)))
else
  (some ((0, (-1)), ((mk E c s (hh g)))))) :=
  (evk_at (r := (if cmpI .ne s0 0 = true then
  (Ev prog clsT X d mc61 14 [(2, 48), (0, x1), (0, 0)] [] (mk E c s (hh g)))
else
  (some ((0, (-1)), (mk E c s (hh g)))))) X [0, 7, 9, 14, 21, 25] 5 rfl).trans (by simp (maxSteps := 10000000) only [bindI, Option.bind_some, if_true_, and_self, ite_true, true_and, true_or, or_true])
set_option maxRecDepth 100000 in
theorem r61_14 (d : Nat) (x2 : Int) (w1 : MV) : Ev prog clsT X d mc61 14 [(2, 48), w1, (0, x2)] [] (mk E c s (hh g)) =
  (if cmpI .gt x2 8 = true then
  (some ((0, (-1)), ((mk E c s (hh g)))))
else
  ((Call prog clsT X d 248 [(2, 52), (0, 0)] ((mk E c s (hh g)))).bind fun r1 => if r1.1.1 = 4 then none else
    Ev prog clsT X d mc61 21 [(2, 48), (3, 0), (0, x2)] (pushR r1.1 []) r1.2)) :=
  (evk_at (r := (if cmpI .gt x2 8 = true then
  (some ((0, (-1)), (mk E c s (hh g))))
else
  ((fget 3086 ((mk E c s (hh g))) 48).bind fun v1 =>
    (Call prog clsT X d 248 [(2, v1), (0, 0)] ((mk E c s (hh g)))).bind fun r2 => if r2.1.1 = 4 then none else
    Ev prog clsT X d mc61 21 [(2, 48), (3, 0), (0, x2)] (pushR r2.1 []) r2.2))) X [0, 7, 9, 14, 21, 25] 8 rfl).trans (by simp (maxSteps := 10000000) only [↓F3086_48, bindI, Option.bind_some, if_true_, and_self, ite_true, true_and, true_or, or_true])
set_option maxRecDepth 100000 in
theorem r61_21 (d : Nat) (x2 : Int) : Ev prog clsT X d mc61 21 [(2, 48), (3, 0), (0, x2)] [] (mk E c s (hh g)) =
  ((Call prog clsT X d 63 [(2, 48), (0, 0), (0, x2)] ((mk E c s (hh g)))).bind fun r1 => if r1.1.1 = 4 then none else
  Ev prog clsT X d mc61 25 [(2, 48), (3, 0), (0, x2)] (pushR r1.1 []) r1.2) :=
  (evk_at (r := (if (2 : Nat) = 2 ∧ rcv ((mk E c s (hh g))) 48 7 = true then
  ((Call prog clsT X d 63 [(2, 48), (0, 0), (0, x2)] ((mk E c s (hh g)))).bind fun r1 => if r1.1.1 = 4 then none else
  Ev prog clsT X d mc61 25 [(2, 48), (3, 0), (0, x2)] (pushR r1.1 []) r1.2) else none)) X [0, 7, 9, 14, 21, 25] 5 rfl).trans (by simp (maxSteps := 10000000) only [R48_7, bindI, Option.bind_some, if_true_, and_self, ite_true, true_and, true_or, or_true])
set_option maxRecDepth 100000 in
theorem r61_25 (d : Nat) (x2 s0 : Int) : Ev prog clsT X d mc61 25 [(2, 48), (3, 0), (0, x2)] [(0, s0)] (mk E c s (hh g)) =
  (if cmpI .eq s0 0 = true then
  (Ev prog clsT X d mc61 14 [(2, 48), (3, 0), (0, (w32 (x2 + 1)))] [] (mk E c s (hh g)))
else
  (some ((0, x2), ((mk E c s (hh g)))))) :=
  (evk_at (r := (if cmpI .eq s0 0 = true then
  (Ev prog clsT X d mc61 14 [(2, 48), (3, 0), (0, (w32 (x2 + 1)))] [] (mk E c s (hh g)))
else
  (some ((0, x2), (mk E c s (hh g)))))) X [0, 7, 9, 14, 21, 25] 5 rfl).trans (by simp (maxSteps := 10000000) only [bindI, Option.bind_some, if_true_, and_self, ite_true, true_and, true_or, or_true])
set_option maxRecDepth 100000 in
theorem r62_0 (d : Nat) : Ev prog clsT X d mc62 0 [(2, 48), (3, 0), (3, 0), (3, 0)] [] (mk E c s (hh g)) =
  (Ev prog clsT X d mc62 2 [(2, 48), (0, 0), (3, 0), (3, 0)] [] (mk E c s (hh g))) :=
  evk_at X [0, 2, 9, 40] 4 rfl
set_option maxRecDepth 100000 in
theorem rc62_ (d : Nat) : Call prog clsT X (d + 1) 62 [(2, 48)] (mk E c s (hh g)) =
  (Ev prog clsT X d mc62 2 [(2, 48), (0, 0), (3, 0), (3, 0)] [] (mk E c s (hh g))) :=
  (show Call prog clsT X (d + 1) 62 [(2, 48)] (mk E c s (hh g)) = Ev prog clsT X d mc62 0 [(2, 48), (3, 0), (3, 0), (3, 0)] [] (mk E c s (hh g)) from rfl).trans (r62_0 X E c s g d  )
set_option maxRecDepth 100000 in
theorem r62_2 (d : Nat) (x1 : Int) (w2 w3 : MV) : Ev prog clsT X d mc62 2 [(2, 48), (0, x1), w2, w3] [] (mk E c s (hh g)) =
  (if cmpI .ge x1 16 = true then
  (some ((0, 1), ((mk E c s (hh g)))))
else
  (Ev prog clsT X d mc62 9 [(2, 48), (0, x1), (0, 0), (0, 0)] [] (mk E c s (hh g)))) :=
  (evk_at (r := (if cmpI .ge x1 16 = true then
  (some ((0, 1), (mk E c s (hh g))))
else
  (Ev prog clsT X d mc62 9 [(2, 48), (0, x1), (0, 0), (0, 0)] [] (mk E c s (hh g))))) X [0, 2, 9, 40] 9 rfl).trans (by simp (maxSteps := 10000000) only [bindI, Option.bind_some, if_true_, and_self, ite_true, true_and, true_or, or_true])
set_option maxRecDepth 100000 in
theorem r62_9 (d : Nat) (x1 x2 x3 : Int) : Ev prog clsT X d mc62 9 [(2, 48), (0, x1), (0, x2), (0, x3)] [] (mk E c s (hh g)) =
  (if cmpI .ge x3 10 = true then
  ((Call prog clsT X d 262 [(0, x1)] ((mk E c s (hh g)))).bind fun r1 => if r1.1.1 = 4 then none else
    Ev prog clsT X d mc62 40 [(2, 48), (0, x1), (0, x2), (0, x3)] (pushR r1.1 [(0, (g 48 6)), (0, x2)]) r1.2)
else
  (if inb x3 10 = true then
    (if cmpI .eq ((g 49 (Int.toNat x3))) ((-1)) = true then
    (Ev prog clsT X d mc62 9 [(2, 48), (0, x1), (0, (w32 (x2 + 0))), (0, (w32 (x3 + 1)))] [] (mk E c s (hh g)))
  else
    (if inb x3 10 = true then
      (if cmpI .ne ((iand32 ((g 49 (Int.toNat x3))) ((ixor32 x1 ((-1)))))) 0 = true then
      (Ev prog clsT X d mc62 9 [(2, 48), (0, x1), (0, (w32 (x2 + 0))), (0, (w32 (x3 + 1)))] [] (mk E c s (hh g)))
    else
      (Ev prog clsT X d mc62 9 [(2, 48), (0, x1), (0, (w32 (x2 + 1))), (0, (w32 (x3 + 1)))] [] (mk E c s (hh g))))
    else none))
  else none)) :=
  (evk_at (r := (if cmpI .ge x3 10 = true then
  ((fget 3096 ((mk E c s (hh g))) 48).bind fun v1 =>
    (Call prog clsT X d 262 [(0, x1)] ((mk E c s (hh g)))).bind fun r2 => if r2.1.1 = 4 then none else
    Ev prog clsT X d mc62 40 [(2, 48), (0, x1), (0, x2), (0, x3)] (pushR r2.1 [(0, v1), (0, x2)]) r2.2)
else
  ((fget 3074 ((mk E c s (hh g))) 48).bind fun v3 =>
    (aget X 100 ((mk E c s (hh g))) v3 x3).bind fun v4 =>
    if cmpI .eq v4 ((-1)) = true then
    (Ev prog clsT X d mc62 9 [(2, 48), (0, x1), (0, (w32 (x2 + 0))), (0, (w32 (x3 + 1)))] [] (mk E c s (hh g)))
  else
    ((fget 3074 ((mk E c s (hh g))) 48).bind fun v5 =>
      (aget X 100 ((mk E c s (hh g))) v5 x3).bind fun v6 =>
      if cmpI .ne ((iand32 v6 ((ixor32 x1 ((-1)))))) 0 = true then
      (Ev prog clsT X d mc62 9 [(2, 48), (0, x1), (0, (w32 (x2 + 0))), (0, (w32 (x3 + 1)))] [] (mk E c s (hh g)))
    else
      (Ev prog clsT X d mc62 9 [(2, 48), (0, x1), (0, (w32 (x2 + 1))), (0, (w32 (x3 + 1)))] [] (mk E c s (hh g))))))) X [0, 2, 9, 40] 27 rfl).trans (by simp (maxSteps := 10000000) only [↓A49, ↓F3074_48, ↓F3096_48, bindI, Option.bind_some, if_true_, and_self, ite_true, true_and, true_or, or_true])
set_option maxRecDepth 100000 in
theorem r62_40 (d : Nat) (x1 x2 x3 s0 s1 s2 : Int) : Ev prog clsT X d mc62 40 [(2, 48), (0, x1), (0, x2), (0, x3)] [(0, s2), (0, s1), (0, s0)] (mk E c s (hh g)) =
  (if cmpI .le s0 ((w32 (s1 * s2))) = true then
  (Ev prog clsT X d mc62 2 [(2, 48), (0, (w32 (x1 + 1))), (0, x2), (0, x3)] [] (mk E c s (hh g)))
else
  (some ((0, 0), ((mk E c s (hh g)))))) :=
  (evk_at (r := (if cmpI .le s0 ((w32 (s1 * s2))) = true then
  (Ev prog clsT X d mc62 2 [(2, 48), (0, (w32 (x1 + 1))), (0, x2), (0, x3)] [] (mk E c s (hh g)))
else
  (some ((0, 0), (mk E c s (hh g)))))) X [0, 2, 9, 40] 6 rfl).trans (by simp (maxSteps := 10000000) only [bindI, Option.bind_some, if_true_, and_self, ite_true, true_and, true_or, or_true])
set_option maxRecDepth 100000 in
theorem r63_0 (d : Nat) (x1 x2 : Int) : Ev prog clsT X d mc63 0 [(2, 48), (0, x1), (0, x2), (3, 0)] [] (mk E c s (hh g)) =
  (if cmpI .lt x1 10 = true then
  (if inb x1 10 = true then
    (if cmpI .ne ((g 49 (Int.toNat x1))) ((-1)) = true then
    (Ev prog clsT X d mc63 20 [(2, 48), (0, x1), (0, x2), (0, 0)] [] (mk E c s (hh g)))
  else
    ((Call prog clsT X d 63 [(2, 48), (0, (w32 (x1 + 1))), (0, x2)] ((mk E c s (hh g)))).bind fun r1 => if r1.1.1 = 4 then none else
      Ev prog clsT X d mc63 17 [(2, 48), (0, x1), (0, x2), (3, 0)] (pushR r1.1 []) r1.2))
  else none)
else
  (some ((0, 1), ((mk E c s (hh g)))))) :=
  (evk_at (r := (if cmpI .lt x1 10 = true then
  ((fget 3074 ((mk E c s (hh g))) 48).bind fun v1 =>
    (aget X 100 ((mk E c s (hh g))) v1 x1).bind fun v2 =>
    if cmpI .ne v2 ((-1)) = true then
    (Ev prog clsT X d mc63 20 [(2, 48), (0, x1), (0, x2), (0, 0)] [] (mk E c s (hh g)))
  else
    (if (2 : Nat) = 2 ∧ rcv ((mk E c s (hh g))) 48 7 = true then
      ((Call prog clsT X d 63 [(2, 48), (0, (w32 (x1 + 1))), (0, x2)] ((mk E c s (hh g)))).bind fun r3 => if r3.1.1 = 4 then none else
      Ev prog clsT X d mc63 17 [(2, 48), (0, x1), (0, x2), (3, 0)] (pushR r3.1 []) r3.2) else none))
else
  (some ((0, 1), (mk E c s (hh g)))))) X [0, 17, 20, 44] 16 rfl).trans (by simp (maxSteps := 10000000) only [R48_7, ↓A49, ↓F3074_48, bindI, Option.bind_some, if_true_, and_self, ite_true, true_and, true_or, or_true])
set_option maxRecDepth 100000 in
theorem rc63_ (d : Nat) (x1 x2 : Int) : Call prog clsT X (d + 1) 63 [(2, 48), (0, x1), (0, x2)] (mk E c s (hh g)) =
  (if cmpI .lt x1 10 = true then
  (if inb x1 10 = true then
    (if cmpI .ne ((g 49 (Int.toNat x1))) ((-1)) = true then
    (Ev prog clsT X d mc63 20 [(2, 48), (0, x1), (0, x2), (0, 0)] [] (mk E c s (hh g)))
  else
    ((Call prog clsT X d 63 [(2, 48), (0, (w32 (x1 + 1))), (0, x2)] ((mk E c s (hh g)))).bind fun r1 => if r1.1.1 = 4 then none else
      Ev prog clsT X d mc63 17 [(2, 48), (0, x1), (0, x2), (3, 0)] (pushR r1.1 []) r1.2))
  else none)
else
  (some ((0, 1), ((mk E c s (hh g)))))) :=
  (show Call prog clsT X (d + 1) 63 [(2, 48), (0, x1), (0, x2)] (mk E c s (hh g)) = Ev prog clsT X d mc63 0 [(2, 48), (0, x1), (0, x2), (3, 0)] [] (mk E c s (hh g)) from rfl).trans (r63_0 X E c s g d x1 x2 )
set_option maxRecDepth 100000 in
theorem r63_17 (d : Nat) (x1 x2 s0 : Int) : Ev prog clsT X d mc63 17 [(2, 48), (0, x1), (0, x2), (3, 0)] [(0, s0)] (mk E c s (hh g)) =
  (if (0 : Nat) = 0 ∧ one01 s0 = true then some ((0, s0), ((mk E c s (hh g)))) else none) :=
  (evk_at (r := (if (0 : Nat) = 0 ∧ one01 s0 = true then some ((0, s0), (mk E c s (hh g))) else none)) X [0, 17, 20, 44] 2 rfl).trans (by simp (maxSteps := 10000000) only [bindI, Option.bind_some, if_true_, and_self, ite_true, true_and, true_or, or_true])
set_option maxRecDepth 100000 in
theorem r63_20 (d : Nat) (x1 x2 x3 : Int) : Ev prog clsT X d mc63 20 [(2, 48), (0, x1), (0, x2), (0, x3)] [] (mk E c s (hh g)) =
  (if cmpI .ge x3 4 = true then
  (some ((0, 0), ((mk E c s (hh g)))))
else
  (if inb x1 10 = true then
    (if cmpI .eq ((iand32 ((ishr32 ((g 49 (Int.toNat x1))) x3)) 1)) 0 = true then
    (Ev prog clsT X d mc63 20 [(2, 48), (0, x1), (0, x2), (0, (w32 (x3 + 1)))] [] (mk E c s (hh g)))
  else
    (if inb x3 4 = true then
      (if cmpI .ge ((g 52 (Int.toNat x3))) ((g 48 6)) = true then
      (Ev prog clsT X d mc63 20 [(2, 48), (0, x1), (0, x2), (0, (w32 (x3 + 1)))] [] (mk E c s (hh g)))
    else
      ((Call prog clsT X d 64 [(2, 48), (0, x3), (0, x1), (0, x2)] ((mk E c s (hh g)))).bind fun r1 => if r1.1.1 = 4 then none else
        Ev prog clsT X d mc63 44 [(2, 48), (0, x1), (0, x2), (0, x3)] (pushR r1.1 []) r1.2))
    else none))
  else none)) :=
  (evk_at (r := (if cmpI .ge x3 4 = true then
  (some ((0, 0), (mk E c s (hh g))))
else
  ((fget 3074 ((mk E c s (hh g))) 48).bind fun v1 =>
    (aget X 100 ((mk E c s (hh g))) v1 x1).bind fun v2 =>
    if cmpI .eq ((iand32 ((ishr32 v2 x3)) 1)) 0 = true then
    (Ev prog clsT X d mc63 20 [(2, 48), (0, x1), (0, x2), (0, (w32 (x3 + 1)))] [] (mk E c s (hh g)))
  else
    ((fget 3086 ((mk E c s (hh g))) 48).bind fun v3 =>
      (aget X 100 ((mk E c s (hh g))) v3 x3).bind fun v4 =>
      (fget 3096 ((mk E c s (hh g))) 48).bind fun v5 =>
      if cmpI .ge v4 v5 = true then
      (Ev prog clsT X d mc63 20 [(2, 48), (0, x1), (0, x2), (0, (w32 (x3 + 1)))] [] (mk E c s (hh g)))
    else
      (if (2 : Nat) = 2 ∧ rcv ((mk E c s (hh g))) 48 7 = true then
        ((Call prog clsT X d 64 [(2, 48), (0, x3), (0, x1), (0, x2)] ((mk E c s (hh g)))).bind fun r6 => if r6.1.1 = 4 then none else
        Ev prog clsT X d mc63 44 [(2, 48), (0, x1), (0, x2), (0, x3)] (pushR r6.1 []) r6.2) else none))))) X [0, 17, 20, 44] 25 rfl).trans (by simp (maxSteps := 10000000) only [R48_7, ↓A49, ↓A52, ↓F3074_48, ↓F3086_48, ↓F3096_48, bindI, Option.bind_some, if_true_, and_self, ite_true, true_and, true_or, or_true])
set_option maxRecDepth 100000 in
theorem r63_44 (d : Nat) (x1 x2 x3 s0 : Int) : Ev prog clsT X d mc63 44 [(2, 48), (0, x1), (0, x2), (0, x3)] [(0, s0)] (mk E c s (hh g)) =
  (if cmpI .eq s0 0 = true then
  (Ev prog clsT X d mc63 20 [(2, 48), (0, x1), (0, x2), (0, (w32 (x3 + 1)))] [] (mk E c s (hh g)))
else
  (some ((0, 1), ((mk E c s (hh g)))))) :=
  (evk_at (r := (if cmpI .eq s0 0 = true then
  (Ev prog clsT X d mc63 20 [(2, 48), (0, x1), (0, x2), (0, (w32 (x3 + 1)))] [] (mk E c s (hh g)))
else
  (some ((0, 1), (mk E c s (hh g)))))) X [0, 17, 20, 44] 5 rfl).trans (by simp (maxSteps := 10000000) only [bindI, Option.bind_some, if_true_, and_self, ite_true, true_and, true_or, or_true])
set_option maxRecDepth 100000 in
theorem r64_0 (d : Nat) (x1 x2 x3 : Int) : Ev prog clsT X d mc64 0 [(2, 48), (0, x1), (0, x2), (0, x3), (3, 0), (3, 0), (3, 0), (3, 0), (3, 0), (3, 0)] [] (mk E c s (hh g)) =
  (if inb x1 4 = true then
  (if inb x1 4 = true then
  (if inb x1 4 = true then
  (if cmpI .ne ((g 52 (Int.toNat x1))) 0 = true then
  (Ev prog clsT X d mc64 19 [(2, 48), (0, x1), (0, x2), (0, x3), (0, (g 53 (Int.toNat x1))), (0, (g 54 (Int.toNat x1))), (0, 0), (3, 0), (3, 0), (3, 0)] [] (mk E c s (hh g)))
else
  (Ev prog clsT X d mc64 19 [(2, 48), (0, x1), (0, x2), (0, x3), (0, (g 53 (Int.toNat x1))), (0, (g 54 (Int.toNat x1))), (0, 1), (3, 0), (3, 0), (3, 0)] [] (mk E c s (hh g))))
else none)
else none)
else none) :=
  (evk_at (r := ((fget 3090 ((mk E c s (hh g))) 48).bind fun v1 =>
  (aget X 100 ((mk E c s (hh g))) v1 x1).bind fun v2 =>
  (fget 3094 ((mk E c s (hh g))) 48).bind fun v3 =>
  (aget X 100 ((mk E c s (hh g))) v3 x1).bind fun v4 =>
  (fget 3086 ((mk E c s (hh g))) 48).bind fun v5 =>
  (aget X 100 ((mk E c s (hh g))) v5 x1).bind fun v6 =>
  if cmpI .ne v6 0 = true then
  (Ev prog clsT X d mc64 19 [(2, 48), (0, x1), (0, x2), (0, x3), (0, v2), (0, v4), (0, 0), (3, 0), (3, 0), (3, 0)] [] (mk E c s (hh g)))
else
  (Ev prog clsT X d mc64 19 [(2, 48), (0, x1), (0, x2), (0, x3), (0, v2), (0, v4), (0, 1), (3, 0), (3, 0), (3, 0)] [] (mk E c s (hh g))))) X [0, 19, 33, 47, 59, 64, 95] 20 rfl).trans (by simp (maxSteps := 10000000) only [↓A52, ↓A53, ↓A54, ↓F3086_48, ↓F3090_48, ↓F3094_48, bindI, Option.bind_some, if_true_, and_self, ite_true, true_and, true_or, or_true])
set_option maxRecDepth 100000 in
theorem rc64_ (d : Nat) (x1 x2 x3 : Int) : Call prog clsT X (d + 1) 64 [(2, 48), (0, x1), (0, x2), (0, x3)] (mk E c s (hh g)) =
  (if inb x1 4 = true then
  (if inb x1 4 = true then
  (if inb x1 4 = true then
  (if cmpI .ne ((g 52 (Int.toNat x1))) 0 = true then
  (Ev prog clsT X d mc64 19 [(2, 48), (0, x1), (0, x2), (0, x3), (0, (g 53 (Int.toNat x1))), (0, (g 54 (Int.toNat x1))), (0, 0), (3, 0), (3, 0), (3, 0)] [] (mk E c s (hh g)))
else
  (Ev prog clsT X d mc64 19 [(2, 48), (0, x1), (0, x2), (0, x3), (0, (g 53 (Int.toNat x1))), (0, (g 54 (Int.toNat x1))), (0, 1), (3, 0), (3, 0), (3, 0)] [] (mk E c s (hh g))))
else none)
else none)
else none) :=
  (show Call prog clsT X (d + 1) 64 [(2, 48), (0, x1), (0, x2), (0, x3)] (mk E c s (hh g)) = Ev prog clsT X d mc64 0 [(2, 48), (0, x1), (0, x2), (0, x3), (3, 0), (3, 0), (3, 0), (3, 0), (3, 0), (3, 0)] [] (mk E c s (hh g)) from rfl).trans (r64_0 X E c s g d x1 x2 x3 )
set_option maxRecDepth 100000 in
theorem r64_19 (d : Nat) (x1 x2 x3 x4 x5 x6 : Int) : Ev prog clsT X d mc64 19 [(2, 48), (0, x1), (0, x2), (0, x3), (0, x4), (0, x5), (0, x6), (3, 0), (3, 0), (3, 0)] [] (mk E c s (hh g)) =
  (if cmpI .eq x6 0 = true then
  (if inb x2 10 = true then
    (Ev prog clsT X d mc64 33 [(2, 48), (0, x1), (0, x2), (0, x3), (0, x4), (0, x5), (0, x6), (0, (if (g 50 (Int.toNat x2)) < x4 then (g 50 (Int.toNat x2)) else x4)), (3, 0), (3, 0)] [] (mk E c s (hh g)))
  else none)
else
  (if inb x2 10 = true then
    (Ev prog clsT X d mc64 33 [(2, 48), (0, x1), (0, x2), (0, x3), (0, x4), (0, x5), (0, x6), (0, (g 50 (Int.toNat x2))), (3, 0), (3, 0)] [] (mk E c s (hh g)))
  else none)) :=
  (evk_at (r := (if cmpI .eq x6 0 = true then
  ((fget 3078 ((mk E c s (hh g))) 48).bind fun v1 =>
    (aget X 100 ((mk E c s (hh g))) v1 x2).bind fun v2 =>
    Ev prog clsT X d mc64 33 [(2, 48), (0, x1), (0, x2), (0, x3), (0, x4), (0, x5), (0, x6), (0, (if v2 < x4 then v2 else x4)), (3, 0), (3, 0)] [] (mk E c s (hh g)))
else
  ((fget 3078 ((mk E c s (hh g))) 48).bind fun v3 =>
    (aget X 100 ((mk E c s (hh g))) v3 x2).bind fun v4 =>
    Ev prog clsT X d mc64 33 [(2, 48), (0, x1), (0, x2), (0, x3), (0, x4), (0, x5), (0, x6), (0, v4), (3, 0), (3, 0)] [] (mk E c s (hh g))))) X [0, 19, 33, 47, 59, 64, 95] 11 rfl).trans (by simp (maxSteps := 10000000) only [↓A50, ↓F3078_48, bindI, Option.bind_some, if_true_, and_self, ite_true, true_and, true_or, or_true])
set_option maxRecDepth 100000 in
theorem r64_33 (d : Nat) (x1 x2 x3 x4 x5 x6 x7 : Int) : Ev prog clsT X d mc64 33 [(2, 48), (0, x1), (0, x2), (0, x3), (0, x4), (0, x5), (0, x6), (0, x7), (3, 0), (3, 0)] [] (mk E c s (hh g)) =
  (if cmpI .eq x6 0 = true then
  (if inb x2 10 = true then
    (Ev prog clsT X d mc64 47 [(2, 48), (0, x1), (0, x2), (0, x3), (0, x4), (0, x5), (0, x6), (0, x7), (0, (if x5 < (g 50 (Int.toNat x2)) then (g 50 (Int.toNat x2)) else x5)), (3, 0)] [] (mk E c s (hh g)))
  else none)
else
  (if inb x2 10 = true then
    (Ev prog clsT X d mc64 47 [(2, 48), (0, x1), (0, x2), (0, x3), (0, x4), (0, x5), (0, x6), (0, x7), (0, (g 50 (Int.toNat x2))), (3, 0)] [] (mk E c s (hh g)))
  else none)) :=
  (evk_at (r := (if cmpI .eq x6 0 = true then
  ((fget 3078 ((mk E c s (hh g))) 48).bind fun v1 =>
    (aget X 100 ((mk E c s (hh g))) v1 x2).bind fun v2 =>
    Ev prog clsT X d mc64 47 [(2, 48), (0, x1), (0, x2), (0, x3), (0, x4), (0, x5), (0, x6), (0, x7), (0, (if x5 < v2 then v2 else x5)), (3, 0)] [] (mk E c s (hh g)))
else
  ((fget 3078 ((mk E c s (hh g))) 48).bind fun v3 =>
    (aget X 100 ((mk E c s (hh g))) v3 x2).bind fun v4 =>
    Ev prog clsT X d mc64 47 [(2, 48), (0, x1), (0, x2), (0, x3), (0, x4), (0, x5), (0, x6), (0, x7), (0, v4), (3, 0)] [] (mk E c s (hh g))))) X [0, 19, 33, 47, 59, 64, 95] 11 rfl).trans (by simp (maxSteps := 10000000) only [↓A50, ↓F3078_48, bindI, Option.bind_some, if_true_, and_self, ite_true, true_and, true_or, or_true])
set_option maxRecDepth 100000 in
theorem r64_47 (d : Nat) (x1 x2 x3 x4 x5 x6 x7 x8 : Int) : Ev prog clsT X d mc64 47 [(2, 48), (0, x1), (0, x2), (0, x3), (0, x4), (0, x5), (0, x6), (0, x7), (0, x8), (3, 0)] [] (mk E c s (hh g)) =
  (if cmpI .eq x6 0 = true then
  (Ev prog clsT X d mc64 59 [(2, 48), (0, x1), (0, x2), (0, x3), (0, x4), (0, x5), (0, x6), (0, x7), (0, x8), (0, (w32 (((w32 (x8 - x7))) - ((w32 (x5 - x4))))))] [] (mk E c s (hh g)))
else
  (Ev prog clsT X d mc64 59 [(2, 48), (0, x1), (0, x2), (0, x3), (0, x4), (0, x5), (0, x6), (0, x7), (0, x8), (0, 0)] [] (mk E c s (hh g)))) :=
  evk_at X [0, 19, 33, 47, 59, 64, 95] 12 rfl
set_option maxRecDepth 100000 in
theorem r64_59 (d : Nat) (x1 x2 x3 x4 x5 x6 x7 x8 x9 : Int) : Ev prog clsT X d mc64 59 [(2, 48), (0, x1), (0, x2), (0, x3), (0, x4), (0, x5), (0, x6), (0, x7), (0, x8), (0, x9)] [] (mk E c s (hh g)) =
  (if cmpI .le x9 x3 = true then
  (Ev prog clsT X d mc64 64 [(2, 48), (0, x1), (0, x2), (0, x3), (0, x4), (0, x5), (0, x6), (0, x7), (0, x8), (0, x9)] [] (mk E c s (hh g)))
else
  (some ((0, 0), ((mk E c s (hh g)))))) :=
  (evk_at (r := (if cmpI .le x9 x3 = true then
  (Ev prog clsT X d mc64 64 [(2, 48), (0, x1), (0, x2), (0, x3), (0, x4), (0, x5), (0, x6), (0, x7), (0, x8), (0, x9)] [] (mk E c s (hh g)))
else
  (some ((0, 0), (mk E c s (hh g)))))) X [0, 19, 33, 47, 59, 64, 95] 6 rfl).trans (by simp (maxSteps := 10000000) only [bindI, Option.bind_some, if_true_, and_self, ite_true, true_and, true_or, or_true])
set_option maxRecDepth 100000 in
theorem r64_64 (d : Nat) (x1 x2 x3 x4 x5 x6 x7 x8 x9 : Int) : Ev prog clsT X d mc64 64 [(2, 48), (0, x1), (0, x2), (0, x3), (0, x4), (0, x5), (0, x6), (0, x7), (0, x8), (0, x9)] [] (mk E c s (hh g)) =
  (if inb x1 4 = true then
  (if inb x1 4 = true then
  (if inb x1 4 = true then
  (if inb x1 4 = true then
  (if inb x2 10 = true then
  ((Call prog clsT X d 63 [(2, 48), (0, (w32 (x2 + 1))), (0, (w32 (x3 - x9)))] ((mk E c s (hh (up (up (up (up g 53 (Int.toNat x1) x7) 54 (Int.toNat x1) x8) 52 (Int.toNat x1) ((w32 (((g 52 (Int.toNat x1))) + 1)))) 51 (Int.toNat x2) x1))))).bind fun r1 => if r1.1.1 = 4 then none else
  Ev prog clsT X d mc64 95 [(2, 48), (0, x1), (0, x2), (0, x3), (0, x4), (0, x5), (0, x6), (0, x7), (0, x8), (0, x9)] (pushR r1.1 []) r1.2)
else none)
else none)
else none)
else none)
else none) :=
  (evk_at (r := ((fget 3090 ((mk E c s (hh g))) 48).bind fun v1 =>
  (aput 100 ((mk E c s (hh g))) v1 x1 (x7)).bind fun M2 =>
  (fget 3094 M2 48).bind fun v3 =>
  (aput 100 M2 v3 x1 (x8)).bind fun M4 =>
  (fget 3086 M4 48).bind fun v5 =>
  (aget X 100 M4 v5 x1).bind fun v6 =>
  (aput 100 M4 v5 x1 ((w32 (v6 + 1)))).bind fun M7 =>
  (fget 3082 M7 48).bind fun v8 =>
  (aput 100 M7 v8 x2 (x1)).bind fun M9 =>
  if (2 : Nat) = 2 ∧ rcv M9 48 7 = true then
  ((Call prog clsT X d 63 [(2, 48), (0, (w32 (x2 + 1))), (0, (w32 (x3 - x9)))] M9).bind fun r10 => if r10.1.1 = 4 then none else
  Ev prog clsT X d mc64 95 [(2, 48), (0, x1), (0, x2), (0, x3), (0, x4), (0, x5), (0, x6), (0, x7), (0, x8), (0, x9)] (pushR r10.1 []) r10.2) else none)) X [0, 19, 33, 47, 59, 64, 95] 32 rfl).trans (by simp (maxSteps := 10000000) only [R48_7, uc_53_52, uc_54_52, ↓A52, ↓F3082_48, ↓F3086_48, ↓F3090_48, ↓F3094_48, ↓S51, ↓S52, ↓S53, ↓S54, bindI, Option.bind_some, if_true_, and_self, ite_true, true_and, true_or, or_true])
set_option maxRecDepth 100000 in
theorem r64_95 (d : Nat) (x1 x2 x3 x4 x5 x6 x7 x8 x9 s0 : Int) : Ev prog clsT X d mc64 95 [(2, 48), (0, x1), (0, x2), (0, x3), (0, x4), (0, x5), (0, x6), (0, x7), (0, x8), (0, x9)] [(0, s0)] (mk E c s (hh g)) =
  (if cmpI .eq s0 0 = true then
  (if inb x1 4 = true then
    (if inb x1 4 = true then
    (if inb x1 4 = true then
    (if inb x1 4 = true then
    (some ((0, 0), ((mk E c s (hh (up (up (up g 53 (Int.toNat x1) x4) 54 (Int.toNat x1) x5) 52 (Int.toNat x1) ((w32 (((g 52 (Int.toNat x1))) - 1)))))))))
  else none)
  else none)
  else none)
  else none)
else
  (some ((0, 1), ((mk E c s (hh g)))))) :=
  (evk_at (r := (if cmpI .eq s0 0 = true then
  ((fget 3090 ((mk E c s (hh g))) 48).bind fun v1 =>
    (aput 100 ((mk E c s (hh g))) v1 x1 (x4)).bind fun M2 =>
    (fget 3094 M2 48).bind fun v3 =>
    (aput 100 M2 v3 x1 (x5)).bind fun M4 =>
    (fget 3086 M4 48).bind fun v5 =>
    (aget X 100 M4 v5 x1).bind fun v6 =>
    (aput 100 M4 v5 x1 ((w32 (v6 - 1)))).bind fun M7 =>
    some ((0, 0), M7))
else
  (some ((0, 1), (mk E c s (hh g)))))) X [0, 19, 33, 47, 59, 64, 95] 22 rfl).trans (by simp (maxSteps := 10000000) only [uc_53_52, uc_54_52, ↓A52, ↓F3086_48, ↓F3090_48, ↓F3094_48, ↓S52, ↓S53, ↓S54, bindI, Option.bind_some, if_true_, and_self, ite_true, true_and, true_or, or_true])
end
