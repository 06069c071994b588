/-! Part 51.r1: printed by wip/whole/emit6.py: equations with the fixed cells put in. -/
section
variable (X : MExt) (E : List (Nat × Nat)) (c s : Nat) (g : Nat → Nat → Int)
theorem r92_0 (d : Nat) (x1 x3 x5 : Int) : Ev prog clsT X d mc92 0 [(2, 0), (1, x1), (3, 0), (1, x3), (3, 0), (1, x5), (3, 0)] [] (mk E c s (hh g)) =
  ((Call prog clsT X d 38 [(2, 9), (1, x1)] ((mk E c s (hh g)))).bind fun r1 => if r1.1.1 = 4 then none else
  Ev prog clsT X d mc92 4 [(2, 0), (1, x1), (3, 0), (1, x3), (3, 0), (1, x5), (3, 0)] (pushR r1.1 []) r1.2) :=
  (evk_at (r := ((fget 5638 ((mk E c s (hh g))) 0).bind fun v1 =>
  if (2 : Nat) = 2 ∧ rcv ((mk E c s (hh g))) v1 6 = true then
  ((Call prog clsT X d 38 [(2, v1), (1, x1)] ((mk E c s (hh g)))).bind fun r2 => if r2.1.1 = 4 then none else
  Ev prog clsT X d mc92 4 [(2, 0), (1, x1), (3, 0), (1, x3), (3, 0), (1, x5), (3, 0)] (pushR r2.1 []) r2.2) else none)) X [0, 4, 8, 12] 5 rfl).trans (by simp (disch := decide) only [F5638_0, R9_6, bindI, Option.bind_some, if_true_, and_self, ite_true, true_and, true_or, or_true])
theorem rc92_ (d : Nat) (x1 x3 x5 : Int) : Call prog clsT X (d + 1) 92 [(2, 0), (1, x1), (1, x3), (1, x5)] (mk E c s (hh g)) =
  ((Call prog clsT X d 38 [(2, 9), (1, x1)] ((mk E c s (hh g)))).bind fun r1 => if r1.1.1 = 4 then none else
  Ev prog clsT X d mc92 4 [(2, 0), (1, x1), (3, 0), (1, x3), (3, 0), (1, x5), (3, 0)] (pushR r1.1 []) r1.2) :=
  (show Call prog clsT X (d + 1) 92 [(2, 0), (1, x1), (1, x3), (1, x5)] (mk E c s (hh g)) = Ev prog clsT X d mc92 0 [(2, 0), (1, x1), (3, 0), (1, x3), (3, 0), (1, x5), (3, 0)] [] (mk E c s (hh g)) from rfl).trans (r92_0 X E c s g d x1 x3 x5 )
theorem r92_4 (d : Nat) (x1 x3 x5 : Int) : Ev prog clsT X d mc92 4 [(2, 0), (1, x1), (3, 0), (1, x3), (3, 0), (1, x5), (3, 0)] [] (mk E c s (hh g)) =
  ((Call prog clsT X d 38 [(2, 9), (1, x3)] ((mk E c s (hh g)))).bind fun r1 => if r1.1.1 = 4 then none else
  Ev prog clsT X d mc92 8 [(2, 0), (1, x1), (3, 0), (1, x3), (3, 0), (1, x5), (3, 0)] (pushR r1.1 []) r1.2) :=
  (evk_at (r := ((fget 5638 ((mk E c s (hh g))) 0).bind fun v1 =>
  if (2 : Nat) = 2 ∧ rcv ((mk E c s (hh g))) v1 6 = true then
  ((Call prog clsT X d 38 [(2, v1), (1, x3)] ((mk E c s (hh g)))).bind fun r2 => if r2.1.1 = 4 then none else
  Ev prog clsT X d mc92 8 [(2, 0), (1, x1), (3, 0), (1, x3), (3, 0), (1, x5), (3, 0)] (pushR r2.1 []) r2.2) else none)) X [0, 4, 8, 12] 5 rfl).trans (by simp (disch := decide) only [F5638_0, R9_6, bindI, Option.bind_some, if_true_, and_self, ite_true, true_and, true_or, or_true])
theorem r92_8 (d : Nat) (x1 x3 x5 : Int) : Ev prog clsT X d mc92 8 [(2, 0), (1, x1), (3, 0), (1, x3), (3, 0), (1, x5), (3, 0)] [] (mk E c s (hh g)) =
  ((Call prog clsT X d 38 [(2, 9), (1, x5)] ((mk E c s (hh g)))).bind fun r1 => if r1.1.1 = 4 then none else
  Ev prog clsT X d mc92 12 [(2, 0), (1, x1), (3, 0), (1, x3), (3, 0), (1, x5), (3, 0)] (pushR r1.1 []) r1.2) :=
  (evk_at (r := ((fget 5638 ((mk E c s (hh g))) 0).bind fun v1 =>
  if (2 : Nat) = 2 ∧ rcv ((mk E c s (hh g))) v1 6 = true then
  ((Call prog clsT X d 38 [(2, v1), (1, x5)] ((mk E c s (hh g)))).bind fun r2 => if r2.1.1 = 4 then none else
  Ev prog clsT X d mc92 12 [(2, 0), (1, x1), (3, 0), (1, x3), (3, 0), (1, x5), (3, 0)] (pushR r2.1 []) r2.2) else none)) X [0, 4, 8, 12] 5 rfl).trans (by simp (disch := decide) only [F5638_0, R9_6, bindI, Option.bind_some, if_true_, and_self, ite_true, true_and, true_or, or_true])
theorem r92_12 (d : Nat) (x1 x3 x5 : Int) : Ev prog clsT X d mc92 12 [(2, 0), (1, x1), (3, 0), (1, x3), (3, 0), (1, x5), (3, 0)] [] (mk E c s (hh g)) =
  (some ((0, (g 9 1)), ((mk E c s (hh g))))) :=
  (evk_at (r := ((fget 5638 ((mk E c s (hh g))) 0).bind fun v1 =>
  (fget 2564 ((mk E c s (hh g))) v1).bind fun v2 =>
  some ((0, v2), (mk E c s (hh g))))) X [0, 4, 8, 12] 5 rfl).trans (by simp (disch := decide) only [F2564_9, F5638_0, bindI, Option.bind_some, if_true_, and_self, ite_true, true_and, true_or, or_true])
theorem r93_0 (d : Nat) (x1 : Int) : Ev prog clsT X d mc93 0 [(2, 0), (0, x1), (3, 0)] [] (mk E c s (hh g)) =
  ((Call prog clsT X d 90 [(0, x1), (0, 0), (0, 9)] ((mk E c s (hh g)))).bind fun r1 => if r1.1.1 = 4 then none else
  Ev prog clsT X d mc93 4 [(2, 0), (0, x1), (3, 0)] (pushR r1.1 []) r1.2) :=
  evk_at X [0, 4, 15] 5 rfl
theorem rc93_ (d : Nat) (x1 : Int) : Call prog clsT X (d + 1) 93 [(2, 0), (0, x1)] (mk E c s (hh g)) =
  ((Call prog clsT X d 90 [(0, x1), (0, 0), (0, 9)] ((mk E c s (hh g)))).bind fun r1 => if r1.1.1 = 4 then none else
  Ev prog clsT X d mc93 4 [(2, 0), (0, x1), (3, 0)] (pushR r1.1 []) r1.2) :=
  (show Call prog clsT X (d + 1) 93 [(2, 0), (0, x1)] (mk E c s (hh g)) = Ev prog clsT X d mc93 0 [(2, 0), (0, x1), (3, 0)] [] (mk E c s (hh g)) from rfl).trans (r93_0 X E c s g d x1 )
theorem r93_4 (d : Nat) (x1 s0 : Int) : Ev prog clsT X d mc93 4 [(2, 0), (0, x1), (3, 0)] [(0, s0)] (mk E c s (hh g)) =
  (if cmpI .ne s0 0 = true then
  ((Call prog clsT X d 39 [(2, 9), (0, 0)] ((mk E c s (hh g)))).bind fun r1 => if r1.1.1 = 4 then none else
    Ev prog clsT X d mc93 15 [(2, 0), (0, x1), (3, 0)] (pushR r1.1 []) r1.2)
else
  (some ((0, (-1)), ((mk E c s (hh (up g 9 1 0))))))) :=
  (evk_at (r := (if cmpI .ne s0 0 = true then
  ((fget 5638 ((mk E c s (hh g))) 0).bind fun v1 =>
    if (2 : Nat) = 2 ∧ rcv ((mk E c s (hh g))) v1 6 = true then
    ((Call prog clsT X d 39 [(2, v1), (0, 0)] ((mk E c s (hh g)))).bind fun r2 => if r2.1.1 = 4 then none else
    Ev prog clsT X d mc93 15 [(2, 0), (0, x1), (3, 0)] (pushR r2.1 []) r2.2) else none)
else
  ((fget 5638 ((mk E c s (hh g))) 0).bind fun v3 =>
    (fput 2564 ((mk E c s (hh g))) v3 0).bind fun M4 =>
    some ((0, (-1)), M4)))) X [0, 4, 15] 8 rfl).trans (by simp (disch := decide) only [F5638_0, R9_6, W2564_9, bindI, Option.bind_some, if_true_, and_self, ite_true, true_and, true_or, or_true])
theorem r93_15 (d : Nat) (x1 s0 : Int) : Ev prog clsT X d mc93 15 [(2, 0), (0, x1), (3, 0)] [(0, s0)] (mk E c s (hh g)) =
  (if cmpI .ne s0 0 = true then
  (some ((0, s0), ((mk E c s (hh g)))))
else
  (if (2 : Nat) = 2 ∧ (0 : Nat) = 0 ∧ (2 : Nat) = 2 ∧ 0 ≤ ((g 9 2)) ∧ (lay? ((mk E c s (hh g))) ((g 9 2))).1 = 7 then
    (if inb x1 10 = true then
    (some ((0, s0), ((mk E c s (hh (up g 16 (Int.toNat x1) ((g 9 2)))))))) else none) else none)) :=
  (evk_at (r := (if cmpI .ne s0 0 = true then
  (some ((0, s0), (mk E c s (hh g))))
else
  ((fget 5642 ((mk E c s (hh g))) 0).bind fun v1 =>
    (fget 5638 ((mk E c s (hh g))) 0).bind fun v2 =>
    (fget 2570 ((mk E c s (hh g))) v2).bind fun v3 =>
    if (2 : Nat) = 2 ∧ (0 : Nat) = 0 ∧ (2 : Nat) = 2 ∧ 0 ≤ v3 ∧ (lay? ((mk E c s (hh g))) v3).1 = 7 then (aput 104 ((mk E c s (hh g))) v1 x1 v3).bind fun M4 =>
    (some ((0, s0), M4)) else none))) X [0, 4, 15] 13 rfl).trans (by simp (disch := decide) only [F2570_9, F5638_0, F5642_0, S16, bindI, Option.bind_some, if_true_, and_self, ite_true, true_and, true_or, or_true])
theorem r94_0 (d : Nat) : Ev prog clsT X d mc94 0 [(2, 0), (3, 0)] [] (mk E c s (hh g)) =
  ((Call prog clsT X d 39 [(2, 9), (0, 1)] ((mk E c s (hh g)))).bind fun r1 => if r1.1.1 = 4 then none else
  Ev prog clsT X d mc94 4 [(2, 0), (3, 0)] (pushR r1.1 []) r1.2) :=
  (evk_at (r := ((fget 5638 ((mk E c s (hh g))) 0).bind fun v1 =>
  if (2 : Nat) = 2 ∧ rcv ((mk E c s (hh g))) v1 6 = true then
  ((Call prog clsT X d 39 [(2, v1), (0, 1)] ((mk E c s (hh g)))).bind fun r2 => if r2.1.1 = 4 then none else
  Ev prog clsT X d mc94 4 [(2, 0), (3, 0)] (pushR r2.1 []) r2.2) else none)) X [0, 4] 5 rfl).trans (by simp (disch := decide) only [F5638_0, R9_6, bindI, Option.bind_some, if_true_, and_self, ite_true, true_and, true_or, or_true])
theorem rc94_ (d : Nat) : Call prog clsT X (d + 1) 94 [(2, 0)] (mk E c s (hh g)) =
  ((Call prog clsT X d 39 [(2, 9), (0, 1)] ((mk E c s (hh g)))).bind fun r1 => if r1.1.1 = 4 then none else
  Ev prog clsT X d mc94 4 [(2, 0), (3, 0)] (pushR r1.1 []) r1.2) :=
  (show Call prog clsT X (d + 1) 94 [(2, 0)] (mk E c s (hh g)) = Ev prog clsT X d mc94 0 [(2, 0), (3, 0)] [] (mk E c s (hh g)) from rfl).trans (r94_0 X E c s g d  )
theorem r94_4 (d : Nat) (s0 : Int) : Ev prog clsT X d mc94 4 [(2, 0), (3, 0)] [(0, s0)] (mk E c s (hh g)) =
  (if cmpI .ne s0 0 = true then
  (some ((0, s0), ((mk E c s (hh g)))))
else
  (if (2 : Nat) = 2 ∧ (2 : Nat) = fTg 5646 ∧ ((2 : Nat) = 2 → vref ((mk E c s (hh g))) ((g 9 2)) = true) ∧ (fTy 5646 = 3 → one01 ((g 9 2)) = true) then
    (some ((0, s0), ((mk E c s (hh (up g 0 3 ((g 9 2)))))))) else none)) :=
  (evk_at (r := (if cmpI .ne s0 0 = true then
  (some ((0, s0), (mk E c s (hh g))))
else
  ((fget 5638 ((mk E c s (hh g))) 0).bind fun v1 =>
    (fget 2570 ((mk E c s (hh g))) v1).bind fun v2 =>
    if (2 : Nat) = 2 ∧ (2 : Nat) = fTg 5646 ∧ ((2 : Nat) = 2 → vref ((mk E c s (hh g))) v2 = true) ∧ (fTy 5646 = 3 → one01 v2 = true) then (fput 5646 ((mk E c s (hh g))) 0 v2).bind fun M3 =>
    (some ((0, s0), M3)) else none))) X [0, 4] 11 rfl).trans (by simp (disch := decide) only [F2570_9, F5638_0, W5646_0, bindI, Option.bind_some, if_true_, and_self, ite_true, true_and, true_or, or_true])
theorem r95_0 (d : Nat) : Ev prog clsT X d mc95 0 [(2, 0), (3, 0)] [] (mk E c s (hh g)) =
  ((Call prog clsT X d 39 [(2, 9), (0, 2)] ((mk E c s (hh g)))).bind fun r1 => if r1.1.1 = 4 then none else
  Ev prog clsT X d mc95 4 [(2, 0), (3, 0)] (pushR r1.1 []) r1.2) :=
  (evk_at (r := ((fget 5638 ((mk E c s (hh g))) 0).bind fun v1 =>
  if (2 : Nat) = 2 ∧ rcv ((mk E c s (hh g))) v1 6 = true then
  ((Call prog clsT X d 39 [(2, v1), (0, 2)] ((mk E c s (hh g)))).bind fun r2 => if r2.1.1 = 4 then none else
  Ev prog clsT X d mc95 4 [(2, 0), (3, 0)] (pushR r2.1 []) r2.2) else none)) X [0, 4] 5 rfl).trans (by simp (disch := decide) only [F5638_0, R9_6, bindI, Option.bind_some, if_true_, and_self, ite_true, true_and, true_or, or_true])
theorem rc95_ (d : Nat) : Call prog clsT X (d + 1) 95 [(2, 0)] (mk E c s (hh g)) =
  ((Call prog clsT X d 39 [(2, 9), (0, 2)] ((mk E c s (hh g)))).bind fun r1 => if r1.1.1 = 4 then none else
  Ev prog clsT X d mc95 4 [(2, 0), (3, 0)] (pushR r1.1 []) r1.2) :=
  (show Call prog clsT X (d + 1) 95 [(2, 0)] (mk E c s (hh g)) = Ev prog clsT X d mc95 0 [(2, 0), (3, 0)] [] (mk E c s (hh g)) from rfl).trans (r95_0 X E c s g d  )
theorem r95_4 (d : Nat) (s0 : Int) : Ev prog clsT X d mc95 4 [(2, 0), (3, 0)] [(0, s0)] (mk E c s (hh g)) =
  (if cmpI .ne s0 0 = true then
  (some ((0, s0), ((mk E c s (hh g)))))
else
  (if (2 : Nat) = 2 ∧ (2 : Nat) = fTg 5650 ∧ ((2 : Nat) = 2 → vref ((mk E c s (hh g))) ((g 9 2)) = true) ∧ (fTy 5650 = 3 → one01 ((g 9 2)) = true) then
    (some ((0, s0), ((mk E c s (hh (up g 0 4 ((g 9 2)))))))) else none)) :=
  (evk_at (r := (if cmpI .ne s0 0 = true then
  (some ((0, s0), (mk E c s (hh g))))
else
  ((fget 5638 ((mk E c s (hh g))) 0).bind fun v1 =>
    (fget 2570 ((mk E c s (hh g))) v1).bind fun v2 =>
    if (2 : Nat) = 2 ∧ (2 : Nat) = fTg 5650 ∧ ((2 : Nat) = 2 → vref ((mk E c s (hh g))) v2 = true) ∧ (fTy 5650 = 3 → one01 v2 = true) then (fput 5650 ((mk E c s (hh g))) 0 v2).bind fun M3 =>
    (some ((0, s0), M3)) else none))) X [0, 4] 11 rfl).trans (by simp (disch := decide) only [F2570_9, F5638_0, W5650_0, bindI, Option.bind_some, if_true_, and_self, ite_true, true_and, true_or, or_true])
theorem r96_0 (d : Nat) (x1 x2 x3 x5 : Int) : Ev prog clsT X d mc96 0 [(2, 0), (0, x1), (0, x2), (1, x3), (3, 0), (0, x5)] [] (mk E c s (hh g)) =
  ((Call prog clsT X d 97 [(2, 0), (0, x1)] ((mk E c s (hh g)))).bind fun r1 => if r1.1.1 = 4 then none else
  Ev prog clsT X d mc96 3 [(2, 0), (0, x1), (0, x2), (1, x3), (3, 0), (0, x5)] (pushR r1.1 []) r1.2) :=
  (evk_at (r := (if (2 : Nat) = 2 ∧ rcv ((mk E c s (hh g))) 0 12 = true then
  ((Call prog clsT X d 97 [(2, 0), (0, x1)] ((mk E c s (hh g)))).bind fun r1 => if r1.1.1 = 4 then none else
  Ev prog clsT X d mc96 3 [(2, 0), (0, x1), (0, x2), (1, x3), (3, 0), (0, x5)] (pushR r1.1 []) r1.2) else none)) X [0, 3, 8, 13, 23, 26, 34, 44, 57] 4 rfl).trans (by simp (disch := decide) only [R0_12, bindI, Option.bind_some, if_true_, and_self, ite_true, true_and, true_or, or_true])
theorem rc96_ (d : Nat) (x1 x2 x3 x5 : Int) : Call prog clsT X (d + 1) 96 [(2, 0), (0, x1), (0, x2), (1, x3), (0, x5)] (mk E c s (hh g)) =
  ((Call prog clsT X d 97 [(2, 0), (0, x1)] ((mk E c s (hh g)))).bind fun r1 => if r1.1.1 = 4 then none else
  Ev prog clsT X d mc96 3 [(2, 0), (0, x1), (0, x2), (1, x3), (3, 0), (0, x5)] (pushR r1.1 []) r1.2) :=
  (show Call prog clsT X (d + 1) 96 [(2, 0), (0, x1), (0, x2), (1, x3), (0, x5)] (mk E c s (hh g)) = Ev prog clsT X d mc96 0 [(2, 0), (0, x1), (0, x2), (1, x3), (3, 0), (0, x5)] [] (mk E c s (hh g)) from rfl).trans (r96_0 X E c s g d x1 x2 x3 x5 )
theorem r96_3 (d : Nat) (x1 x2 x3 x5 s0 : Int) : Ev prog clsT X d mc96 3 [(2, 0), (0, x1), (0, x2), (1, x3), (3, 0), (0, x5)] [(2, s0)] (mk E c s (hh g)) =
  (if (2 : Nat) = 2 ∧ s0 ≠ -5 then (if (decide (s0 = -1)) = true then
  (some ((0, (-1)), ((mk E c s (hh g)))))
else
  ((Call prog clsT X d 84 [(2, 1), (0, x2)] ((mk E c s (hh g)))).bind fun r1 => if r1.1.1 = 4 then none else
    Ev prog clsT X d mc96 8 [(2, 0), (0, x1), (0, x2), (1, x3), (3, 0), (0, x5)] (pushR r1.1 []) r1.2)) else none) :=
  (evk_at (r := (if (2 : Nat) = 2 ∧ s0 ≠ -5 then (if (decide (s0 = -1)) = true then
  (some ((0, (-1)), (mk E c s (hh g))))
else
  ((fget 5634 ((mk E c s (hh g))) 0).bind fun v1 =>
    if (2 : Nat) = 2 ∧ rcv ((mk E c s (hh g))) v1 11 = true then
    ((Call prog clsT X d 84 [(2, v1), (0, x2)] ((mk E c s (hh g)))).bind fun r2 => if r2.1.1 = 4 then none else
    Ev prog clsT X d mc96 8 [(2, 0), (0, x1), (0, x2), (1, x3), (3, 0), (0, x5)] (pushR r2.1 []) r2.2) else none)) else none)) X [0, 3, 8, 13, 23, 26, 34, 44, 57] 6 rfl).trans (by simp (disch := decide) only [F5634_0, R1_11, bindI, Option.bind_some, if_true_, and_self, ite_true, true_and, true_or, or_true])
theorem r96_8 (d : Nat) (x1 x2 x3 x5 s0 : Int) : Ev prog clsT X d mc96 8 [(2, 0), (0, x1), (0, x2), (1, x3), (3, 0), (0, x5)] [(0, s0)] (mk E c s (hh g)) =
  (if cmpI .eq s0 0 = true then
  (some ((0, (-1)), ((mk E c s (hh g)))))
else
  ((Call prog clsT X d 90 [(0, x5), (0, 0), (0, 9)] ((mk E c s (hh g)))).bind fun r1 => if r1.1.1 = 4 then none else
    Ev prog clsT X d mc96 13 [(2, 0), (0, x1), (0, x2), (1, x3), (3, 0), (0, x5)] (pushR r1.1 []) r1.2)) :=
  (evk_at (r := (if cmpI .eq s0 0 = true then
  (some ((0, (-1)), (mk E c s (hh g))))
else
  ((Call prog clsT X d 90 [(0, x5), (0, 0), (0, 9)] ((mk E c s (hh g)))).bind fun r1 => if r1.1.1 = 4 then none else
    Ev prog clsT X d mc96 13 [(2, 0), (0, x1), (0, x2), (1, x3), (3, 0), (0, x5)] (pushR r1.1 []) r1.2))) X [0, 3, 8, 13, 23, 26, 34, 44, 57] 6 rfl).trans (by simp (disch := decide) only [bindI, Option.bind_some, if_true_, and_self, ite_true, true_and, true_or, or_true])
theorem r96_13 (d : Nat) (x1 x2 x3 x5 s0 : Int) : Ev prog clsT X d mc96 13 [(2, 0), (0, x1), (0, x2), (1, x3), (3, 0), (0, x5)] [(0, s0)] (mk E c s (hh g)) =
  (if cmpI .ne s0 0 = true then
  (if cmpI .ge ((g 30 0)) 40 = true then
    (some ((0, (-1)), ((mk E c s (hh g)))))
  else
    ((Call prog clsT X d 264 [(1, x3)] ((mk E c s (hh g)))).bind fun r1 => if r1.1.1 = 4 then none else
      Ev prog clsT X d mc96 23 [(2, 0), (0, x1), (0, x2), (1, x3), (3, 0), (0, x5)] (pushR r1.1 []) r1.2))
else
  (some ((0, (-1)), ((mk E c s (hh g)))))) :=
  (evk_at (r := (if cmpI .ne s0 0 = true then
  ((fget 5658 ((mk E c s (hh g))) 0).bind fun v1 =>
    (fget 1024 ((mk E c s (hh g))) v1).bind fun v2 =>
    if cmpI .ge v2 40 = true then
    (some ((0, (-1)), (mk E c s (hh g))))
  else
    ((Call prog clsT X d 264 [(1, x3)] ((mk E c s (hh g)))).bind fun r3 => if r3.1.1 = 4 then none else
      Ev prog clsT X d mc96 23 [(2, 0), (0, x1), (0, x2), (1, x3), (3, 0), (0, x5)] (pushR r3.1 []) r3.2))
else
  (some ((0, (-1)), (mk E c s (hh g)))))) X [0, 3, 8, 13, 23, 26, 34, 44, 57] 9 rfl).trans (by simp (disch := decide) only [F1024_30, F5658_0, bindI, Option.bind_some, if_true_, and_self, ite_true, true_and, true_or, or_true])
theorem r96_23 (d : Nat) (x1 x2 x3 x5 s0 : Int) : Ev prog clsT X d mc96 23 [(2, 0), (0, x1), (0, x2), (1, x3), (3, 0), (0, x5)] [(0, s0)] (mk E c s (hh g)) =
  ((Call prog clsT X d 90 [(0, s0), (0, 1), (0, 8)] ((mk E c s (hh g)))).bind fun r1 => if r1.1.1 = 4 then none else
  Ev prog clsT X d mc96 26 [(2, 0), (0, x1), (0, x2), (1, x3), (3, 0), (0, x5)] (pushR r1.1 []) r1.2) :=
  evk_at X [0, 3, 8, 13, 23, 26, 34, 44, 57] 4 rfl
theorem r96_26 (d : Nat) (x1 x2 x3 x5 s0 : Int) : Ev prog clsT X d mc96 26 [(2, 0), (0, x1), (0, x2), (1, x3), (3, 0), (0, x5)] [(0, s0)] (mk E c s (hh g)) =
  (if cmpI .ne s0 0 = true then
  ((Call prog clsT X d 85 [(2, 1), (0, x2)] ((mk E c s (hh g)))).bind fun r1 => if r1.1.1 = 4 then none else
    Ev prog clsT X d mc96 34 [(2, 0), (0, x1), (0, x2), (1, x3), (3, 0), (0, x5)] (pushR r1.1 [(1, x3)]) r1.2)
else
  (some ((0, (-1)), ((mk E c s (hh g)))))) :=
  (evk_at (r := (if cmpI .ne s0 0 = true then
  ((fget 5634 ((mk E c s (hh g))) 0).bind fun v1 =>
    if (2 : Nat) = 2 ∧ rcv ((mk E c s (hh g))) v1 11 = true then
    ((Call prog clsT X d 85 [(2, v1), (0, x2)] ((mk E c s (hh g)))).bind fun r2 => if r2.1.1 = 4 then none else
    Ev prog clsT X d mc96 34 [(2, 0), (0, x1), (0, x2), (1, x3), (3, 0), (0, x5)] (pushR r2.1 [(1, x3)]) r2.2) else none)
else
  (some ((0, (-1)), (mk E c s (hh g)))))) X [0, 3, 8, 13, 23, 26, 34, 44, 57] 7 rfl).trans (by simp (disch := decide) only [F5634_0, R1_11, bindI, Option.bind_some, if_true_, and_self, ite_true, true_and, true_or, or_true])
theorem r96_34 (d : Nat) (x1 x2 x3 x5 s0 s1 : Int) : Ev prog clsT X d mc96 34 [(2, 0), (0, x1), (0, x2), (1, x3), (3, 0), (0, x5)] [(1, s1), (1, s0)] (mk E c s (hh g)) =
  (if cmpI .ne ((lcmpI ((land64 s0 ((lxor64 s1 ((-1)))))) 0)) 0 = true then
  (some ((0, (-1)), ((mk E c s (hh g)))))
else
  ((Call prog clsT X d 18 [(2, 30)] ((mk E c s (hh g)))).bind fun r1 => if r1.1.1 = 4 then none else
    Ev prog clsT X d mc96 44 [(2, 0), (0, x1), (0, x2), (1, x3), (3, 0), (0, x5)] (pushR r1.1 [(1, x3)]) r1.2)) :=
  (evk_at (r := (if cmpI .ne ((lcmpI ((land64 s0 ((lxor64 s1 ((-1)))))) 0)) 0 = true then
  (some ((0, (-1)), (mk E c s (hh g))))
else
  ((fget 5658 ((mk E c s (hh g))) 0).bind fun v1 =>
    if (2 : Nat) = 2 ∧ rcv ((mk E c s (hh g))) v1 3 = true then
    ((Call prog clsT X d 18 [(2, v1)] ((mk E c s (hh g)))).bind fun r2 => if r2.1.1 = 4 then none else
    Ev prog clsT X d mc96 44 [(2, 0), (0, x1), (0, x2), (1, x3), (3, 0), (0, x5)] (pushR r2.1 [(1, x3)]) r2.2) else none))) X [0, 3, 8, 13, 23, 26, 34, 44, 57] 11 rfl).trans (by simp (disch := decide) only [F5658_0, R30_3, bindI, Option.bind_some, if_true_, and_self, ite_true, true_and, true_or, or_true])
theorem r96_44 (d : Nat) (x1 x2 x3 x5 s0 s1 : Int) : Ev prog clsT X d mc96 44 [(2, 0), (0, x1), (0, x2), (1, x3), (3, 0), (0, x5)] [(1, s1), (1, s0)] (mk E c s (hh g)) =
  (if cmpI .eq ((lcmpI ((land64 s0 s1)) 0)) 0 = true then
  ((Call prog clsT X d 21 [(2, 30), (0, x1), (0, x2), (1, x3), (0, x5)] ((mk E c s (hh g)))).bind fun r1 => if r1.1.1 = 4 then none else
    Ev prog clsT X d mc96 57 [(2, 0), (0, x1), (0, x2), (1, x3), (3, 0), (0, x5)] (pushR r1.1 []) r1.2)
else
  (some ((0, (-1)), ((mk E c s (hh g)))))) :=
  (evk_at (r := (if cmpI .eq ((lcmpI ((land64 s0 s1)) 0)) 0 = true then
  ((fget 5658 ((mk E c s (hh g))) 0).bind fun v1 =>
    if (2 : Nat) = 2 ∧ rcv ((mk E c s (hh g))) v1 3 = true then
    ((Call prog clsT X d 21 [(2, v1), (0, x1), (0, x2), (1, x3), (0, x5)] ((mk E c s (hh g)))).bind fun r2 => if r2.1.1 = 4 then none else
    Ev prog clsT X d mc96 57 [(2, 0), (0, x1), (0, x2), (1, x3), (3, 0), (0, x5)] (pushR r2.1 []) r2.2) else none)
else
  (some ((0, (-1)), (mk E c s (hh g)))))) X [0, 3, 8, 13, 23, 26, 34, 44, 57] 12 rfl).trans (by simp (disch := decide) only [F5658_0, R30_3, bindI, Option.bind_some, if_true_, and_self, ite_true, true_and, true_or, or_true])
theorem r96_57 (d : Nat) (x1 x2 x3 x5 s0 : Int) : Ev prog clsT X d mc96 57 [(2, 0), (0, x1), (0, x2), (1, x3), (3, 0), (0, x5)] [(0, s0)] (mk E c s (hh g)) =
  (some ((0, s0), ((mk E c s (hh g))))) :=
  (evk_at (r := (some ((0, s0), (mk E c s (hh g))))) X [0, 3, 8, 13, 23, 26, 34, 44, 57] 2 rfl).trans (by simp (disch := decide) only [bindI, Option.bind_some, if_true_, and_self, ite_true, true_and, true_or, or_true])
theorem r97_0 (d : Nat) (x1 : Int) : Ev prog clsT X d mc97 0 [(2, 0), (0, x1)] [] (mk E c s (hh g)) =
  ((Call prog clsT X d 90 [(0, x1), (0, 0), (0, 9)] ((mk E c s (hh g)))).bind fun r1 => if r1.1.1 = 4 then none else
  Ev prog clsT X d mc97 4 [(2, 0), (0, x1)] (pushR r1.1 []) r1.2) :=
  evk_at X [0, 4] 5 rfl
theorem rc97_ (d : Nat) (x1 : Int) : Call prog clsT X (d + 1) 97 [(2, 0), (0, x1)] (mk E c s (hh g)) =
  ((Call prog clsT X d 90 [(0, x1), (0, 0), (0, 9)] ((mk E c s (hh g)))).bind fun r1 => if r1.1.1 = 4 then none else
  Ev prog clsT X d mc97 4 [(2, 0), (0, x1)] (pushR r1.1 []) r1.2) :=
  (show Call prog clsT X (d + 1) 97 [(2, 0), (0, x1)] (mk E c s (hh g)) = Ev prog clsT X d mc97 0 [(2, 0), (0, x1)] [] (mk E c s (hh g)) from rfl).trans (r97_0 X E c s g d x1 )
theorem r97_4 (d : Nat) (x1 s0 : Int) : Ev prog clsT X d mc97 4 [(2, 0), (0, x1)] [(0, s0)] (mk E c s (hh g)) =
  (if cmpI .eq s0 0 = true then
  (some ((2, (-1)), ((mk E c s (hh g)))))
else
  (if inb x1 10 = true then
    (some ((2, (g 16 (Int.toNat x1))), ((mk E c s (hh g)))))
  else none)) :=
  (evk_at (r := (if cmpI .eq s0 0 = true then
  (some ((2, (-1)), (mk E c s (hh g))))
else
  ((fget 5642 ((mk E c s (hh g))) 0).bind fun v1 =>
    if (lay? ((mk E c s (hh g))) v1).1 = 104 ∨ (lay? ((mk E c s (hh g))) v1).1 = 105 then (aget X (lay? ((mk E c s (hh g))) v1).1 ((mk E c s (hh g))) v1 x1).bind fun v2 =>
    (some ((2, v2), (mk E c s (hh g)))) else none))) X [0, 4] 8 rfl).trans (by simp (disch := decide) only [A16, F5642_0, lay_16, bindI, Option.bind_some, if_true_, and_self, ite_true, true_and, true_or, or_true])
theorem r98_0 (d : Nat) (x1 x2 : Int) : Ev prog clsT X d mc98 0 [(2, 0), (0, x1), (0, x2), (3, 0), (3, 0), (3, 0), (3, 0), (3, 0)] [] (mk E c s (hh g)) =
  ((Call prog clsT X d 97 [(2, 0), (0, x1)] ((mk E c s (hh g)))).bind fun r1 => if r1.1.1 = 4 then none else
  Ev prog clsT X d mc98 3 [(2, 0), (0, x1), (0, x2), (3, 0), (3, 0), (3, 0), (3, 0), (3, 0)] (pushR r1.1 []) r1.2) :=
  (evk_at (r := (if (2 : Nat) = 2 ∧ rcv ((mk E c s (hh g))) 0 12 = true then
  ((Call prog clsT X d 97 [(2, 0), (0, x1)] ((mk E c s (hh g)))).bind fun r1 => if r1.1.1 = 4 then none else
  Ev prog clsT X d mc98 3 [(2, 0), (0, x1), (0, x2), (3, 0), (3, 0), (3, 0), (3, 0), (3, 0)] (pushR r1.1 []) r1.2) else none)) X [0, 3, 13, 21, 27, 42] 4 rfl).trans (by simp (disch := decide) only [R0_12, bindI, Option.bind_some, if_true_, and_self, ite_true, true_and, true_or, or_true])
theorem rc98_ (d : Nat) (x1 x2 : Int) : Call prog clsT X (d + 1) 98 [(2, 0), (0, x1), (0, x2)] (mk E c s (hh g)) =
  ((Call prog clsT X d 97 [(2, 0), (0, x1)] ((mk E c s (hh g)))).bind fun r1 => if r1.1.1 = 4 then none else
  Ev prog clsT X d mc98 3 [(2, 0), (0, x1), (0, x2), (3, 0), (3, 0), (3, 0), (3, 0), (3, 0)] (pushR r1.1 []) r1.2) :=
  (show Call prog clsT X (d + 1) 98 [(2, 0), (0, x1), (0, x2)] (mk E c s (hh g)) = Ev prog clsT X d mc98 0 [(2, 0), (0, x1), (0, x2), (3, 0), (3, 0), (3, 0), (3, 0), (3, 0)] [] (mk E c s (hh g)) from rfl).trans (r98_0 X E c s g d x1 x2 )
theorem r98_3 (d : Nat) (x1 x2 s0 : Int) : Ev prog clsT X d mc98 3 [(2, 0), (0, x1), (0, x2), (3, 0), (3, 0), (3, 0), (3, 0), (3, 0)] [(2, s0)] (mk E c s (hh g)) =
  (if (2 : Nat) = 2 ∧ s0 ≠ -5 then (if (decide (s0 = -1)) = true then
  (some ((0, (-1)), ((mk E c s (hh g)))))
else
  ((fget 3584 ((mk E c s (hh g))) s0).bind fun v1 =>
    if cmpI .eq v1 0 = true then
    (some ((0, (-1)), ((mk E c s (hh g)))))
  else
    ((Call prog clsT X d 90 [(0, x2), (0, 0), (0, 1)] ((mk E c s (hh g)))).bind fun r2 => if r2.1.1 = 4 then none else
      Ev prog clsT X d mc98 13 [(2, 0), (0, x1), (0, x2), (2, s0), (3, 0), (3, 0), (3, 0), (3, 0)] (pushR r2.1 []) r2.2))) else none) :=
  (evk_at (r := (if (2 : Nat) = 2 ∧ s0 ≠ -5 then (if (decide (s0 = -1)) = true then
  (some ((0, (-1)), (mk E c s (hh g))))
else
  ((fget 3584 ((mk E c s (hh g))) s0).bind fun v1 =>
    if cmpI .eq v1 0 = true then
    (some ((0, (-1)), (mk E c s (hh g))))
  else
    ((Call prog clsT X d 90 [(0, x2), (0, 0), (0, 1)] ((mk E c s (hh g)))).bind fun r2 => if r2.1.1 = 4 then none else
      Ev prog clsT X d mc98 13 [(2, 0), (0, x1), (0, x2), (2, s0), (3, 0), (3, 0), (3, 0), (3, 0)] (pushR r2.1 []) r2.2))) else none)) X [0, 3, 13, 21, 27, 42] 11 rfl).trans (by simp (disch := decide) only [bindI, Option.bind_some, if_true_, and_self, ite_true, true_and, true_or, or_true])
theorem r98_13 (d : Nat) (x1 x2 x3 s0 : Int) : Ev prog clsT X d mc98 13 [(2, 0), (0, x1), (0, x2), (2, x3), (3, 0), (3, 0), (3, 0), (3, 0)] [(0, s0)] (mk E c s (hh g)) =
  (if cmpI .ne s0 0 = true then
  ((fget 3584 ((mk E c s (hh g))) x3).bind fun v1 =>
    (Call prog clsT X d 71 [(2, 27), (0, v1)] ((mk E c s (hh g)))).bind fun r2 => if r2.1.1 = 4 then none else
    Ev prog clsT X d mc98 21 [(2, 0), (0, x1), (0, x2), (2, x3), (3, 0), (3, 0), (3, 0), (3, 0)] (pushR r2.1 []) r2.2)
else
  (some ((0, (-1)), ((mk E c s (hh g)))))) :=
  (evk_at (r := (if cmpI .ne s0 0 = true then
  ((fget 5654 ((mk E c s (hh g))) 0).bind fun v1 =>
    (fget 3584 ((mk E c s (hh g))) x3).bind fun v2 =>
    if (2 : Nat) = 2 ∧ rcv ((mk E c s (hh g))) v1 9 = true then
    ((Call prog clsT X d 71 [(2, v1), (0, v2)] ((mk E c s (hh g)))).bind fun r3 => if r3.1.1 = 4 then none else
    Ev prog clsT X d mc98 21 [(2, 0), (0, x1), (0, x2), (2, x3), (3, 0), (3, 0), (3, 0), (3, 0)] (pushR r3.1 []) r3.2) else none)
else
  (some ((0, (-1)), (mk E c s (hh g)))))) X [0, 3, 13, 21, 27, 42] 7 rfl).trans (by simp (disch := decide) only [F5654_0, R27_9, bindI, Option.bind_some, if_true_, and_self, ite_true, true_and, true_or, or_true])
theorem r98_21 (d : Nat) (x1 x2 x3 : Int) : Ev prog clsT X d mc98 21 [(2, 0), (0, x1), (0, x2), (2, x3), (3, 0), (3, 0), (3, 0), (3, 0)] [] (mk E c s (hh g)) =
  (Ev prog clsT X d mc98 27 [(2, 0), (0, x1), (0, x2), (2, x3), (0, 0), (0, (-1)), (0, 1), (3, 0)] [] (mk E c s (hh g))) :=
  evk_at X [0, 3, 13, 21, 27, 42] 8 rfl
theorem r98_42 (d : Nat) (x2 x3 x4 x5 x6 s0 : Int) : Ev prog clsT X d mc98 42 [(2, 0), (3, 0), (0, x2), (2, x3), (0, x4), (0, x5), (0, x6), (3, 0)] [(0, s0)] (mk E c s (hh g)) =
  (if cmpI .eq s0 ((-1)) = true then
  (Ev prog clsT X d mc98 27 [(2, 0), (3, 0), (0, x2), (2, x3), (0, x4), (0, x5), (0, (w32 (x6 + 1))), (0, s0)] [] (mk E c s (hh g)))
else
  (if cmpI .ne x4 0 = true then
    (Ev prog clsT X d mc98 27 [(2, 0), (3, 0), (0, x2), (2, x3), (0, (w32 (x4 + 1))), (0, x5), (0, (w32 (x6 + 1))), (0, s0)] [] (mk E c s (hh g)))
  else
    (Ev prog clsT X d mc98 27 [(2, 0), (3, 0), (0, x2), (2, x3), (0, (w32 (x4 + 1))), (0, s0), (0, (w32 (x6 + 1))), (0, s0)] [] (mk E c s (hh g))))) :=
  evk_at X [0, 3, 13, 21, 27, 42] 14 rfl
theorem r99_0 (d : Nat) (x1 : Int) : Ev prog clsT X d mc99 0 [(2, 0), (0, x1)] [] (mk E c s (hh g)) =
  ((Call prog clsT X d 19 [(2, 30), (0, x1)] ((mk E c s (hh g)))).bind fun r1 => if r1.1.1 = 4 then none else
  Ev prog clsT X d mc99 4 [(2, 0), (0, x1)] (pushR r1.1 []) r1.2) :=
  (evk_at (r := ((fget 5658 ((mk E c s (hh g))) 0).bind fun v1 =>
  if (2 : Nat) = 2 ∧ rcv ((mk E c s (hh g))) v1 3 = true then
  ((Call prog clsT X d 19 [(2, v1), (0, x1)] ((mk E c s (hh g)))).bind fun r2 => if r2.1.1 = 4 then none else
  Ev prog clsT X d mc99 4 [(2, 0), (0, x1)] (pushR r2.1 []) r2.2) else none)) X [0, 4] 5 rfl).trans (by simp (disch := decide) only [F5658_0, R30_3, bindI, Option.bind_some, if_true_, and_self, ite_true, true_and, true_or, or_true])
theorem rc99_ (d : Nat) (x1 : Int) : Call prog clsT X (d + 1) 99 [(2, 0), (0, x1)] (mk E c s (hh g)) =
  ((Call prog clsT X d 19 [(2, 30), (0, x1)] ((mk E c s (hh g)))).bind fun r1 => if r1.1.1 = 4 then none else
  Ev prog clsT X d mc99 4 [(2, 0), (0, x1)] (pushR r1.1 []) r1.2) :=
  (show Call prog clsT X (d + 1) 99 [(2, 0), (0, x1)] (mk E c s (hh g)) = Ev prog clsT X d mc99 0 [(2, 0), (0, x1)] [] (mk E c s (hh g)) from rfl).trans (r99_0 X E c s g d x1 )
theorem r99_4 (d : Nat) (x1 s0 : Int) : Ev prog clsT X d mc99 4 [(2, 0), (0, x1)] [(0, s0)] (mk E c s (hh g)) =
  (if cmpI .ne s0 0 = true then
  (some ((0, 1), ((mk E c s (hh (up g 30 1 ((land64 ((g 30 1)) ((lxor64 ((lshl64 1 x1)) ((-1))))))))))))
else
  (some ((0, 0), ((mk E c s (hh g)))))) :=
  (evk_at (r := (if cmpI .ne s0 0 = true then
  ((fget 5658 ((mk E c s (hh g))) 0).bind fun v1 =>
    (fget 1029 ((mk E c s (hh g))) v1).bind fun v2 =>
    (fput 1029 ((mk E c s (hh g))) v1 ((land64 v2 ((lxor64 ((lshl64 1 x1)) ((-1))))))).bind fun M3 =>
    some ((0, 1), M3))
else
  (some ((0, 0), (mk E c s (hh g)))))) X [0, 4] 15 rfl).trans (by simp (disch := decide) only [F1029_30, F5658_0, W1029_30, bindI, Option.bind_some, if_true_, and_self, ite_true, true_and, true_or, or_true])
theorem r100_0 (d : Nat) (x1 x2 : Int) : Ev prog clsT X d mc100 0 [(2, 0), (0, x1), (0, x2)] [] (mk E c s (hh g)) =
  ((Call prog clsT X d 20 [(2, 30), (0, x1)] ((mk E c s (hh g)))).bind fun r1 => if r1.1.1 = 4 then none else
  Ev prog clsT X d mc100 4 [(2, 0), (0, x1), (0, x2)] (pushR r1.1 []) r1.2) :=
  (evk_at (r := ((fget 5658 ((mk E c s (hh g))) 0).bind fun v1 =>
  if (2 : Nat) = 2 ∧ rcv ((mk E c s (hh g))) v1 3 = true then
  ((Call prog clsT X d 20 [(2, v1), (0, x1)] ((mk E c s (hh g)))).bind fun r2 => if r2.1.1 = 4 then none else
  Ev prog clsT X d mc100 4 [(2, 0), (0, x1), (0, x2)] (pushR r2.1 []) r2.2) else none)) X [0, 4, 13] 5 rfl).trans (by simp (disch := decide) only [F5658_0, R30_3, bindI, Option.bind_some, if_true_, and_self, ite_true, true_and, true_or, or_true])
theorem rc100_ (d : Nat) (x1 x2 : Int) : Call prog clsT X (d + 1) 100 [(2, 0), (0, x1), (0, x2)] (mk E c s (hh g)) =
  ((Call prog clsT X d 20 [(2, 30), (0, x1)] ((mk E c s (hh g)))).bind fun r1 => if r1.1.1 = 4 then none else
  Ev prog clsT X d mc100 4 [(2, 0), (0, x1), (0, x2)] (pushR r1.1 []) r1.2) :=
  (show Call prog clsT X (d + 1) 100 [(2, 0), (0, x1), (0, x2)] (mk E c s (hh g)) = Ev prog clsT X d mc100 0 [(2, 0), (0, x1), (0, x2)] [] (mk E c s (hh g)) from rfl).trans (r100_0 X E c s g d x1 x2 )
theorem r100_4 (d : Nat) (x1 x2 s0 : Int) : Ev prog clsT X d mc100 4 [(2, 0), (0, x1), (0, x2)] [(0, s0)] (mk E c s (hh g)) =
  (if cmpI .eq s0 0 = true then
  (some ((0, 0), ((mk E c s (hh g)))))
else
  (if inb x1 40 = true then
    ((Call prog clsT X d 90 [(0, x2), (0, 0), (0, (g 34 (Int.toNat x1)))] ((mk E c s (hh g)))).bind fun r1 => if r1.1.1 = 4 then none else
    Ev prog clsT X d mc100 13 [(2, 0), (0, x1), (0, x2)] (pushR r1.1 []) r1.2)
  else none)) :=
  (evk_at (r := (if cmpI .eq s0 0 = true then
  (some ((0, 0), (mk E c s (hh g))))
else
  ((fget 5658 ((mk E c s (hh g))) 0).bind fun v1 =>
    (fget 1046 ((mk E c s (hh g))) v1).bind fun v2 =>
    (aget X 100 ((mk E c s (hh g))) v2 x1).bind fun v3 =>
    (Call prog clsT X d 90 [(0, x2), (0, 0), (0, v3)] ((mk E c s (hh g)))).bind fun r4 => if r4.1.1 = 4 then none else
    Ev prog clsT X d mc100 13 [(2, 0), (0, x1), (0, x2)] (pushR r4.1 []) r4.2))) X [0, 4, 13] 10 rfl).trans (by simp (disch := decide) only [A34, F1046_30, F5658_0, bindI, Option.bind_some, if_true_, and_self, ite_true, true_and, true_or, or_true])
theorem r101_0 (d : Nat) (x1 x2 : Int) : Ev prog clsT X d mc101 0 [(2, 0), (0, x1), (0, x2)] [] (mk E c s (hh g)) =
  ((Call prog clsT X d 90 [(0, x1), (0, 0), (0, 3)] ((mk E c s (hh g)))).bind fun r1 => if r1.1.1 = 4 then none else
  Ev prog clsT X d mc101 4 [(2, 0), (0, x1), (0, x2)] (pushR r1.1 []) r1.2) :=
  evk_at X [0, 4, 9] 5 rfl
theorem rc101_ (d : Nat) (x1 x2 : Int) : Call prog clsT X (d + 1) 101 [(2, 0), (0, x1), (0, x2)] (mk E c s (hh g)) =
  ((Call prog clsT X d 90 [(0, x1), (0, 0), (0, 3)] ((mk E c s (hh g)))).bind fun r1 => if r1.1.1 = 4 then none else
  Ev prog clsT X d mc101 4 [(2, 0), (0, x1), (0, x2)] (pushR r1.1 []) r1.2) :=
  (show Call prog clsT X (d + 1) 101 [(2, 0), (0, x1), (0, x2)] (mk E c s (hh g)) = Ev prog clsT X d mc101 0 [(2, 0), (0, x1), (0, x2)] [] (mk E c s (hh g)) from rfl).trans (r101_0 X E c s g d x1 x2 )
theorem r101_4 (d : Nat) (x1 x2 s0 : Int) : Ev prog clsT X d mc101 4 [(2, 0), (0, x1), (0, x2)] [(0, s0)] (mk E c s (hh g)) =
  (if cmpI .eq s0 0 = true then
  (some ((0, 0), ((mk E c s (hh g)))))
else
  ((Call prog clsT X d 90 [(0, x2), (0, 0), (0, 5)] ((mk E c s (hh g)))).bind fun r1 => if r1.1.1 = 4 then none else
    Ev prog clsT X d mc101 9 [(2, 0), (0, x1), (0, x2)] (pushR r1.1 []) r1.2)) :=
  (evk_at (r := (if cmpI .eq s0 0 = true then
  (some ((0, 0), (mk E c s (hh g))))
else
  ((Call prog clsT X d 90 [(0, x2), (0, 0), (0, 5)] ((mk E c s (hh g)))).bind fun r1 => if r1.1.1 = 4 then none else
    Ev prog clsT X d mc101 9 [(2, 0), (0, x1), (0, x2)] (pushR r1.1 []) r1.2))) X [0, 4, 9] 6 rfl).trans (by simp (disch := decide) only [bindI, Option.bind_some, if_true_, and_self, ite_true, true_and, true_or, or_true])
theorem r102_0 (d : Nat) (x1 x2 x3 : Int) : Ev prog clsT X d mc102 0 [(2, 0), (0, x1), (0, x2), (0, x3)] [] (mk E c s (hh g)) =
  ((Call prog clsT X d 34 [(2, 36), (0, x1)] ((mk E c s (hh g)))).bind fun r1 => if r1.1.1 = 4 then none else
  Ev prog clsT X d mc102 4 [(2, 0), (0, x1), (0, x2), (0, x3)] (pushR r1.1 []) r1.2) :=
  (evk_at (r := ((fget 5662 ((mk E c s (hh g))) 0).bind fun v1 =>
  if (2 : Nat) = 2 ∧ rcv ((mk E c s (hh g))) v1 5 = true then
  ((Call prog clsT X d 34 [(2, v1), (0, x1)] ((mk E c s (hh g)))).bind fun r2 => if r2.1.1 = 4 then none else
  Ev prog clsT X d mc102 4 [(2, 0), (0, x1), (0, x2), (0, x3)] (pushR r2.1 []) r2.2) else none)) X [0, 4, 9, 14] 5 rfl).trans (by simp (disch := decide) only [F5662_0, R36_5, bindI, Option.bind_some, if_true_, and_self, ite_true, true_and, true_or, or_true])
theorem rc102_ (d : Nat) (x1 x2 x3 : Int) : Call prog clsT X (d + 1) 102 [(2, 0), (0, x1), (0, x2), (0, x3)] (mk E c s (hh g)) =
  ((Call prog clsT X d 34 [(2, 36), (0, x1)] ((mk E c s (hh g)))).bind fun r1 => if r1.1.1 = 4 then none else
  Ev prog clsT X d mc102 4 [(2, 0), (0, x1), (0, x2), (0, x3)] (pushR r1.1 []) r1.2) :=
  (show Call prog clsT X (d + 1) 102 [(2, 0), (0, x1), (0, x2), (0, x3)] (mk E c s (hh g)) = Ev prog clsT X d mc102 0 [(2, 0), (0, x1), (0, x2), (0, x3)] [] (mk E c s (hh g)) from rfl).trans (r102_0 X E c s g d x1 x2 x3 )
theorem r102_4 (d : Nat) (x1 x2 x3 s0 : Int) : Ev prog clsT X d mc102 4 [(2, 0), (0, x1), (0, x2), (0, x3)] [(0, s0)] (mk E c s (hh g)) =
  (if cmpI .eq s0 0 = true then
  (some ((0, 0), ((mk E c s (hh g)))))
else
  ((Call prog clsT X d 90 [(0, x2), (0, 0), (0, 5)] ((mk E c s (hh g)))).bind fun r1 => if r1.1.1 = 4 then none else
    Ev prog clsT X d mc102 9 [(2, 0), (0, x1), (0, x2), (0, x3)] (pushR r1.1 []) r1.2)) :=
  (evk_at (r := (if cmpI .eq s0 0 = true then
  (some ((0, 0), (mk E c s (hh g))))
else
  ((Call prog clsT X d 90 [(0, x2), (0, 0), (0, 5)] ((mk E c s (hh g)))).bind fun r1 => if r1.1.1 = 4 then none else
    Ev prog clsT X d mc102 9 [(2, 0), (0, x1), (0, x2), (0, x3)] (pushR r1.1 []) r1.2))) X [0, 4, 9, 14] 6 rfl).trans (by simp (disch := decide) only [bindI, Option.bind_some, if_true_, and_self, ite_true, true_and, true_or, or_true])
theorem r102_9 (d : Nat) (x1 x2 x3 s0 : Int) : Ev prog clsT X d mc102 9 [(2, 0), (0, x1), (0, x2), (0, x3)] [(0, s0)] (mk E c s (hh g)) =
  (if cmpI .eq s0 0 = true then
  (some ((0, 0), ((mk E c s (hh g)))))
else
  ((Call prog clsT X d 90 [(0, x3), (0, (-9)), (0, 9)] ((mk E c s (hh g)))).bind fun r1 => if r1.1.1 = 4 then none else
    Ev prog clsT X d mc102 14 [(2, 0), (0, x1), (0, x2), (0, x3)] (pushR r1.1 []) r1.2)) :=
  (evk_at (r := (if cmpI .eq s0 0 = true then
  (some ((0, 0), (mk E c s (hh g))))
else
  ((Call prog clsT X d 90 [(0, x3), (0, (-9)), (0, 9)] ((mk E c s (hh g)))).bind fun r1 => if r1.1.1 = 4 then none else
    Ev prog clsT X d mc102 14 [(2, 0), (0, x1), (0, x2), (0, x3)] (pushR r1.1 []) r1.2))) X [0, 4, 9, 14] 6 rfl).trans (by simp (disch := decide) only [bindI, Option.bind_some, if_true_, and_self, ite_true, true_and, true_or, or_true])
theorem r103_0 (d : Nat) (x1 x2 : Int) : Ev prog clsT X d mc103 0 [(2, 0), (0, x1), (0, x2)] [] (mk E c s (hh g)) =
  ((Call prog clsT X d 34 [(2, 36), (0, x1)] ((mk E c s (hh g)))).bind fun r1 => if r1.1.1 = 4 then none else
  Ev prog clsT X d mc103 4 [(2, 0), (0, x1), (0, x2)] (pushR r1.1 []) r1.2) :=
  (evk_at (r := ((fget 5662 ((mk E c s (hh g))) 0).bind fun v1 =>
  if (2 : Nat) = 2 ∧ rcv ((mk E c s (hh g))) v1 5 = true then
  ((Call prog clsT X d 34 [(2, v1), (0, x1)] ((mk E c s (hh g)))).bind fun r2 => if r2.1.1 = 4 then none else
  Ev prog clsT X d mc103 4 [(2, 0), (0, x1), (0, x2)] (pushR r2.1 []) r2.2) else none)) X [0, 4, 8, 15] 5 rfl).trans (by simp (disch := decide) only [F5662_0, R36_5, bindI, Option.bind_some, if_true_, and_self, ite_true, true_and, true_or, or_true])
theorem rc103_ (d : Nat) (x1 x2 : Int) : Call prog clsT X (d + 1) 103 [(2, 0), (0, x1), (0, x2)] (mk E c s (hh g)) =
  ((Call prog clsT X d 34 [(2, 36), (0, x1)] ((mk E c s (hh g)))).bind fun r1 => if r1.1.1 = 4 then none else
  Ev prog clsT X d mc103 4 [(2, 0), (0, x1), (0, x2)] (pushR r1.1 []) r1.2) :=
  (show Call prog clsT X (d + 1) 103 [(2, 0), (0, x1), (0, x2)] (mk E c s (hh g)) = Ev prog clsT X d mc103 0 [(2, 0), (0, x1), (0, x2)] [] (mk E c s (hh g)) from rfl).trans (r103_0 X E c s g d x1 x2 )
theorem r103_4 (d : Nat) (x1 x2 s0 : Int) : Ev prog clsT X d mc103 4 [(2, 0), (0, x1), (0, x2)] [(0, s0)] (mk E c s (hh g)) =
  (if cmpI .eq s0 0 = true then
  (some ((0, (-1)), ((mk E c s (hh g)))))
else
  ((Call prog clsT X d 97 [(2, 0), (0, x2)] ((mk E c s (hh g)))).bind fun r1 => if r1.1.1 = 4 then none else
    Ev prog clsT X d mc103 8 [(2, 0), (0, x1), (0, x2)] (pushR r1.1 []) r1.2)) :=
  (evk_at (r := (if cmpI .eq s0 0 = true then
  (some ((0, (-1)), (mk E c s (hh g))))
else
  (if (2 : Nat) = 2 ∧ rcv ((mk E c s (hh g))) 0 12 = true then
    ((Call prog clsT X d 97 [(2, 0), (0, x2)] ((mk E c s (hh g)))).bind fun r1 => if r1.1.1 = 4 then none else
    Ev prog clsT X d mc103 8 [(2, 0), (0, x1), (0, x2)] (pushR r1.1 []) r1.2) else none))) X [0, 4, 8, 15] 5 rfl).trans (by simp (disch := decide) only [R0_12, bindI, Option.bind_some, if_true_, and_self, ite_true, true_and, true_or, or_true])
theorem r103_8 (d : Nat) (x1 x2 s0 : Int) : Ev prog clsT X d mc103 8 [(2, 0), (0, x1), (0, x2)] [(2, s0)] (mk E c s (hh g)) =
  (if (2 : Nat) = 2 ∧ s0 ≠ -5 then (if (!decide (s0 = -1)) = true then
  ((Call prog clsT X d 104 [(2, 0), (0, x1), (0, x2)] ((mk E c s (hh g)))).bind fun r1 => if r1.1.1 = 4 then none else
    Ev prog clsT X d mc103 15 [(2, 0), (0, x1), (0, x2)] (pushR r1.1 []) r1.2)
else
  (some ((0, (-1)), ((mk E c s (hh g)))))) else none) :=
  (evk_at (r := (if (2 : Nat) = 2 ∧ s0 ≠ -5 then (if (!decide (s0 = -1)) = true then
  (if (2 : Nat) = 2 ∧ rcv ((mk E c s (hh g))) 0 12 = true then
    ((Call prog clsT X d 104 [(2, 0), (0, x1), (0, x2)] ((mk E c s (hh g)))).bind fun r1 => if r1.1.1 = 4 then none else
    Ev prog clsT X d mc103 15 [(2, 0), (0, x1), (0, x2)] (pushR r1.1 []) r1.2) else none)
else
  (some ((0, (-1)), (mk E c s (hh g))))) else none)) X [0, 4, 8, 15] 6 rfl).trans (by simp (disch := decide) only [R0_12, bindI, Option.bind_some, if_true_, and_self, ite_true, true_and, true_or, or_true])
theorem r103_15 (d : Nat) (x1 x2 s0 : Int) : Ev prog clsT X d mc103 15 [(2, 0), (0, x1), (0, x2)] [(0, s0)] (mk E c s (hh g)) =
  (if cmpI .eq s0 0 = true then
  (some ((0, 0), ((mk E c s (hh g)))))
else
  (some ((0, 1), ((mk E c s (hh g)))))) :=
  (evk_at (r := (if cmpI .eq s0 0 = true then
  (some ((0, 0), (mk E c s (hh g))))
else
  (some ((0, 1), (mk E c s (hh g)))))) X [0, 4, 8, 15] 5 rfl).trans (by simp (disch := decide) only [bindI, Option.bind_some, if_true_, and_self, ite_true, true_and, true_or, or_true])
theorem r104_0 (d : Nat) (x1 x2 : Int) : Ev prog clsT X d mc104 0 [(2, 0), (0, x1), (0, x2), (3, 0)] [] (mk E c s (hh g)) =
  (Ev prog clsT X d mc104 2 [(2, 0), (0, x1), (0, x2), (0, 0)] [] (mk E c s (hh g))) :=
  evk_at X [0, 2, 12] 4 rfl
theorem rc104_ (d : Nat) (x1 x2 : Int) : Call prog clsT X (d + 1) 104 [(2, 0), (0, x1), (0, x2)] (mk E c s (hh g)) =
  (Ev prog clsT X d mc104 2 [(2, 0), (0, x1), (0, x2), (0, 0)] [] (mk E c s (hh g))) :=
  (show Call prog clsT X (d + 1) 104 [(2, 0), (0, x1), (0, x2)] (mk E c s (hh g)) = Ev prog clsT X d mc104 0 [(2, 0), (0, x1), (0, x2), (3, 0)] [] (mk E c s (hh g)) from rfl).trans (r104_0 X E c s g d x1 x2 )
theorem r104_2 (d : Nat) (x1 x2 x3 : Int) : Ev prog clsT X d mc104 2 [(2, 0), (0, x1), (0, x2), (0, x3)] [] (mk E c s (hh g)) =
  (if cmpI .ge x3 ((g 30 0)) = true then
  (some ((0, 0), ((mk E c s (hh g)))))
else
  ((Call prog clsT X d 22 [(2, 30), (0, x3), (0, x2)] ((mk E c s (hh g)))).bind fun r1 => if r1.1.1 = 4 then none else
    Ev prog clsT X d mc104 12 [(2, 0), (0, x1), (0, x2), (0, x3)] (pushR r1.1 []) r1.2)) :=
  (evk_at (r := ((fget 5658 ((mk E c s (hh g))) 0).bind fun v1 =>
  (fget 1024 ((mk E c s (hh g))) v1).bind fun v2 =>
  if cmpI .ge x3 v2 = true then
  (some ((0, 0), (mk E c s (hh g))))
else
  ((fget 5658 ((mk E c s (hh g))) 0).bind fun v3 =>
    if (2 : Nat) = 2 ∧ rcv ((mk E c s (hh g))) v3 3 = true then
    ((Call prog clsT X d 22 [(2, v3), (0, x3), (0, x2)] ((mk E c s (hh g)))).bind fun r4 => if r4.1.1 = 4 then none else
    Ev prog clsT X d mc104 12 [(2, 0), (0, x1), (0, x2), (0, x3)] (pushR r4.1 []) r4.2) else none))) X [0, 2, 12] 11 rfl).trans (by simp (disch := decide) only [F1024_30, F5658_0, R30_3, bindI, Option.bind_some, if_true_, and_self, ite_true, true_and, true_or, or_true])
theorem r104_12 (d : Nat) (x1 x2 x3 s0 : Int) : Ev prog clsT X d mc104 12 [(2, 0), (0, x1), (0, x2), (0, x3)] [(0, s0)] (mk E c s (hh g)) =
  (if cmpI .eq s0 0 = true then
  (Ev prog clsT X d mc104 2 [(2, 0), (0, x1), (0, x2), (0, (w32 (x3 + 1)))] [] (mk E c s (hh g)))
else
  (if inb x3 40 = true then
    (if inb ((g 32 (Int.toNat x3))) 10 = true then
    (if inb x1 4 = true then
    (if cmpI .ne ((g 2 (Int.toNat ((g 32 (Int.toNat x3)))))) ((g 37 (Int.toNat x1))) = true then
    (Ev prog clsT X d mc104 2 [(2, 0), (0, x1), (0, x2), (0, (w32 (x3 + 1)))] [] (mk E c s (hh g)))
  else
    (some ((0, 1), ((mk E c s (hh g))))))
  else none)
  else none)
  else none)) :=
  (evk_at (r := (if cmpI .eq s0 0 = true then
  (Ev prog clsT X d mc104 2 [(2, 0), (0, x1), (0, x2), (0, (w32 (x3 + 1)))] [] (mk E c s (hh g)))
else
  ((fget 5634 ((mk E c s (hh g))) 0).bind fun v1 =>
    (fget 5122 ((mk E c s (hh g))) v1).bind fun v2 =>
    (fget 5658 ((mk E c s (hh g))) 0).bind fun v3 =>
    (fget 1038 ((mk E c s (hh g))) v3).bind fun v4 =>
    (aget X 100 ((mk E c s (hh g))) v4 x3).bind fun v5 =>
    (aget X 100 ((mk E c s (hh g))) v2 v5).bind fun v6 =>
    (fget 5662 ((mk E c s (hh g))) 0).bind fun v7 =>
    (fget 2050 ((mk E c s (hh g))) v7).bind fun v8 =>
    (aget X 100 ((mk E c s (hh g))) v8 x1).bind fun v9 =>
    if cmpI .ne v6 v9 = true then
    (Ev prog clsT X d mc104 2 [(2, 0), (0, x1), (0, x2), (0, (w32 (x3 + 1)))] [] (mk E c s (hh g)))
  else
    (some ((0, 1), (mk E c s (hh g))))))) X [0, 2, 12] 20 rfl).trans (by simp (disch := decide) only [A2, A32, A37, F1038_30, F2050_36, F5122_1, F5634_0, F5658_0, F5662_0, bindI, Option.bind_some, if_true_, and_self, ite_true, true_and, true_or, or_true])
theorem r105_0 (d : Nat) (x1 x2 : Int) : Ev prog clsT X d mc105 0 [(2, 0), (0, x1), (0, x2), (3, 0), (3, 0)] [] (mk E c s (hh g)) =
  ((Call prog clsT X d 19 [(2, 30), (0, x1)] ((mk E c s (hh g)))).bind fun r1 => if r1.1.1 = 4 then none else
  Ev prog clsT X d mc105 4 [(2, 0), (0, x1), (0, x2), (3, 0), (3, 0)] (pushR r1.1 []) r1.2) :=
  (evk_at (r := ((fget 5658 ((mk E c s (hh g))) 0).bind fun v1 =>
  if (2 : Nat) = 2 ∧ rcv ((mk E c s (hh g))) v1 3 = true then
  ((Call prog clsT X d 19 [(2, v1), (0, x1)] ((mk E c s (hh g)))).bind fun r2 => if r2.1.1 = 4 then none else
  Ev prog clsT X d mc105 4 [(2, 0), (0, x1), (0, x2), (3, 0), (3, 0)] (pushR r2.1 []) r2.2) else none)) X [0, 4, 28, 33] 5 rfl).trans (by simp (disch := decide) only [F5658_0, R30_3, bindI, Option.bind_some, if_true_, and_self, ite_true, true_and, true_or, or_true])
theorem rc105_ (d : Nat) (x1 x2 : Int) : Call prog clsT X (d + 1) 105 [(2, 0), (0, x1), (0, x2)] (mk E c s (hh g)) =
  ((Call prog clsT X d 19 [(2, 30), (0, x1)] ((mk E c s (hh g)))).bind fun r1 => if r1.1.1 = 4 then none else
  Ev prog clsT X d mc105 4 [(2, 0), (0, x1), (0, x2), (3, 0), (3, 0)] (pushR r1.1 []) r1.2) :=
  (show Call prog clsT X (d + 1) 105 [(2, 0), (0, x1), (0, x2)] (mk E c s (hh g)) = Ev prog clsT X d mc105 0 [(2, 0), (0, x1), (0, x2), (3, 0), (3, 0)] [] (mk E c s (hh g)) from rfl).trans (r105_0 X E c s g d x1 x2 )
theorem r105_4 (d : Nat) (x1 x2 s0 : Int) : Ev prog clsT X d mc105 4 [(2, 0), (0, x1), (0, x2), (3, 0), (3, 0)] [(0, s0)] (mk E c s (hh g)) =
  (if cmpI .ne s0 0 = true then
  (if inb x1 40 = true then
    (if cmpI .ne x2 ((-1)) = true then
    ((Call prog clsT X d 34 [(2, 36), (0, x2)] ((mk E c s (hh g)))).bind fun r1 => if r1.1.1 = 4 then none else
      Ev prog clsT X d mc105 28 [(2, 0), (0, x1), (0, x2), (0, (g 31 (Int.toNat x1))), (0, x2)] (pushR r1.1 []) r1.2)
  else
    (if inb ((g 31 (Int.toNat x1))) 10 = true then
      ((Call prog clsT X d 34 [(2, 36), (0, (g 39 (Int.toNat ((g 31 (Int.toNat x1))))))] ((mk E c s (hh g)))).bind fun r2 => if r2.1.1 = 4 then none else
      Ev prog clsT X d mc105 28 [(2, 0), (0, x1), (0, x2), (0, (g 31 (Int.toNat x1))), (0, (g 39 (Int.toNat ((g 31 (Int.toNat x1))))))] (pushR r2.1 []) r2.2)
    else none))
  else none)
else
  (some ((0, (-1)), ((mk E c s (hh g)))))) :=
  (evk_at (r := (if cmpI .ne s0 0 = true then
  ((fget 5658 ((mk E c s (hh g))) 0).bind fun v1 =>
    (fget 1034 ((mk E c s (hh g))) v1).bind fun v2 =>
    (aget X 100 ((mk E c s (hh g))) v2 x1).bind fun v3 =>
    if cmpI .ne x2 ((-1)) = true then
    ((fget 5662 ((mk E c s (hh g))) 0).bind fun v4 =>
      if (2 : Nat) = 2 ∧ rcv ((mk E c s (hh g))) v4 5 = true then
      ((Call prog clsT X d 34 [(2, v4), (0, x2)] ((mk E c s (hh g)))).bind fun r5 => if r5.1.1 = 4 then none else
      Ev prog clsT X d mc105 28 [(2, 0), (0, x1), (0, x2), (0, v3), (0, x2)] (pushR r5.1 []) r5.2) else none)
  else
    ((fget 5662 ((mk E c s (hh g))) 0).bind fun v6 =>
      (fget 2058 ((mk E c s (hh g))) v6).bind fun v7 =>
      (aget X 100 ((mk E c s (hh g))) v7 v3).bind fun v8 =>
      (fget 5662 ((mk E c s (hh g))) 0).bind fun v9 =>
      if (2 : Nat) = 2 ∧ rcv ((mk E c s (hh g))) v9 5 = true then
      ((Call prog clsT X d 34 [(2, v9), (0, v8)] ((mk E c s (hh g)))).bind fun r10 => if r10.1.1 = 4 then none else
      Ev prog clsT X d mc105 28 [(2, 0), (0, x1), (0, x2), (0, v3), (0, v8)] (pushR r10.1 []) r10.2) else none))
else
  (some ((0, (-1)), (mk E c s (hh g)))))) X [0, 4, 28, 33] 22 rfl).trans (by simp (disch := decide) only [A31, A39, F1034_30, F2058_36, F5658_0, F5662_0, R36_5, bindI, Option.bind_some, if_true_, and_self, ite_true, true_and, true_or, or_true])
theorem r105_28 (d : Nat) (x1 x2 x3 x4 s0 : Int) : Ev prog clsT X d mc105 28 [(2, 0), (0, x1), (0, x2), (0, x3), (0, x4)] [(0, s0)] (mk E c s (hh g)) =
  (if cmpI .eq s0 0 = true then
  (some ((0, (-1)), ((mk E c s (hh g)))))
else
  ((Call prog clsT X d 106 [(2, 0), (0, x1), (0, x4)] ((mk E c s (hh g)))).bind fun r1 => if r1.1.1 = 4 then none else
    Ev prog clsT X d mc105 33 [(2, 0), (0, x1), (0, x2), (0, x3), (0, x4)] (pushR r1.1 []) r1.2)) :=
  (evk_at (r := (if cmpI .eq s0 0 = true then
  (some ((0, (-1)), (mk E c s (hh g))))
else
  (if (2 : Nat) = 2 ∧ rcv ((mk E c s (hh g))) 0 12 = true then
    ((Call prog clsT X d 106 [(2, 0), (0, x1), (0, x4)] ((mk E c s (hh g)))).bind fun r1 => if r1.1.1 = 4 then none else
    Ev prog clsT X d mc105 33 [(2, 0), (0, x1), (0, x2), (0, x3), (0, x4)] (pushR r1.1 []) r1.2) else none))) X [0, 4, 28, 33] 6 rfl).trans (by simp (disch := decide) only [R0_12, bindI, Option.bind_some, if_true_, and_self, ite_true, true_and, true_or, or_true])
theorem r105_33 (d : Nat) (x1 x2 x3 x4 s0 : Int) : Ev prog clsT X d mc105 33 [(2, 0), (0, x1), (0, x2), (0, x3), (0, x4)] [(0, s0)] (mk E c s (hh g)) =
  (some ((0, s0), ((mk E c s (hh g))))) :=
  (evk_at (r := (some ((0, s0), (mk E c s (hh g))))) X [0, 4, 28, 33] 3 rfl).trans (by simp (disch := decide) only [bindI, Option.bind_some, if_true_, and_self, ite_true, true_and, true_or, or_true])
theorem r106_0 (d : Nat) (x1 x2 : Int) : Ev prog clsT X d mc106 0 [(2, 0), (0, x1), (0, x2)] [] (mk E c s (hh g)) =
  (if inb x1 40 = true then
  ((Call prog clsT X d 107 [(2, 0), (0, (g 31 (Int.toNat x1))), (0, x2)] ((mk E c s (hh g)))).bind fun r1 => if r1.1.1 = 4 then none else
  Ev prog clsT X d mc106 8 [(2, 0), (0, x1), (0, x2)] (pushR r1.1 []) r1.2)
else none) :=
  (evk_at (r := ((fget 5658 ((mk E c s (hh g))) 0).bind fun v1 =>
  (fget 1034 ((mk E c s (hh g))) v1).bind fun v2 =>
  (aget X 100 ((mk E c s (hh g))) v2 x1).bind fun v3 =>
  if (2 : Nat) = 2 ∧ rcv ((mk E c s (hh g))) 0 12 = true then
  ((Call prog clsT X d 107 [(2, 0), (0, v3), (0, x2)] ((mk E c s (hh g)))).bind fun r4 => if r4.1.1 = 4 then none else
  Ev prog clsT X d mc106 8 [(2, 0), (0, x1), (0, x2)] (pushR r4.1 []) r4.2) else none)) X [0, 8] 9 rfl).trans (by simp (disch := decide) only [A31, F1034_30, F5658_0, R0_12, bindI, Option.bind_some, if_true_, and_self, ite_true, true_and, true_or, or_true])
theorem rc106_ (d : Nat) (x1 x2 : Int) : Call prog clsT X (d + 1) 106 [(2, 0), (0, x1), (0, x2)] (mk E c s (hh g)) =
  (if inb x1 40 = true then
  ((Call prog clsT X d 107 [(2, 0), (0, (g 31 (Int.toNat x1))), (0, x2)] ((mk E c s (hh g)))).bind fun r1 => if r1.1.1 = 4 then none else
  Ev prog clsT X d mc106 8 [(2, 0), (0, x1), (0, x2)] (pushR r1.1 []) r1.2)
else none) :=
  (show Call prog clsT X (d + 1) 106 [(2, 0), (0, x1), (0, x2)] (mk E c s (hh g)) = Ev prog clsT X d mc106 0 [(2, 0), (0, x1), (0, x2)] [] (mk E c s (hh g)) from rfl).trans (r106_0 X E c s g d x1 x2 )
theorem r106_8 (d : Nat) (x1 x2 : Int) : Ev prog clsT X d mc106 8 [(2, 0), (0, x1), (0, x2)] [] (mk E c s (hh g)) =
  (if inb x1 40 = true then
  (if cmpI .le ((g 56 (Int.toNat x1))) 0 = true then
  (some ((0, (-1)), ((mk E c s (hh g)))))
else
  (if inb x1 40 = true then
    (some ((0, (g 56 (Int.toNat x1))), ((mk E c s (hh g)))))
  else none))
else none) :=
  (evk_at (r := ((fget 5674 ((mk E c s (hh g))) 0).bind fun v1 =>
  (fget 2 ((mk E c s (hh g))) v1).bind fun v2 =>
  (aget X 100 ((mk E c s (hh g))) v2 x1).bind fun v3 =>
  if cmpI .le v3 0 = true then
  (some ((0, (-1)), (mk E c s (hh g))))
else
  ((fget 5674 ((mk E c s (hh g))) 0).bind fun v4 =>
    (fget 2 ((mk E c s (hh g))) v4).bind fun v5 =>
    (aget X 100 ((mk E c s (hh g))) v5 x1).bind fun v6 =>
    some ((0, v6), (mk E c s (hh g)))))) X [0, 8] 14 rfl).trans (by simp (disch := decide) only [A56, F2_55, F5674_0, bindI, Option.bind_some, if_true_, and_self, ite_true, true_and, true_or, or_true])
theorem r107_0 (d : Nat) (x1 x2 : Int) : Ev prog clsT X d mc107 0 [(2, 0), (0, x1), (0, x2), (3, 0), (3, 0)] [] (mk E c s (hh g)) =
  ((Call prog clsT X d 97 [(2, 0), (0, x1)] ((mk E c s (hh g)))).bind fun r1 => if r1.1.1 = 4 then none else
  Ev prog clsT X d mc107 3 [(2, 0), (0, x1), (0, x2), (3, 0), (3, 0)] (pushR r1.1 []) r1.2) :=
  (evk_at (r := (if (2 : Nat) = 2 ∧ rcv ((mk E c s (hh g))) 0 12 = true then
  ((Call prog clsT X d 97 [(2, 0), (0, x1)] ((mk E c s (hh g)))).bind fun r1 => if r1.1.1 = 4 then none else
  Ev prog clsT X d mc107 3 [(2, 0), (0, x1), (0, x2), (3, 0), (3, 0)] (pushR r1.1 []) r1.2) else none)) X [0, 3, 7, 9, 19, 24, 30, 39, 44, 45, 53] 4 rfl).trans (by simp (disch := decide) only [R0_12, bindI, Option.bind_some, if_true_, and_self, ite_true, true_and, true_or, or_true])
theorem rc107_ (d : Nat) (x1 x2 : Int) : Call prog clsT X (d + 1) 107 [(2, 0), (0, x1), (0, x2)] (mk E c s (hh g)) =
  ((Call prog clsT X d 97 [(2, 0), (0, x1)] ((mk E c s (hh g)))).bind fun r1 => if r1.1.1 = 4 then none else
  Ev prog clsT X d mc107 3 [(2, 0), (0, x1), (0, x2), (3, 0), (3, 0)] (pushR r1.1 []) r1.2) :=
  (show Call prog clsT X (d + 1) 107 [(2, 0), (0, x1), (0, x2)] (mk E c s (hh g)) = Ev prog clsT X d mc107 0 [(2, 0), (0, x1), (0, x2), (3, 0), (3, 0)] [] (mk E c s (hh g)) from rfl).trans (r107_0 X E c s g d x1 x2 )
theorem r107_3 (d : Nat) (x1 x2 s0 : Int) : Ev prog clsT X d mc107 3 [(2, 0), (0, x1), (0, x2), (3, 0), (3, 0)] [(2, s0)] (mk E c s (hh g)) =
  ((Call prog clsT X d 1 [(2, 55)] ((mk E c s (hh g)))).bind fun r1 => if r1.1.1 = 4 then none else
  Ev prog clsT X d mc107 7 [(2, 0), (0, x1), (0, x2), (2, s0), (3, 0)] (pushR r1.1 []) r1.2) :=
  (evk_at (r := ((fget 5674 ((mk E c s (hh g))) 0).bind fun v1 =>
  if (2 : Nat) = 2 ∧ rcv ((mk E c s (hh g))) v1 1 = true then
  ((Call prog clsT X d 1 [(2, v1)] ((mk E c s (hh g)))).bind fun r2 => if r2.1.1 = 4 then none else
  Ev prog clsT X d mc107 7 [(2, 0), (0, x1), (0, x2), (2, s0), (3, 0)] (pushR r2.1 []) r2.2) else none)) X [0, 3, 7, 9, 19, 24, 30, 39, 44, 45, 53] 5 rfl).trans (by simp (disch := decide) only [F5674_0, R55_1, bindI, Option.bind_some, if_true_, and_self, ite_true, true_and, true_or, or_true])
theorem r107_7 (d : Nat) (x1 x2 x3 : Int) : Ev prog clsT X d mc107 7 [(2, 0), (0, x1), (0, x2), (2, x3), (3, 0)] [] (mk E c s (hh g)) =
  (Ev prog clsT X d mc107 9 [(2, 0), (0, x1), (0, x2), (2, x3), (0, 0)] [] (mk E c s (hh g))) :=
  evk_at X [0, 3, 7, 9, 19, 24, 30, 39, 44, 45, 53] 4 rfl
theorem r107_9 (d : Nat) (x1 x2 x3 x4 : Int) : Ev prog clsT X d mc107 9 [(2, 0), (0, x1), (0, x2), (2, x3), (0, x4)] [] (mk E c s (hh g)) =
  (if cmpI .ge x4 ((g 30 0)) = true then
  ((Call prog clsT X d 3 [(2, 55), (0, (g 30 0))] ((mk E c s (hh g)))).bind fun r1 => if r1.1.1 = 4 then none else
    Ev prog clsT X d mc107 53 [(2, 0), (0, x1), (0, x2), (2, x3), (0, x4)] (pushR r1.1 []) r1.2)
else
  ((Call prog clsT X d 22 [(2, 30), (0, x4), (0, x1)] ((mk E c s (hh g)))).bind fun r2 => if r2.1.1 = 4 then none else
    Ev prog clsT X d mc107 19 [(2, 0), (0, x1), (0, x2), (2, x3), (0, x4)] (pushR r2.1 []) r2.2)) :=
  (evk_at (r := ((fget 5658 ((mk E c s (hh g))) 0).bind fun v1 =>
  (fget 1024 ((mk E c s (hh g))) v1).bind fun v2 =>
  if cmpI .ge x4 v2 = true then
  ((fget 5674 ((mk E c s (hh g))) 0).bind fun v3 =>
    (fget 5658 ((mk E c s (hh g))) 0).bind fun v4 =>
    (fget 1024 ((mk E c s (hh g))) v4).bind fun v5 =>
    if (2 : Nat) = 2 ∧ rcv ((mk E c s (hh g))) v3 1 = true then
    ((Call prog clsT X d 3 [(2, v3), (0, v5)] ((mk E c s (hh g)))).bind fun r6 => if r6.1.1 = 4 then none else
    Ev prog clsT X d mc107 53 [(2, 0), (0, x1), (0, x2), (2, x3), (0, x4)] (pushR r6.1 []) r6.2) else none)
else
  ((fget 5658 ((mk E c s (hh g))) 0).bind fun v7 =>
    if (2 : Nat) = 2 ∧ rcv ((mk E c s (hh g))) v7 3 = true then
    ((Call prog clsT X d 22 [(2, v7), (0, x4), (0, x1)] ((mk E c s (hh g)))).bind fun r8 => if r8.1.1 = 4 then none else
    Ev prog clsT X d mc107 19 [(2, 0), (0, x1), (0, x2), (2, x3), (0, x4)] (pushR r8.1 []) r8.2) else none))) X [0, 3, 7, 9, 19, 24, 30, 39, 44, 45, 53] 12 rfl).trans (by simp (disch := decide) only [F1024_30, F5658_0, F5674_0, R30_3, R55_1, bindI, Option.bind_some, if_true_, and_self, ite_true, true_and, true_or, or_true])
theorem r107_19 (d : Nat) (x1 x2 x3 x4 s0 : Int) : Ev prog clsT X d mc107 19 [(2, 0), (0, x1), (0, x2), (2, x3), (0, x4)] [(0, s0)] (mk E c s (hh g)) =
  (if cmpI .ne s0 0 = true then
  ((Call prog clsT X d 108 [(2, 0), (0, x4)] ((mk E c s (hh g)))).bind fun r1 => if r1.1.1 = 4 then none else
    Ev prog clsT X d mc107 24 [(2, 0), (0, x1), (0, x2), (2, x3), (0, x4)] (pushR r1.1 []) r1.2)
else
  (Ev prog clsT X d mc107 45 [(2, 0), (0, x1), (0, x2), (2, x3), (0, x4)] [] (mk E c s (hh g)))) :=
  (evk_at (r := (if cmpI .ne s0 0 = true then
  (if (2 : Nat) = 2 ∧ rcv ((mk E c s (hh g))) 0 12 = true then
    ((Call prog clsT X d 108 [(2, 0), (0, x4)] ((mk E c s (hh g)))).bind fun r1 => if r1.1.1 = 4 then none else
    Ev prog clsT X d mc107 24 [(2, 0), (0, x1), (0, x2), (2, x3), (0, x4)] (pushR r1.1 []) r1.2) else none)
else
  (Ev prog clsT X d mc107 45 [(2, 0), (0, x1), (0, x2), (2, x3), (0, x4)] [] (mk E c s (hh g))))) X [0, 3, 7, 9, 19, 24, 30, 39, 44, 45, 53] 5 rfl).trans (by simp (disch := decide) only [R0_12, bindI, Option.bind_some, if_true_, and_self, ite_true, true_and, true_or, or_true])
theorem r107_24 (d : Nat) (x1 x2 x3 x4 : Int) : Ev prog clsT X d mc107 24 [(2, 0), (0, x1), (0, x2), (2, x3), (0, x4)] [] (mk E c s (hh g)) =
  ((Call prog clsT X d 72 [(2, 27), (2, x3), (2, (g 0 3))] ((mk E c s (hh g)))).bind fun r1 => if r1.1.1 = 4 then none else
  Ev prog clsT X d mc107 30 [(2, 0), (0, x1), (0, x2), (2, x3), (0, x4)] (pushR r1.1 []) r1.2) :=
  (evk_at (r := ((fget 5654 ((mk E c s (hh g))) 0).bind fun v1 =>
  (fget 5646 ((mk E c s (hh g))) 0).bind fun v2 =>
  if (2 : Nat) = 2 ∧ rcv ((mk E c s (hh g))) v1 9 = true then
  ((Call prog clsT X d 72 [(2, v1), (2, x3), (2, v2)] ((mk E c s (hh g)))).bind fun r3 => if r3.1.1 = 4 then none else
  Ev prog clsT X d mc107 30 [(2, 0), (0, x1), (0, x2), (2, x3), (0, x4)] (pushR r3.1 []) r3.2) else none)) X [0, 3, 7, 9, 19, 24, 30, 39, 44, 45, 53] 7 rfl).trans (by simp (disch := decide) only [F5646_0, F5654_0, R27_9, bindI, Option.bind_some, if_true_, and_self, ite_true, true_and, true_or, or_true])
theorem r107_30 (d : Nat) (x1 x2 x3 x4 s0 : Int) : Ev prog clsT X d mc107 30 [(2, 0), (0, x1), (0, x2), (2, x3), (0, x4)] [(0, s0)] (mk E c s (hh g)) =
  (if cmpI .ne s0 ((-1)) = true then
  (Ev prog clsT X d mc107 45 [(2, 0), (0, x1), (0, x2), (2, x3), (0, x4)] [] (mk E c s (hh g)))
else
  ((Call prog clsT X d 109 [(2, 0), (0, x2), (2, x3)] ((mk E c s (hh g)))).bind fun r1 => if r1.1.1 = 4 then none else
    Ev prog clsT X d mc107 39 [(2, 0), (0, x1), (0, x2), (2, x3), (0, x4)] (pushR r1.1 [(0, x4), (2, 55)]) r1.2)) :=
  (evk_at (r := (if cmpI .ne s0 ((-1)) = true then
  (Ev prog clsT X d mc107 45 [(2, 0), (0, x1), (0, x2), (2, x3), (0, x4)] [] (mk E c s (hh g)))
else
  ((fget 5674 ((mk E c s (hh g))) 0).bind fun v1 =>
    if (2 : Nat) = 2 ∧ rcv ((mk E c s (hh g))) 0 12 = true then
    ((Call prog clsT X d 109 [(2, 0), (0, x2), (2, x3)] ((mk E c s (hh g)))).bind fun r2 => if r2.1.1 = 4 then none else
    Ev prog clsT X d mc107 39 [(2, 0), (0, x1), (0, x2), (2, x3), (0, x4)] (pushR r2.1 [(0, x4), (2, v1)]) r2.2) else none))) X [0, 3, 7, 9, 19, 24, 30, 39, 44, 45, 53] 10 rfl).trans (by simp (disch := decide) only [F5674_0, R0_12, bindI, Option.bind_some, if_true_, and_self, ite_true, true_and, true_or, or_true])
theorem r107_39 (d : Nat) (x1 x2 x3 x4 s1 s2 : Int) : Ev prog clsT X d mc107 39 [(2, 0), (0, x1), (0, x2), (2, x3), (0, x4)] [(0, s2), (0, s1), (2, 55)] (mk E c s (hh g)) =
  ((Call prog clsT X d 74 [(2, 27), (2, x3), (0, 7)] ((mk E c s (hh g)))).bind fun r1 => if r1.1.1 = 4 then none else
  Ev prog clsT X d mc107 44 [(2, 0), (0, x1), (0, x2), (2, x3), (0, x4)] (pushR r1.1 [(0, s2), (0, s1), (2, 55)]) r1.2) :=
  (evk_at (r := ((fget 5654 ((mk E c s (hh g))) 0).bind fun v1 =>
  if (2 : Nat) = 2 ∧ rcv ((mk E c s (hh g))) v1 9 = true then
  ((Call prog clsT X d 74 [(2, v1), (2, x3), (0, 7)] ((mk E c s (hh g)))).bind fun r2 => if r2.1.1 = 4 then none else
  Ev prog clsT X d mc107 44 [(2, 0), (0, x1), (0, x2), (2, x3), (0, x4)] (pushR r2.1 [(0, s2), (0, s1), (2, 55)]) r2.2) else none)) X [0, 3, 7, 9, 19, 24, 30, 39, 44, 45, 53] 6 rfl).trans (by simp (disch := decide) only [F5654_0, R27_9, bindI, Option.bind_some, if_true_, and_self, ite_true, true_and, true_or, or_true])
theorem r107_44 (d : Nat) (x1 x2 x3 x4 s1 s2 s3 : Int) : Ev prog clsT X d mc107 44 [(2, 0), (0, x1), (0, x2), (2, x3), (0, x4)] [(0, s3), (0, s2), (0, s1), (2, 55)] (mk E c s (hh g)) =
  ((Call prog clsT X d 2 [(2, 55), (0, s1), (0, s2), (0, s3)] ((mk E c s (hh g)))).bind fun r1 => if r1.1.1 = 4 then none else
  Ev prog clsT X d mc107 45 [(2, 0), (0, x1), (0, x2), (2, x3), (0, x4)] (pushR r1.1 []) r1.2) :=
  (evk_at (r := (if (2 : Nat) = 2 ∧ rcv ((mk E c s (hh g))) 55 1 = true then
  ((Call prog clsT X d 2 [(2, 55), (0, s1), (0, s2), (0, s3)] ((mk E c s (hh g)))).bind fun r1 => if r1.1.1 = 4 then none else
  Ev prog clsT X d mc107 45 [(2, 0), (0, x1), (0, x2), (2, x3), (0, x4)] (pushR r1.1 []) r1.2) else none)) X [0, 3, 7, 9, 19, 24, 30, 39, 44, 45, 53] 2 rfl).trans (by simp (disch := decide) only [R55_1, bindI, Option.bind_some, if_true_, and_self, ite_true, true_and, true_or, or_true])
theorem r107_45 (d : Nat) (x1 x2 x3 x4 : Int) : Ev prog clsT X d mc107 45 [(2, 0), (0, x1), (0, x2), (2, x3), (0, x4)] [] (mk E c s (hh g)) =
  (Ev prog clsT X d mc107 9 [(2, 0), (0, x1), (0, x2), (2, x3), (0, (w32 (x4 + 1)))] [] (mk E c s (hh g))) :=
  evk_at X [0, 3, 7, 9, 19, 24, 30, 39, 44, 45, 53] 4 rfl
theorem r107_53 (d : Nat) (x1 x2 x3 x4 : Int) : Ev prog clsT X d mc107 53 [(2, 0), (0, x1), (0, x2), (2, x3), (0, x4)] [] (mk E c s (hh g)) =
  (some ((3, 0), ((mk E c s (hh g))))) :=
  (evk_at (r := (some ((3, 0), (mk E c s (hh g))))) X [0, 3, 7, 9, 19, 24, 30, 39, 44, 45, 53] 2 rfl).trans (by simp (disch := decide) only [bindI, Option.bind_some, if_true_, and_self, ite_true, true_and, true_or, or_true])
theorem r108_0 (d : Nat) (x1 : Int) : Ev prog clsT X d mc108 0 [(2, 0), (0, x1), (3, 0), (3, 0)] [] (mk E c s (hh g)) =
  (if inb x1 40 = true then
  (if inb x1 40 = true then
  (if inb x1 40 = true then
  ((Call prog clsT X d 97 [(2, 0), (0, (g 31 (Int.toNat x1)))] ((mk E c s (hh g)))).bind fun r1 => if r1.1.1 = 4 then none else
  Ev prog clsT X d mc108 24 [(2, 0), (0, x1), (0, (g 31 (Int.toNat x1))), (0, (g 32 (Int.toNat x1)))] (pushR r1.1 [(1, (g 33 (Int.toNat x1))), (2, 1), (2, 27)]) r1.2)
else none)
else none)
else none) :=
  (evk_at (r := ((fget 5658 ((mk E c s (hh g))) 0).bind fun v1 =>
  (fget 1034 ((mk E c s (hh g))) v1).bind fun v2 =>
  (aget X 100 ((mk E c s (hh g))) v2 x1).bind fun v3 =>
  (fget 5658 ((mk E c s (hh g))) 0).bind fun v4 =>
  (fget 1038 ((mk E c s (hh g))) v4).bind fun v5 =>
  (aget X 100 ((mk E c s (hh g))) v5 x1).bind fun v6 =>
  (fget 5654 ((mk E c s (hh g))) 0).bind fun v7 =>
  (fget 5634 ((mk E c s (hh g))) 0).bind fun v8 =>
  (fget 5658 ((mk E c s (hh g))) 0).bind fun v9 =>
  (fget 1042 ((mk E c s (hh g))) v9).bind fun v10 =>
  (aget X 101 ((mk E c s (hh g))) v10 x1).bind fun v11 =>
  if (2 : Nat) = 2 ∧ rcv ((mk E c s (hh g))) 0 12 = true then
  ((Call prog clsT X d 97 [(2, 0), (0, v3)] ((mk E c s (hh g)))).bind fun r12 => if r12.1.1 = 4 then none else
  Ev prog clsT X d mc108 24 [(2, 0), (0, x1), (0, v3), (0, v6)] (pushR r12.1 [(1, v11), (2, v8), (2, v7)]) r12.2) else none)) X [0, 24, 25, 35, 36] 25 rfl).trans (by simp (disch := decide) only [A31, A32, A33, F1034_30, F1038_30, F1042_30, F5634_0, F5654_0, F5658_0, R0_12, bindI, Option.bind_some, if_true_, and_self, ite_true, true_and, true_or, or_true])
theorem rc108_ (d : Nat) (x1 : Int) : Call prog clsT X (d + 1) 108 [(2, 0), (0, x1)] (mk E c s (hh g)) =
  (if inb x1 40 = true then
  (if inb x1 40 = true then
  (if inb x1 40 = true then
  ((Call prog clsT X d 97 [(2, 0), (0, (g 31 (Int.toNat x1)))] ((mk E c s (hh g)))).bind fun r1 => if r1.1.1 = 4 then none else
  Ev prog clsT X d mc108 24 [(2, 0), (0, x1), (0, (g 31 (Int.toNat x1))), (0, (g 32 (Int.toNat x1)))] (pushR r1.1 [(1, (g 33 (Int.toNat x1))), (2, 1), (2, 27)]) r1.2)
else none)
else none)
else none) :=
  (show Call prog clsT X (d + 1) 108 [(2, 0), (0, x1)] (mk E c s (hh g)) = Ev prog clsT X d mc108 0 [(2, 0), (0, x1), (3, 0), (3, 0)] [] (mk E c s (hh g)) from rfl).trans (r108_0 X E c s g d x1 )
theorem r108_24 (d : Nat) (x1 x2 x3 s2 s3 : Int) : Ev prog clsT X d mc108 24 [(2, 0), (0, x1), (0, x2), (0, x3)] [(2, s3), (1, s2), (2, 1), (2, 27)] (mk E c s (hh g)) =
  ((Call prog clsT X d 76 [(2, 27), (2, 1), (1, s2), (2, s3)] ((mk E c s (hh g)))).bind fun r1 => if r1.1.1 = 4 then none else
  Ev prog clsT X d mc108 25 [(2, 0), (0, x1), (0, x2), (0, x3)] (pushR r1.1 []) r1.2) :=
  (evk_at (r := (if (2 : Nat) = 2 ∧ rcv ((mk E c s (hh g))) 27 9 = true then
  ((Call prog clsT X d 76 [(2, 27), (2, 1), (1, s2), (2, s3)] ((mk E c s (hh g)))).bind fun r1 => if r1.1.1 = 4 then none else
  Ev prog clsT X d mc108 25 [(2, 0), (0, x1), (0, x2), (0, x3)] (pushR r1.1 []) r1.2) else none)) X [0, 24, 25, 35, 36] 2 rfl).trans (by simp (disch := decide) only [R27_9, bindI, Option.bind_some, if_true_, and_self, ite_true, true_and, true_or, or_true])
theorem r108_25 (d : Nat) (x1 x2 x3 : Int) : Ev prog clsT X d mc108 25 [(2, 0), (0, x1), (0, x2), (0, x3)] [] (mk E c s (hh g)) =
  ((Call prog clsT X d 23 [(2, 30), (0, x3), (0, x2)] ((mk E c s (hh g)))).bind fun r1 => if r1.1.1 = 4 then none else
  Ev prog clsT X d mc108 35 [(2, 0), (0, x1), (0, x2), (0, x3)] (pushR r1.1 [(0, x3), (2, 1), (2, 27)]) r1.2) :=
  (evk_at (r := ((fget 5654 ((mk E c s (hh g))) 0).bind fun v1 =>
  (fget 5634 ((mk E c s (hh g))) 0).bind fun v2 =>
  (fget 5658 ((mk E c s (hh g))) 0).bind fun v3 =>
  if (2 : Nat) = 2 ∧ rcv ((mk E c s (hh g))) v3 3 = true then
  ((Call prog clsT X d 23 [(2, v3), (0, x3), (0, x2)] ((mk E c s (hh g)))).bind fun r4 => if r4.1.1 = 4 then none else
  Ev prog clsT X d mc108 35 [(2, 0), (0, x1), (0, x2), (0, x3)] (pushR r4.1 [(0, x3), (2, v2), (2, v1)]) r4.2) else none)) X [0, 24, 25, 35, 36] 11 rfl).trans (by simp (disch := decide) only [F5634_0, F5654_0, F5658_0, R30_3, bindI, Option.bind_some, if_true_, and_self, ite_true, true_and, true_or, or_true])
theorem r108_35 (d : Nat) (x1 x2 x3 s2 s3 : Int) : Ev prog clsT X d mc108 35 [(2, 0), (0, x1), (0, x2), (0, x3)] [(0, s3), (0, s2), (2, 1), (2, 27)] (mk E c s (hh g)) =
  ((Call prog clsT X d 77 [(2, 27), (2, 1), (0, s2), (0, s3)] ((mk E c s (hh g)))).bind fun r1 => if r1.1.1 = 4 then none else
  Ev prog clsT X d mc108 36 [(2, 0), (0, x1), (0, x2), (0, x3)] (pushR r1.1 []) r1.2) :=
  (evk_at (r := (if (2 : Nat) = 2 ∧ rcv ((mk E c s (hh g))) 27 9 = true then
  ((Call prog clsT X d 77 [(2, 27), (2, 1), (0, s2), (0, s3)] ((mk E c s (hh g)))).bind fun r1 => if r1.1.1 = 4 then none else
  Ev prog clsT X d mc108 36 [(2, 0), (0, x1), (0, x2), (0, x3)] (pushR r1.1 []) r1.2) else none)) X [0, 24, 25, 35, 36] 2 rfl).trans (by simp (disch := decide) only [R27_9, bindI, Option.bind_some, if_true_, and_self, ite_true, true_and, true_or, or_true])
theorem r108_36 (d : Nat) (x1 x2 x3 : Int) : Ev prog clsT X d mc108 36 [(2, 0), (0, x1), (0, x2), (0, x3)] [] (mk E c s (hh g)) =
  (some ((3, 0), ((mk E c s (hh g))))) :=
  (evk_at (r := (some ((3, 0), (mk E c s (hh g))))) X [0, 24, 25, 35, 36] 2 rfl).trans (by simp (disch := decide) only [bindI, Option.bind_some, if_true_, and_self, ite_true, true_and, true_or, or_true])
theorem r109_0 (d : Nat) (x1 x2 : Int) : Ev prog clsT X d mc109 0 [(2, 0), (0, x1), (2, x2)] [] (mk E c s (hh g)) =
  ((Call prog clsT X d 74 [(2, 27), (2, x2), (0, 6)] ((mk E c s (hh g)))).bind fun r1 => if r1.1.1 = 4 then none else
  Ev prog clsT X d mc109 5 [(2, 0), (0, x1), (2, x2)] (pushR r1.1 []) r1.2) :=
  (evk_at (r := ((fget 5654 ((mk E c s (hh g))) 0).bind fun v1 =>
  if (2 : Nat) = 2 ∧ rcv ((mk E c s (hh g))) v1 9 = true then
  ((Call prog clsT X d 74 [(2, v1), (2, x2), (0, 6)] ((mk E c s (hh g)))).bind fun r2 => if r2.1.1 = 4 then none else
  Ev prog clsT X d mc109 5 [(2, 0), (0, x1), (2, x2)] (pushR r2.1 []) r2.2) else none)) X [0, 5] 6 rfl).trans (by simp (disch := decide) only [F5654_0, R27_9, bindI, Option.bind_some, if_true_, and_self, ite_true, true_and, true_or, or_true])
theorem rc109_ (d : Nat) (x1 x2 : Int) : Call prog clsT X (d + 1) 109 [(2, 0), (0, x1), (2, x2)] (mk E c s (hh g)) =
  ((Call prog clsT X d 74 [(2, 27), (2, x2), (0, 6)] ((mk E c s (hh g)))).bind fun r1 => if r1.1.1 = 4 then none else
  Ev prog clsT X d mc109 5 [(2, 0), (0, x1), (2, x2)] (pushR r1.1 []) r1.2) :=
  (show Call prog clsT X (d + 1) 109 [(2, 0), (0, x1), (2, x2)] (mk E c s (hh g)) = Ev prog clsT X d mc109 0 [(2, 0), (0, x1), (2, x2)] [] (mk E c s (hh g)) from rfl).trans (r109_0 X E c s g d x1 x2 )
theorem r109_5 (d : Nat) (x1 x2 s0 : Int) : Ev prog clsT X d mc109 5 [(2, 0), (0, x1), (2, x2)] [(0, s0)] (mk E c s (hh g)) =
  (if inb ((w32 (((w32 (x1 * 6))) + ((g 28 8))))) 24 = true then
  (some ((0, (w32 (s0 + ((g 38 (Int.toNat ((w32 (((w32 (x1 * 6))) + ((g 28 8))))))))))), ((mk E c s (hh g)))))
else none) :=
  (evk_at (r := ((fget 5662 ((mk E c s (hh g))) 0).bind fun v1 =>
  (fget 2054 ((mk E c s (hh g))) v1).bind fun v2 =>
  (fget 5654 ((mk E c s (hh g))) 0).bind fun v3 =>
  (fget 4098 ((mk E c s (hh g))) v3).bind fun v4 =>
  (aget X 100 ((mk E c s (hh g))) v4 8).bind fun v5 =>
  (aget X 100 ((mk E c s (hh g))) v2 ((w32 (((w32 (x1 * 6))) + v5)))).bind fun v6 =>
  some ((0, (w32 (s0 + v6))), (mk E c s (hh g))))) X [0, 5] 16 rfl).trans (by simp (disch := decide) only [A28, A38, F2054_36, F4098_27, F5654_0, F5662_0, inbL 8 11 rfl, tn8, bindI, Option.bind_some, if_true_, and_self, ite_true, true_and, true_or, or_true])
theorem r110_0 (d : Nat) (x1 x2 : Int) : Ev prog clsT X d mc110 0 [(2, 0), (0, x1), (0, x2)] [] (mk E c s (hh g)) =
  ((Call prog clsT X d 97 [(2, 0), (0, x1)] ((mk E c s (hh g)))).bind fun r1 => if r1.1.1 = 4 then none else
  Ev prog clsT X d mc110 3 [(2, 0), (0, x1), (0, x2)] (pushR r1.1 []) r1.2) :=
  (evk_at (r := (if (2 : Nat) = 2 ∧ rcv ((mk E c s (hh g))) 0 12 = true then
  ((Call prog clsT X d 97 [(2, 0), (0, x1)] ((mk E c s (hh g)))).bind fun r1 => if r1.1.1 = 4 then none else
  Ev prog clsT X d mc110 3 [(2, 0), (0, x1), (0, x2)] (pushR r1.1 []) r1.2) else none)) X [0, 3, 13, 18] 4 rfl).trans (by simp (disch := decide) only [R0_12, bindI, Option.bind_some, if_true_, and_self, ite_true, true_and, true_or, or_true])
theorem rc110_ (d : Nat) (x1 x2 : Int) : Call prog clsT X (d + 1) 110 [(2, 0), (0, x1), (0, x2)] (mk E c s (hh g)) =
  ((Call prog clsT X d 97 [(2, 0), (0, x1)] ((mk E c s (hh g)))).bind fun r1 => if r1.1.1 = 4 then none else
  Ev prog clsT X d mc110 3 [(2, 0), (0, x1), (0, x2)] (pushR r1.1 []) r1.2) :=
  (show Call prog clsT X (d + 1) 110 [(2, 0), (0, x1), (0, x2)] (mk E c s (hh g)) = Ev prog clsT X d mc110 0 [(2, 0), (0, x1), (0, x2)] [] (mk E c s (hh g)) from rfl).trans (r110_0 X E c s g d x1 x2 )
theorem r110_13 (d : Nat) (x1 x2 s0 : Int) : Ev prog clsT X d mc110 13 [(2, 0), (0, x1), (0, x2)] [(0, s0)] (mk E c s (hh g)) =
  (if cmpI .eq s0 0 = true then
  (some ((0, 0), ((mk E c s (hh g)))))
else
  ((Call prog clsT X d 104 [(2, 0), (0, x2), (0, x1)] ((mk E c s (hh g)))).bind fun r1 => if r1.1.1 = 4 then none else
    Ev prog clsT X d mc110 18 [(2, 0), (0, x1), (0, x2)] (pushR r1.1 []) r1.2)) :=
  (evk_at (r := (if cmpI .eq s0 0 = true then
  (some ((0, 0), (mk E c s (hh g))))
else
  (if (2 : Nat) = 2 ∧ rcv ((mk E c s (hh g))) 0 12 = true then
    ((Call prog clsT X d 104 [(2, 0), (0, x2), (0, x1)] ((mk E c s (hh g)))).bind fun r1 => if r1.1.1 = 4 then none else
    Ev prog clsT X d mc110 18 [(2, 0), (0, x1), (0, x2)] (pushR r1.1 []) r1.2) else none))) X [0, 3, 13, 18] 6 rfl).trans (by simp (disch := decide) only [R0_12, bindI, Option.bind_some, if_true_, and_self, ite_true, true_and, true_or, or_true])
theorem r111_0 (d : Nat) (x1 x2 : Int) : Ev prog clsT X d mc111 0 [(2, 0), (0, x1), (0, x2), (3, 0), (3, 0), (3, 0)] [] (mk E c s (hh g)) =
  ((Call prog clsT X d 19 [(2, 30), (0, x1)] ((mk E c s (hh g)))).bind fun r1 => if r1.1.1 = 4 then none else
  Ev prog clsT X d mc111 4 [(2, 0), (0, x1), (0, x2), (3, 0), (3, 0), (3, 0)] (pushR r1.1 []) r1.2) :=
  (evk_at (r := ((fget 5658 ((mk E c s (hh g))) 0).bind fun v1 =>
  if (2 : Nat) = 2 ∧ rcv ((mk E c s (hh g))) v1 3 = true then
  ((Call prog clsT X d 19 [(2, v1), (0, x1)] ((mk E c s (hh g)))).bind fun r2 => if r2.1.1 = 4 then none else
  Ev prog clsT X d mc111 4 [(2, 0), (0, x1), (0, x2), (3, 0), (3, 0), (3, 0)] (pushR r2.1 []) r2.2) else none)) X [0, 4, 9, 16, 23, 32, 38] 5 rfl).trans (by simp (disch := decide) only [F5658_0, R30_3, bindI, Option.bind_some, if_true_, and_self, ite_true, true_and, true_or, or_true])
theorem rc111_ (d : Nat) (x1 x2 : Int) : Call prog clsT X (d + 1) 111 [(2, 0), (0, x1), (0, x2)] (mk E c s (hh g)) =
  ((Call prog clsT X d 19 [(2, 30), (0, x1)] ((mk E c s (hh g)))).bind fun r1 => if r1.1.1 = 4 then none else
  Ev prog clsT X d mc111 4 [(2, 0), (0, x1), (0, x2), (3, 0), (3, 0), (3, 0)] (pushR r1.1 []) r1.2) :=
  (show Call prog clsT X (d + 1) 111 [(2, 0), (0, x1), (0, x2)] (mk E c s (hh g)) = Ev prog clsT X d mc111 0 [(2, 0), (0, x1), (0, x2), (3, 0), (3, 0), (3, 0)] [] (mk E c s (hh g)) from rfl).trans (r111_0 X E c s g d x1 x2 )
theorem r111_4 (d : Nat) (x1 x2 s0 : Int) : Ev prog clsT X d mc111 4 [(2, 0), (0, x1), (0, x2), (3, 0), (3, 0), (3, 0)] [(0, s0)] (mk E c s (hh g)) =
  (if cmpI .eq s0 0 = true then
  (some ((0, (-1)), ((mk E c s (hh g)))))
else
  ((Call prog clsT X d 90 [(0, x2), (0, 0), (0, 1)] ((mk E c s (hh g)))).bind fun r1 => if r1.1.1 = 4 then none else
    Ev prog clsT X d mc111 9 [(2, 0), (0, x1), (0, x2), (3, 0), (3, 0), (3, 0)] (pushR r1.1 []) r1.2)) :=
  (evk_at (r := (if cmpI .eq s0 0 = true then
  (some ((0, (-1)), (mk E c s (hh g))))
else
  ((Call prog clsT X d 90 [(0, x2), (0, 0), (0, 1)] ((mk E c s (hh g)))).bind fun r1 => if r1.1.1 = 4 then none else
    Ev prog clsT X d mc111 9 [(2, 0), (0, x1), (0, x2), (3, 0), (3, 0), (3, 0)] (pushR r1.1 []) r1.2))) X [0, 4, 9, 16, 23, 32, 38] 6 rfl).trans (by simp (disch := decide) only [bindI, Option.bind_some, if_true_, and_self, ite_true, true_and, true_or, or_true])
theorem r111_9 (d : Nat) (x1 x2 s0 : Int) : Ev prog clsT X d mc111 9 [(2, 0), (0, x1), (0, x2), (3, 0), (3, 0), (3, 0)] [(0, s0)] (mk E c s (hh g)) =
  (if cmpI .ne s0 0 = true then
  (Ev prog clsT X d mc111 16 [(2, 0), (0, x1), (0, x2), (0, (-1)), (0, 0), (3, 0)] [] (mk E c s (hh g)))
else
  (some ((0, (-1)), ((mk E c s (hh g)))))) :=
  (evk_at (r := (if cmpI .ne s0 0 = true then
  (Ev prog clsT X d mc111 16 [(2, 0), (0, x1), (0, x2), (0, (-1)), (0, 0), (3, 0)] [] (mk E c s (hh g)))
else
  (some ((0, (-1)), (mk E c s (hh g)))))) X [0, 4, 9, 16, 23, 32, 38] 7 rfl).trans (by simp (disch := decide) only [bindI, Option.bind_some, if_true_, and_self, ite_true, true_and, true_or, or_true])
theorem r111_16 (d : Nat) (x1 x2 x3 x4 : Int) (w5 : MV) : Ev prog clsT X d mc111 16 [(2, 0), (0, x1), (0, x2), (0, x3), (0, x4), w5] [] (mk E c s (hh g)) =
  (if cmpI .ge x4 4 = true then
  (some ((0, x3), ((mk E c s (hh g)))))
else
  ((Call prog clsT X d 34 [(2, 36), (0, x4)] ((mk E c s (hh g)))).bind fun r1 => if r1.1.1 = 4 then none else
    Ev prog clsT X d mc111 23 [(2, 0), (0, x1), (0, x2), (0, x3), (0, x4), (3, 0)] (pushR r1.1 []) r1.2)) :=
  (evk_at (r := (if cmpI .ge x4 4 = true then
  (some ((0, x3), (mk E c s (hh g))))
else
  ((fget 5662 ((mk E c s (hh g))) 0).bind fun v1 =>
    if (2 : Nat) = 2 ∧ rcv ((mk E c s (hh g))) v1 5 = true then
    ((Call prog clsT X d 34 [(2, v1), (0, x4)] ((mk E c s (hh g)))).bind fun r2 => if r2.1.1 = 4 then none else
    Ev prog clsT X d mc111 23 [(2, 0), (0, x1), (0, x2), (0, x3), (0, x4), (3, 0)] (pushR r2.1 []) r2.2) else none))) X [0, 4, 9, 16, 23, 32, 38] 8 rfl).trans (by simp (disch := decide) only [F5662_0, R36_5, bindI, Option.bind_some, if_true_, and_self, ite_true, true_and, true_or, or_true])
theorem r111_23 (d : Nat) (x1 x2 x3 x4 s0 : Int) : Ev prog clsT X d mc111 23 [(2, 0), (0, x1), (0, x2), (0, x3), (0, x4), (3, 0)] [(0, s0)] (mk E c s (hh g)) =
  (if cmpI .eq s0 0 = true then
  (Ev prog clsT X d mc111 16 [(2, 0), (0, x1), (0, x2), (0, x3), (0, (w32 (x4 + 1))), (3, 0)] [] (mk E c s (hh g)))
else
  (if inb x1 40 = true then
    ((Call prog clsT X d 104 [(2, 0), (0, x4), (0, (g 31 (Int.toNat x1)))] ((mk E c s (hh g)))).bind fun r1 => if r1.1.1 = 4 then none else
    Ev prog clsT X d mc111 32 [(2, 0), (0, x1), (0, x2), (0, x3), (0, x4), (3, 0)] (pushR r1.1 []) r1.2)
  else none)) :=
  (evk_at (r := (if cmpI .eq s0 0 = true then
  (Ev prog clsT X d mc111 16 [(2, 0), (0, x1), (0, x2), (0, x3), (0, (w32 (x4 + 1))), (3, 0)] [] (mk E c s (hh g)))
else
  ((fget 5658 ((mk E c s (hh g))) 0).bind fun v1 =>
    (fget 1034 ((mk E c s (hh g))) v1).bind fun v2 =>
    (aget X 100 ((mk E c s (hh g))) v2 x1).bind fun v3 =>
    if (2 : Nat) = 2 ∧ rcv ((mk E c s (hh g))) 0 12 = true then
    ((Call prog clsT X d 104 [(2, 0), (0, x4), (0, v3)] ((mk E c s (hh g)))).bind fun r4 => if r4.1.1 = 4 then none else
    Ev prog clsT X d mc111 32 [(2, 0), (0, x1), (0, x2), (0, x3), (0, x4), (3, 0)] (pushR r4.1 []) r4.2) else none))) X [0, 4, 9, 16, 23, 32, 38] 10 rfl).trans (by simp (disch := decide) only [A31, F1034_30, F5658_0, R0_12, bindI, Option.bind_some, if_true_, and_self, ite_true, true_and, true_or, or_true])
theorem r111_32 (d : Nat) (x1 x2 x3 x4 s0 : Int) : Ev prog clsT X d mc111 32 [(2, 0), (0, x1), (0, x2), (0, x3), (0, x4), (3, 0)] [(0, s0)] (mk E c s (hh g)) =
  (if cmpI .eq s0 0 = true then
  ((Call prog clsT X d 106 [(2, 0), (0, x1), (0, x4)] ((mk E c s (hh g)))).bind fun r1 => if r1.1.1 = 4 then none else
    Ev prog clsT X d mc111 38 [(2, 0), (0, x1), (0, x2), (0, x3), (0, x4), (3, 0)] (pushR r1.1 []) r1.2)
else
  (Ev prog clsT X d mc111 16 [(2, 0), (0, x1), (0, x2), (0, x3), (0, (w32 (x4 + 1))), (3, 0)] [] (mk E c s (hh g)))) :=
  (evk_at (r := (if cmpI .eq s0 0 = true then
  (if (2 : Nat) = 2 ∧ rcv ((mk E c s (hh g))) 0 12 = true then
    ((Call prog clsT X d 106 [(2, 0), (0, x1), (0, x4)] ((mk E c s (hh g)))).bind fun r1 => if r1.1.1 = 4 then none else
    Ev prog clsT X d mc111 38 [(2, 0), (0, x1), (0, x2), (0, x3), (0, x4), (3, 0)] (pushR r1.1 []) r1.2) else none)
else
  (Ev prog clsT X d mc111 16 [(2, 0), (0, x1), (0, x2), (0, x3), (0, (w32 (x4 + 1))), (3, 0)] [] (mk E c s (hh g))))) X [0, 4, 9, 16, 23, 32, 38] 6 rfl).trans (by simp (disch := decide) only [R0_12, bindI, Option.bind_some, if_true_, and_self, ite_true, true_and, true_or, or_true])
theorem r111_38 (d : Nat) (x1 x2 x3 x4 s0 : Int) : Ev prog clsT X d mc111 38 [(2, 0), (0, x1), (0, x2), (0, x3), (0, x4), (3, 0)] [(0, s0)] (mk E c s (hh g)) =
  (if cmpI .eq x3 ((-1)) = true then
  (Ev prog clsT X d mc111 16 [(2, 0), (0, x1), (0, x2), (0, s0), (0, (w32 (x4 + 1))), (0, s0)] [] (mk E c s (hh g)))
else
  (if cmpI .ne x2 0 = true then
    (if cmpI .le s0 x3 = true then
      (Ev prog clsT X d mc111 16 [(2, 0), (0, x1), (0, x2), (0, x3), (0, (w32 (x4 + 1))), (0, s0)] [] (mk E c s (hh g)))
    else
      (Ev prog clsT X d mc111 16 [(2, 0), (0, x1), (0, x2), (0, s0), (0, (w32 (x4 + 1))), (0, s0)] [] (mk E c s (hh g))))
  else
    (if cmpI .ge s0 x3 = true then
      (Ev prog clsT X d mc111 16 [(2, 0), (0, x1), (0, x2), (0, x3), (0, (w32 (x4 + 1))), (0, s0)] [] (mk E c s (hh g)))
    else
      (Ev prog clsT X d mc111 16 [(2, 0), (0, x1), (0, x2), (0, s0), (0, (w32 (x4 + 1))), (0, s0)] [] (mk E c s (hh g)))))) :=
  evk_at X [0, 4, 9, 16, 23, 32, 38] 16 rfl
theorem r112_0 (d : Nat) (x1 x2 : Int) : Ev prog clsT X d mc112 0 [(2, 0), (0, x1), (0, x2)] [] (mk E c s (hh g)) =
  ((Call prog clsT X d 90 [(0, x1), (0, 0), (0, 2)] ((mk E c s (hh g)))).bind fun r1 => if r1.1.1 = 4 then none else
  Ev prog clsT X d mc112 4 [(2, 0), (0, x1), (0, x2)] (pushR r1.1 []) r1.2) :=
  evk_at X [0, 4, 9] 5 rfl
theorem rc112_ (d : Nat) (x1 x2 : Int) : Call prog clsT X (d + 1) 112 [(2, 0), (0, x1), (0, x2)] (mk E c s (hh g)) =
  ((Call prog clsT X d 90 [(0, x1), (0, 0), (0, 2)] ((mk E c s (hh g)))).bind fun r1 => if r1.1.1 = 4 then none else
  Ev prog clsT X d mc112 4 [(2, 0), (0, x1), (0, x2)] (pushR r1.1 []) r1.2) :=
  (show Call prog clsT X (d + 1) 112 [(2, 0), (0, x1), (0, x2)] (mk E c s (hh g)) = Ev prog clsT X d mc112 0 [(2, 0), (0, x1), (0, x2)] [] (mk E c s (hh g)) from rfl).trans (r112_0 X E c s g d x1 x2 )
theorem r112_4 (d : Nat) (x1 x2 s0 : Int) : Ev prog clsT X d mc112 4 [(2, 0), (0, x1), (0, x2)] [(0, s0)] (mk E c s (hh g)) =
  (if cmpI .eq s0 0 = true then
  (some ((0, 0), ((mk E c s (hh g)))))
else
  ((Call prog clsT X d 90 [(0, x2), (0, 0), (0, 99)] ((mk E c s (hh g)))).bind fun r1 => if r1.1.1 = 4 then none else
    Ev prog clsT X d mc112 9 [(2, 0), (0, x1), (0, x2)] (pushR r1.1 []) r1.2)) :=
  (evk_at (r := (if cmpI .eq s0 0 = true then
  (some ((0, 0), (mk E c s (hh g))))
else
  ((Call prog clsT X d 90 [(0, x2), (0, 0), (0, 99)] ((mk E c s (hh g)))).bind fun r1 => if r1.1.1 = 4 then none else
    Ev prog clsT X d mc112 9 [(2, 0), (0, x1), (0, x2)] (pushR r1.1 []) r1.2))) X [0, 4, 9] 6 rfl).trans (by simp (disch := decide) only [bindI, Option.bind_some, if_true_, and_self, ite_true, true_and, true_or, or_true])
theorem r113_0 (d : Nat) (x1 x2 x3 : Int) : Ev prog clsT X d mc113 0 [(2, 0), (0, x1), (0, x2), (0, x3)] [] (mk E c s (hh g)) =
  ((Call prog clsT X d 97 [(2, 0), (0, x1)] ((mk E c s (hh g)))).bind fun r1 => if r1.1.1 = 4 then none else
  Ev prog clsT X d mc113 3 [(2, 0), (0, x1), (0, x2), (0, x3)] (pushR r1.1 []) r1.2) :=
  (evk_at (r := (if (2 : Nat) = 2 ∧ rcv ((mk E c s (hh g))) 0 12 = true then
  ((Call prog clsT X d 97 [(2, 0), (0, x1)] ((mk E c s (hh g)))).bind fun r1 => if r1.1.1 = 4 then none else
  Ev prog clsT X d mc113 3 [(2, 0), (0, x1), (0, x2), (0, x3)] (pushR r1.1 []) r1.2) else none)) X [0, 3, 8, 13] 4 rfl).trans (by simp (disch := decide) only [R0_12, bindI, Option.bind_some, if_true_, and_self, ite_true, true_and, true_or, or_true])
theorem rc113_ (d : Nat) (x1 x2 x3 : Int) : Call prog clsT X (d + 1) 113 [(2, 0), (0, x1), (0, x2), (0, x3)] (mk E c s (hh g)) =
  ((Call prog clsT X d 97 [(2, 0), (0, x1)] ((mk E c s (hh g)))).bind fun r1 => if r1.1.1 = 4 then none else
  Ev prog clsT X d mc113 3 [(2, 0), (0, x1), (0, x2), (0, x3)] (pushR r1.1 []) r1.2) :=
  (show Call prog clsT X (d + 1) 113 [(2, 0), (0, x1), (0, x2), (0, x3)] (mk E c s (hh g)) = Ev prog clsT X d mc113 0 [(2, 0), (0, x1), (0, x2), (0, x3)] [] (mk E c s (hh g)) from rfl).trans (r113_0 X E c s g d x1 x2 x3 )
theorem r113_3 (d : Nat) (x1 x2 x3 s0 : Int) : Ev prog clsT X d mc113 3 [(2, 0), (0, x1), (0, x2), (0, x3)] [(2, s0)] (mk E c s (hh g)) =
  (if (2 : Nat) = 2 ∧ s0 ≠ -5 then (if (decide (s0 = -1)) = true then
  (some ((0, 0), ((mk E c s (hh g)))))
else
  ((Call prog clsT X d 90 [(0, x2), (0, 0), (0, 2)] ((mk E c s (hh g)))).bind fun r1 => if r1.1.1 = 4 then none else
    Ev prog clsT X d mc113 8 [(2, 0), (0, x1), (0, x2), (0, x3)] (pushR r1.1 []) r1.2)) else none) :=
  (evk_at (r := (if (2 : Nat) = 2 ∧ s0 ≠ -5 then (if (decide (s0 = -1)) = true then
  (some ((0, 0), (mk E c s (hh g))))
else
  ((Call prog clsT X d 90 [(0, x2), (0, 0), (0, 2)] ((mk E c s (hh g)))).bind fun r1 => if r1.1.1 = 4 then none else
    Ev prog clsT X d mc113 8 [(2, 0), (0, x1), (0, x2), (0, x3)] (pushR r1.1 []) r1.2)) else none)) X [0, 3, 8, 13] 6 rfl).trans (by simp (disch := decide) only [bindI, Option.bind_some, if_true_, and_self, ite_true, true_and, true_or, or_true])
theorem r113_8 (d : Nat) (x1 x2 x3 s0 : Int) : Ev prog clsT X d mc113 8 [(2, 0), (0, x1), (0, x2), (0, x3)] [(0, s0)] (mk E c s (hh g)) =
  (if cmpI .eq s0 0 = true then
  (some ((0, 0), ((mk E c s (hh g)))))
else
  ((Call prog clsT X d 90 [(0, x3), (0, 0), (0, 9)] ((mk E c s (hh g)))).bind fun r1 => if r1.1.1 = 4 then none else
    Ev prog clsT X d mc113 13 [(2, 0), (0, x1), (0, x2), (0, x3)] (pushR r1.1 []) r1.2)) :=
  (evk_at (r := (if cmpI .eq s0 0 = true then
  (some ((0, 0), (mk E c s (hh g))))
else
  ((Call prog clsT X d 90 [(0, x3), (0, 0), (0, 9)] ((mk E c s (hh g)))).bind fun r1 => if r1.1.1 = 4 then none else
    Ev prog clsT X d mc113 13 [(2, 0), (0, x1), (0, x2), (0, x3)] (pushR r1.1 []) r1.2))) X [0, 3, 8, 13] 6 rfl).trans (by simp (disch := decide) only [bindI, Option.bind_some, if_true_, and_self, ite_true, true_and, true_or, or_true])
theorem r114_0 (d : Nat) (x1 x2 : Int) : Ev prog clsT X d mc114 0 [(2, 0), (0, x1), (0, x2), (3, 0), (3, 0)] [] (mk E c s (hh g)) =
  ((Call prog clsT X d 90 [(0, x1), (0, 0), (0, 2)] ((mk E c s (hh g)))).bind fun r1 => if r1.1.1 = 4 then none else
  Ev prog clsT X d mc114 4 [(2, 0), (0, x1), (0, x2), (3, 0), (3, 0)] (pushR r1.1 []) r1.2) :=
  evk_at X [0, 4, 10, 14] 5 rfl
theorem rc114_ (d : Nat) (x1 x2 : Int) : Call prog clsT X (d + 1) 114 [(2, 0), (0, x1), (0, x2)] (mk E c s (hh g)) =
  ((Call prog clsT X d 90 [(0, x1), (0, 0), (0, 2)] ((mk E c s (hh g)))).bind fun r1 => if r1.1.1 = 4 then none else
  Ev prog clsT X d mc114 4 [(2, 0), (0, x1), (0, x2), (3, 0), (3, 0)] (pushR r1.1 []) r1.2) :=
  (show Call prog clsT X (d + 1) 114 [(2, 0), (0, x1), (0, x2)] (mk E c s (hh g)) = Ev prog clsT X d mc114 0 [(2, 0), (0, x1), (0, x2), (3, 0), (3, 0)] [] (mk E c s (hh g)) from rfl).trans (r114_0 X E c s g d x1 x2 )
theorem r114_4 (d : Nat) (x1 x2 s0 : Int) : Ev prog clsT X d mc114 4 [(2, 0), (0, x1), (0, x2), (3, 0), (3, 0)] [(0, s0)] (mk E c s (hh g)) =
  (if cmpI .ne s0 0 = true then
  ((Call prog clsT X d 115 [(2, 0), (0, x2)] ((mk E c s (hh g)))).bind fun r1 => if r1.1.1 = 4 then none else
    Ev prog clsT X d mc114 10 [(2, 0), (0, x1), (0, x2), (3, 0), (3, 0)] (pushR r1.1 []) r1.2)
else
  (some ((0, (-1)), ((mk E c s (hh g)))))) :=
  (evk_at (r := (if cmpI .ne s0 0 = true then
  (if (2 : Nat) = 2 ∧ rcv ((mk E c s (hh g))) 0 12 = true then
    ((Call prog clsT X d 115 [(2, 0), (0, x2)] ((mk E c s (hh g)))).bind fun r1 => if r1.1.1 = 4 then none else
    Ev prog clsT X d mc114 10 [(2, 0), (0, x1), (0, x2), (3, 0), (3, 0)] (pushR r1.1 []) r1.2) else none)
else
  (some ((0, (-1)), (mk E c s (hh g)))))) X [0, 4, 10, 14] 5 rfl).trans (by simp (disch := decide) only [R0_12, bindI, Option.bind_some, if_true_, and_self, ite_true, true_and, true_or, or_true])
theorem r114_10 (d : Nat) (x1 x2 : Int) : Ev prog clsT X d mc114 10 [(2, 0), (0, x1), (0, x2), (3, 0), (3, 0)] [] (mk E c s (hh g)) =
  (Ev prog clsT X d mc114 14 [(2, 0), (0, x1), (0, x2), (0, 0), (0, 0)] [] (mk E c s (hh g))) :=
  evk_at X [0, 4, 10, 14] 6 rfl
theorem r114_14 (d : Nat) (x1 x3 x4 : Int) (w2 : MV) : Ev prog clsT X d mc114 14 [(2, 0), (0, x1), w2, (0, x3), (0, x4)] [] (mk E c s (hh g)) =
  (if cmpI .ge x4 10 = true then
  (some ((0, x3), ((mk E c s (hh g)))))
else
  (if inb x4 10 = true then
    (if cmpI .ne ((g 42 (Int.toNat x4))) x1 = true then
    (Ev prog clsT X d mc114 14 [(2, 0), (0, x1), (3, 0), (0, x3), (0, (w32 (x4 + 1)))] [] (mk E c s (hh g)))
  else
    (if inb x4 10 = true then
      (if cmpI .le ((g 45 (Int.toNat x4))) 0 = true then
      (Ev prog clsT X d mc114 14 [(2, 0), (0, x1), (3, 0), (0, x3), (0, (w32 (x4 + 1)))] [] (mk E c s (hh g)))
    else
      (if inb x4 10 = true then
        (Ev prog clsT X d mc114 14 [(2, 0), (0, x1), (3, 0), (0, (w32 (x3 + ((g 45 (Int.toNat x4)))))), (0, (w32 (x4 + 1)))] [] (mk E c s (hh g)))
      else none))
    else none))
  else none)) :=
  (evk_at (r := (if cmpI .ge x4 10 = true then
  (some ((0, x3), (mk E c s (hh g))))
else
  ((fget 5666 ((mk E c s (hh g))) 0).bind fun v1 =>
    (fget 1542 ((mk E c s (hh g))) v1).bind fun v2 =>
    (aget X 100 ((mk E c s (hh g))) v2 x4).bind fun v3 =>
    if cmpI .ne v3 x1 = true then
    (Ev prog clsT X d mc114 14 [(2, 0), (0, x1), (3, 0), (0, x3), (0, (w32 (x4 + 1)))] [] (mk E c s (hh g)))
  else
    ((fget 5666 ((mk E c s (hh g))) 0).bind fun v4 =>
      (fget 1554 ((mk E c s (hh g))) v4).bind fun v5 =>
      (aget X 100 ((mk E c s (hh g))) v5 x4).bind fun v6 =>
      if cmpI .le v6 0 = true then
      (Ev prog clsT X d mc114 14 [(2, 0), (0, x1), (3, 0), (0, x3), (0, (w32 (x4 + 1)))] [] (mk E c s (hh g)))
    else
      ((fget 5666 ((mk E c s (hh g))) 0).bind fun v7 =>
        (fget 1554 ((mk E c s (hh g))) v7).bind fun v8 =>
        (aget X 100 ((mk E c s (hh g))) v8 x4).bind fun v9 =>
        Ev prog clsT X d mc114 14 [(2, 0), (0, x1), (3, 0), (0, (w32 (x3 + v9))), (0, (w32 (x4 + 1)))] [] (mk E c s (hh g))))))) X [0, 4, 10, 14] 28 rfl).trans (by simp (disch := decide) only [A42, A45, F1542_40, F1554_40, F5666_0, bindI, Option.bind_some, if_true_, and_self, ite_true, true_and, true_or, or_true])
theorem r115_0 (d : Nat) (x1 : Int) : Ev prog clsT X d mc115 0 [(2, 0), (0, x1), (3, 0), (3, 0)] [] (mk E c s (hh g)) =
  (Ev prog clsT X d mc115 2 [(2, 0), (0, x1), (0, 0), (3, 0)] [] (mk E c s (hh g))) :=
  evk_at X [0, 2, 11, 16, 24] 4 rfl
theorem rc115_ (d : Nat) (x1 : Int) : Call prog clsT X (d + 1) 115 [(2, 0), (0, x1)] (mk E c s (hh g)) =
  (Ev prog clsT X d mc115 2 [(2, 0), (0, x1), (0, 0), (3, 0)] [] (mk E c s (hh g))) :=
  (show Call prog clsT X (d + 1) 115 [(2, 0), (0, x1)] (mk E c s (hh g)) = Ev prog clsT X d mc115 0 [(2, 0), (0, x1), (3, 0), (3, 0)] [] (mk E c s (hh g)) from rfl).trans (r115_0 X E c s g d x1 )
theorem r115_2 (d : Nat) (x1 x2 : Int) (w3 : MV) : Ev prog clsT X d mc115 2 [(2, 0), (0, x1), (0, x2), w3] [] (mk E c s (hh g)) =
  (if cmpI .ge x2 10 = true then
  (some ((3, 0), ((mk E c s (hh g)))))
else
  (if cmpI .eq x1 0 = true then
    ((Call prog clsT X d 24 [(2, 30), (0, x2)] ((mk E c s (hh g)))).bind fun r1 => if r1.1.1 = 4 then none else
      Ev prog clsT X d mc115 16 [(2, 0), (0, x1), (0, x2), (3, 0)] (pushR r1.1 []) r1.2)
  else
    ((Call prog clsT X d 27 [(2, 40), (0, x2)] ((mk E c s (hh g)))).bind fun r2 => if r2.1.1 = 4 then none else
      Ev prog clsT X d mc115 11 [(2, 0), (0, x1), (0, x2), (3, 0)] (pushR r2.1 []) r2.2))) :=
  (evk_at (r := (if cmpI .ge x2 10 = true then
  (some ((3, 0), (mk E c s (hh g))))
else
  (if cmpI .eq x1 0 = true then
    ((fget 5658 ((mk E c s (hh g))) 0).bind fun v1 =>
      if (2 : Nat) = 2 ∧ rcv ((mk E c s (hh g))) v1 3 = true then
      ((Call prog clsT X d 24 [(2, v1), (0, x2)] ((mk E c s (hh g)))).bind fun r2 => if r2.1.1 = 4 then none else
      Ev prog clsT X d mc115 16 [(2, 0), (0, x1), (0, x2), (3, 0)] (pushR r2.1 []) r2.2) else none)
  else
    ((fget 5666 ((mk E c s (hh g))) 0).bind fun v3 =>
      if (2 : Nat) = 2 ∧ rcv ((mk E c s (hh g))) v3 4 = true then
      ((Call prog clsT X d 27 [(2, v3), (0, x2)] ((mk E c s (hh g)))).bind fun r4 => if r4.1.1 = 4 then none else
      Ev prog clsT X d mc115 11 [(2, 0), (0, x1), (0, x2), (3, 0)] (pushR r4.1 []) r4.2) else none)))) X [0, 2, 11, 16, 24] 10 rfl).trans (by simp (disch := decide) only [F5658_0, F5666_0, R30_3, R40_4, bindI, Option.bind_some, if_true_, and_self, ite_true, true_and, true_or, or_true])
theorem r115_11 (d : Nat) (x1 x2 s0 : Int) : Ev prog clsT X d mc115 11 [(2, 0), (0, x1), (0, x2), (3, 0)] [(0, s0)] (mk E c s (hh g)) =
  (Ev prog clsT X d mc115 16 [(2, 0), (0, x1), (0, x2), (3, 0)] [(0, s0)] (mk E c s (hh g))) :=
  evk_at X [0, 2, 11, 16, 24] 3 rfl
theorem r115_16 (d : Nat) (x1 x2 s0 : Int) : Ev prog clsT X d mc115 16 [(2, 0), (0, x1), (0, x2), (3, 0)] [(0, s0)] (mk E c s (hh g)) =
  ((Call prog clsT X d 97 [(2, 0), (0, x2)] ((mk E c s (hh g)))).bind fun r1 => if r1.1.1 = 4 then none else
  Ev prog clsT X d mc115 24 [(2, 0), (0, x1), (0, x2), (0, s0)] (pushR r1.1 [(0, x2), (2, 45)]) r1.2) :=
  (evk_at (r := ((fget 5666 ((mk E c s (hh g))) 0).bind fun v1 =>
  (fget 1554 ((mk E c s (hh g))) v1).bind fun v2 =>
  if (2 : Nat) = 2 ∧ rcv ((mk E c s (hh g))) 0 12 = true then
  ((Call prog clsT X d 97 [(2, 0), (0, x2)] ((mk E c s (hh g)))).bind fun r3 => if r3.1.1 = 4 then none else
  Ev prog clsT X d mc115 24 [(2, 0), (0, x1), (0, x2), (0, s0)] (pushR r3.1 [(0, x2), (2, v2)]) r3.2) else none)) X [0, 2, 11, 16, 24] 9 rfl).trans (by simp (disch := decide) only [F1554_40, F5666_0, R0_12, bindI, Option.bind_some, if_true_, and_self, ite_true, true_and, true_or, or_true])
theorem r116_0 (d : Nat) (x1 x2 : Int) : Ev prog clsT X d mc116 0 [(2, 0), (0, x1), (0, x2), (3, 0)] [] (mk E c s (hh g)) =
  ((Call prog clsT X d 90 [(0, x2), (0, 0), (0, 10)] ((mk E c s (hh g)))).bind fun r1 => if r1.1.1 = 4 then none else
  Ev prog clsT X d mc116 4 [(2, 0), (0, x1), (0, x2), (3, 0)] (pushR r1.1 []) r1.2) :=
  evk_at X [0, 4, 12, 18, 21] 5 rfl
theorem rc116_ (d : Nat) (x1 x2 : Int) : Call prog clsT X (d + 1) 116 [(2, 0), (0, x1), (0, x2)] (mk E c s (hh g)) =
  ((Call prog clsT X d 90 [(0, x2), (0, 0), (0, 10)] ((mk E c s (hh g)))).bind fun r1 => if r1.1.1 = 4 then none else
  Ev prog clsT X d mc116 4 [(2, 0), (0, x1), (0, x2), (3, 0)] (pushR r1.1 []) r1.2) :=
  (show Call prog clsT X (d + 1) 116 [(2, 0), (0, x1), (0, x2)] (mk E c s (hh g)) = Ev prog clsT X d mc116 0 [(2, 0), (0, x1), (0, x2), (3, 0)] [] (mk E c s (hh g)) from rfl).trans (r116_0 X E c s g d x1 x2 )
theorem r116_4 (d : Nat) (x1 x2 s0 : Int) : Ev prog clsT X d mc116 4 [(2, 0), (0, x1), (0, x2), (3, 0)] [(0, s0)] (mk E c s (hh g)) =
  (if cmpI .eq s0 0 = true then
  (some ((0, (-1)), ((mk E c s (hh g)))))
else
  (if cmpI .le x2 0 = true then
    ((Call prog clsT X d 115 [(2, 0), (0, x1)] ((mk E c s (hh g)))).bind fun r1 => if r1.1.1 = 4 then none else
      Ev prog clsT X d mc116 18 [(2, 0), (0, x1), (0, x2), (3, 0)] (pushR r1.1 []) r1.2)
  else
    ((Call prog clsT X d 97 [(2, 0), (0, (w32 (x2 - 1)))] ((mk E c s (hh g)))).bind fun r2 => if r2.1.1 = 4 then none else
      Ev prog clsT X d mc116 12 [(2, 0), (0, x1), (0, x2), (3, 0)] (pushR r2.1 []) r2.2))) :=
  (evk_at (r := (if cmpI .eq s0 0 = true then
  (some ((0, (-1)), (mk E c s (hh g))))
else
  (if cmpI .le x2 0 = true then
    (if (2 : Nat) = 2 ∧ rcv ((mk E c s (hh g))) 0 12 = true then
      ((Call prog clsT X d 115 [(2, 0), (0, x1)] ((mk E c s (hh g)))).bind fun r1 => if r1.1.1 = 4 then none else
      Ev prog clsT X d mc116 18 [(2, 0), (0, x1), (0, x2), (3, 0)] (pushR r1.1 []) r1.2) else none)
  else
    (if (2 : Nat) = 2 ∧ rcv ((mk E c s (hh g))) 0 12 = true then
      ((Call prog clsT X d 97 [(2, 0), (0, (w32 (x2 - 1)))] ((mk E c s (hh g)))).bind fun r2 => if r2.1.1 = 4 then none else
      Ev prog clsT X d mc116 12 [(2, 0), (0, x1), (0, x2), (3, 0)] (pushR r2.1 []) r2.2) else none)))) X [0, 4, 12, 18, 21] 9 rfl).trans (by simp (disch := decide) only [R0_12, bindI, Option.bind_some, if_true_, and_self, ite_true, true_and, true_or, or_true])
theorem r116_12 (d : Nat) (x1 x2 s0 : Int) : Ev prog clsT X d mc116 12 [(2, 0), (0, x1), (0, x2), (3, 0)] [(2, s0)] (mk E c s (hh g)) =
  (if (2 : Nat) = 2 ∧ s0 ≠ -5 then (if (!decide (s0 = -1)) = true then
  ((Call prog clsT X d 115 [(2, 0), (0, x1)] ((mk E c s (hh g)))).bind fun r1 => if r1.1.1 = 4 then none else
    Ev prog clsT X d mc116 18 [(2, 0), (0, x1), (0, x2), (3, 0)] (pushR r1.1 []) r1.2)
else
  (some ((0, (-1)), ((mk E c s (hh g)))))) else none) :=
  (evk_at (r := (if (2 : Nat) = 2 ∧ s0 ≠ -5 then (if (!decide (s0 = -1)) = true then
  (if (2 : Nat) = 2 ∧ rcv ((mk E c s (hh g))) 0 12 = true then
    ((Call prog clsT X d 115 [(2, 0), (0, x1)] ((mk E c s (hh g)))).bind fun r1 => if r1.1.1 = 4 then none else
    Ev prog clsT X d mc116 18 [(2, 0), (0, x1), (0, x2), (3, 0)] (pushR r1.1 []) r1.2) else none)
else
  (some ((0, (-1)), (mk E c s (hh g))))) else none)) X [0, 4, 12, 18, 21] 5 rfl).trans (by simp (disch := decide) only [R0_12, bindI, Option.bind_some, if_true_, and_self, ite_true, true_and, true_or, or_true])
theorem r116_18 (d : Nat) (x1 x2 : Int) : Ev prog clsT X d mc116 18 [(2, 0), (0, x1), (0, x2), (3, 0)] [] (mk E c s (hh g)) =
  ((Call prog clsT X d 28 [(2, 40)] ((mk E c s (hh g)))).bind fun r1 => if r1.1.1 = 4 then none else
  Ev prog clsT X d mc116 21 [(2, 0), (0, x1), (0, x2), (3, 0)] (pushR r1.1 []) r1.2) :=
  (evk_at (r := ((fget 5666 ((mk E c s (hh g))) 0).bind fun v1 =>
  if (2 : Nat) = 2 ∧ rcv ((mk E c s (hh g))) v1 4 = true then
  ((Call prog clsT X d 28 [(2, v1)] ((mk E c s (hh g)))).bind fun r2 => if r2.1.1 = 4 then none else
  Ev prog clsT X d mc116 21 [(2, 0), (0, x1), (0, x2), (3, 0)] (pushR r2.1 []) r2.2) else none)) X [0, 4, 12, 18, 21] 4 rfl).trans (by simp (disch := decide) only [F5666_0, R40_4, bindI, Option.bind_some, if_true_, and_self, ite_true, true_and, true_or, or_true])
theorem r116_21 (d : Nat) (x1 x2 s0 : Int) : Ev prog clsT X d mc116 21 [(2, 0), (0, x1), (0, x2), (3, 0)] [(0, s0)] (mk E c s (hh g)) =
  (if cmpI .eq x2 0 = true then
  (some ((0, s0), ((mk E c s (hh g)))))
else
  (if cmpI .ne s0 ((-1)) = true then
    (if inb ((w32 (x2 - 1))) 10 = true then
      (some ((0, (g 46 (Int.toNat ((w32 (x2 - 1)))))), ((mk E c s (hh g)))))
    else none)
  else
    (some ((0, s0), ((mk E c s (hh g))))))) :=
  (evk_at (r := (if cmpI .eq x2 0 = true then
  (some ((0, s0), (mk E c s (hh g))))
else
  (if cmpI .ne s0 ((-1)) = true then
    ((fget 5666 ((mk E c s (hh g))) 0).bind fun v1 =>
      (fget 1558 ((mk E c s (hh g))) v1).bind fun v2 =>
      (aget X 100 ((mk E c s (hh g))) v2 ((w32 (x2 - 1)))).bind fun v3 =>
      some ((0, v3), (mk E c s (hh g))))
  else
    (some ((0, s0), (mk E c s (hh g))))))) X [0, 4, 12, 18, 21] 15 rfl).trans (by simp (disch := decide) only [A46, F1558_40, F5666_0, bindI, Option.bind_some, if_true_, and_self, ite_true, true_and, true_or, or_true])
theorem r117_0 (d : Nat) (x1 : Int) : Ev prog clsT X d mc117 0 [(2, 0), (0, x1)] [] (mk E c s (hh g)) =
  ((Call prog clsT X d 90 [(0, x1), (0, 1), (0, 10)] ((mk E c s (hh g)))).bind fun r1 => if r1.1.1 = 4 then none else
  Ev prog clsT X d mc117 4 [(2, 0), (0, x1)] (pushR r1.1 []) r1.2) :=
  evk_at X [0, 4] 5 rfl
theorem rc117_ (d : Nat) (x1 : Int) : Call prog clsT X (d + 1) 117 [(2, 0), (0, x1)] (mk E c s (hh g)) =
  ((Call prog clsT X d 90 [(0, x1), (0, 1), (0, 10)] ((mk E c s (hh g)))).bind fun r1 => if r1.1.1 = 4 then none else
  Ev prog clsT X d mc117 4 [(2, 0), (0, x1)] (pushR r1.1 []) r1.2) :=
  (show Call prog clsT X (d + 1) 117 [(2, 0), (0, x1)] (mk E c s (hh g)) = Ev prog clsT X d mc117 0 [(2, 0), (0, x1)] [] (mk E c s (hh g)) from rfl).trans (r117_0 X E c s g d x1 )
theorem r117_4 (d : Nat) (x1 s0 : Int) : Ev prog clsT X d mc117 4 [(2, 0), (0, x1)] [(0, s0)] (mk E c s (hh g)) =
  (if cmpI .ne s0 0 = true then
  (some ((0, 1), ((mk E c s (hh (up g 36 3 x1))))))
else
  (some ((0, 0), ((mk E c s (hh g)))))) :=
  (evk_at (r := (if cmpI .ne s0 0 = true then
  ((fget 5662 ((mk E c s (hh g))) 0).bind fun v1 =>
    (fput 2060 ((mk E c s (hh g))) v1 x1).bind fun M2 =>
    some ((0, 1), M2))
else
  (some ((0, 0), (mk E c s (hh g)))))) X [0, 4] 8 rfl).trans (by simp (disch := decide) only [F5662_0, W2060_36, bindI, Option.bind_some, if_true_, and_self, ite_true, true_and, true_or, or_true])
theorem r118_0 (d : Nat) (x1 : Int) : Ev prog clsT X d mc118 0 [(2, 0), (0, x1), (3, 0), (3, 0)] [] (mk E c s (hh g)) =
  ((Call prog clsT X d 90 [(0, x1), (0, 0), (0, 10)] ((mk E c s (hh g)))).bind fun r1 => if r1.1.1 = 4 then none else
  Ev prog clsT X d mc118 4 [(2, 0), (0, x1), (3, 0), (3, 0)] (pushR r1.1 []) r1.2) :=
  evk_at X [0, 4, 9, 15, 20, 23, 34, 55] 5 rfl
theorem rc118_ (d : Nat) (x1 : Int) : Call prog clsT X (d + 1) 118 [(2, 0), (0, x1)] (mk E c s (hh g)) =
  ((Call prog clsT X d 90 [(0, x1), (0, 0), (0, 10)] ((mk E c s (hh g)))).bind fun r1 => if r1.1.1 = 4 then none else
  Ev prog clsT X d mc118 4 [(2, 0), (0, x1), (3, 0), (3, 0)] (pushR r1.1 []) r1.2) :=
  (show Call prog clsT X (d + 1) 118 [(2, 0), (0, x1)] (mk E c s (hh g)) = Ev prog clsT X d mc118 0 [(2, 0), (0, x1), (3, 0), (3, 0)] [] (mk E c s (hh g)) from rfl).trans (r118_0 X E c s g d x1 )
theorem r118_4 (d : Nat) (x1 s0 : Int) : Ev prog clsT X d mc118 4 [(2, 0), (0, x1), (3, 0), (3, 0)] [(0, s0)] (mk E c s (hh g)) =
  (if cmpI .ne s0 0 = true then
  (Ev prog clsT X d mc118 9 [(2, 0), (0, x1), (0, 0), (3, 0)] [] (mk E c s (hh g)))
else
  (some ((0, (-1)), ((mk E c s (hh g)))))) :=
  (evk_at (r := (if cmpI .ne s0 0 = true then
  (Ev prog clsT X d mc118 9 [(2, 0), (0, x1), (0, 0), (3, 0)] [] (mk E c s (hh g)))
else
  (some ((0, (-1)), (mk E c s (hh g)))))) X [0, 4, 9, 15, 20, 23, 34, 55] 5 rfl).trans (by simp (disch := decide) only [bindI, Option.bind_some, if_true_, and_self, ite_true, true_and, true_or, or_true])
theorem r118_9 (d : Nat) (x1 x2 : Int) (w3 : MV) : Ev prog clsT X d mc118 9 [(2, 0), (0, x1), (0, x2), w3] [] (mk E c s (hh g)) =
  (if cmpI .ge x2 10 = true then
  ((Call prog clsT X d 61 [(2, 48), (0, (g 36 3))] ((mk E c s (hh g)))).bind fun r1 => if r1.1.1 = 4 then none else
    Ev prog clsT X d mc118 55 [(2, 0), (0, x1), (0, x2), (3, 0)] (pushR r1.1 []) r1.2)
else
  ((Call prog clsT X d 97 [(2, 0), (0, x2)] ((mk E c s (hh g)))).bind fun r2 => if r2.1.1 = 4 then none else
    Ev prog clsT X d mc118 15 [(2, 0), (0, x1), (0, x2), (3, 0)] (pushR r2.1 []) r2.2)) :=
  (evk_at (r := (if cmpI .ge x2 10 = true then
  ((fget 5670 ((mk E c s (hh g))) 0).bind fun v1 =>
    (fget 5662 ((mk E c s (hh g))) 0).bind fun v2 =>
    (fget 2060 ((mk E c s (hh g))) v2).bind fun v3 =>
    if (2 : Nat) = 2 ∧ rcv ((mk E c s (hh g))) v1 7 = true then
    ((Call prog clsT X d 61 [(2, v1), (0, v3)] ((mk E c s (hh g)))).bind fun r4 => if r4.1.1 = 4 then none else
    Ev prog clsT X d mc118 55 [(2, 0), (0, x1), (0, x2), (3, 0)] (pushR r4.1 []) r4.2) else none)
else
  (if (2 : Nat) = 2 ∧ rcv ((mk E c s (hh g))) 0 12 = true then
    ((Call prog clsT X d 97 [(2, 0), (0, x2)] ((mk E c s (hh g)))).bind fun r5 => if r5.1.1 = 4 then none else
    Ev prog clsT X d mc118 15 [(2, 0), (0, x1), (0, x2), (3, 0)] (pushR r5.1 []) r5.2) else none))) X [0, 4, 9, 15, 20, 23, 34, 55] 10 rfl).trans (by simp (disch := decide) only [F2060_36, F5662_0, F5670_0, R0_12, R48_7, bindI, Option.bind_some, if_true_, and_self, ite_true, true_and, true_or, or_true])
theorem r118_15 (d : Nat) (x1 x2 s0 : Int) : Ev prog clsT X d mc118 15 [(2, 0), (0, x1), (0, x2), (3, 0)] [(2, s0)] (mk E c s (hh g)) =
  (if (2 : Nat) = 2 ∧ s0 ≠ -5 then (if (decide (s0 = -1)) = true then
  (Ev prog clsT X d mc118 23 [(2, 0), (0, x1), (0, x2), (3, 0)] [] (mk E c s (hh g)))
else
  ((Call prog clsT X d 24 [(2, 30), (0, x2)] ((mk E c s (hh g)))).bind fun r1 => if r1.1.1 = 4 then none else
    Ev prog clsT X d mc118 20 [(2, 0), (0, x1), (0, x2), (3, 0)] (pushR r1.1 []) r1.2)) else none) :=
  (evk_at (r := (if (2 : Nat) = 2 ∧ s0 ≠ -5 then (if (decide (s0 = -1)) = true then
  (Ev prog clsT X d mc118 23 [(2, 0), (0, x1), (0, x2), (3, 0)] [] (mk E c s (hh g)))
else
  ((fget 5658 ((mk E c s (hh g))) 0).bind fun v1 =>
    if (2 : Nat) = 2 ∧ rcv ((mk E c s (hh g))) v1 3 = true then
    ((Call prog clsT X d 24 [(2, v1), (0, x2)] ((mk E c s (hh g)))).bind fun r2 => if r2.1.1 = 4 then none else
    Ev prog clsT X d mc118 20 [(2, 0), (0, x1), (0, x2), (3, 0)] (pushR r2.1 []) r2.2) else none)) else none)) X [0, 4, 9, 15, 20, 23, 34, 55] 6 rfl).trans (by simp (disch := decide) only [F5658_0, R30_3, bindI, Option.bind_some, if_true_, and_self, ite_true, true_and, true_or, or_true])
theorem r118_55 (d : Nat) (x1 x2 s0 : Int) : Ev prog clsT X d mc118 55 [(2, 0), (0, x1), (0, x2), (3, 0)] [(0, s0)] (mk E c s (hh g)) =
  (if cmpI .eq x1 0 = true then
  (some ((0, s0), ((mk E c s (hh g)))))
else
  (if cmpI .ne s0 ((-1)) = true then
    (if inb ((w32 (x1 - 1))) 10 = true then
      (some ((0, (g 51 (Int.toNat ((w32 (x1 - 1)))))), ((mk E c s (hh g)))))
    else none)
  else
    (some ((0, s0), ((mk E c s (hh g))))))) :=
  (evk_at (r := (if cmpI .eq x1 0 = true then
  (some ((0, s0), (mk E c s (hh g))))
else
  (if cmpI .ne s0 ((-1)) = true then
    ((fget 5670 ((mk E c s (hh g))) 0).bind fun v1 =>
      (fget 3082 ((mk E c s (hh g))) v1).bind fun v2 =>
      (aget X 100 ((mk E c s (hh g))) v2 ((w32 (x1 - 1)))).bind fun v3 =>
      some ((0, v3), (mk E c s (hh g))))
  else
    (some ((0, s0), (mk E c s (hh g))))))) X [0, 4, 9, 15, 20, 23, 34, 55] 15 rfl).trans (by simp (disch := decide) only [A51, F3082_48, F5670_0, bindI, Option.bind_some, if_true_, and_self, ite_true, true_and, true_or, or_true])
theorem r119_0 (d : Nat) (x1 : Int) : Ev prog clsT X d mc119 0 [(2, 0), (0, x1), (3, 0), (3, 0)] [] (mk E c s (hh g)) =
  (Ev prog clsT X d mc119 4 [(2, 0), (0, x1), (0, 0), (0, 0)] [] (mk E c s (hh g))) :=
  evk_at X [0, 4, 12, 17] 6 rfl
theorem rc119_ (d : Nat) (x1 : Int) : Call prog clsT X (d + 1) 119 [(2, 0), (0, x1)] (mk E c s (hh g)) =
  (Ev prog clsT X d mc119 4 [(2, 0), (0, x1), (0, 0), (0, 0)] [] (mk E c s (hh g))) :=
  (show Call prog clsT X (d + 1) 119 [(2, 0), (0, x1)] (mk E c s (hh g)) = Ev prog clsT X d mc119 0 [(2, 0), (0, x1), (3, 0), (3, 0)] [] (mk E c s (hh g)) from rfl).trans (r119_0 X E c s g d x1 )
theorem r119_4 (d : Nat) (x1 x2 x3 : Int) : Ev prog clsT X d mc119 4 [(2, 0), (0, x1), (0, x2), (0, x3)] [] (mk E c s (hh g)) =
  (if cmpI .ge x3 4 = true then
  (some ((0, x2), ((mk E c s (hh g)))))
else
  ((Call prog clsT X d 34 [(2, 36), (0, x3)] ((mk E c s (hh g)))).bind fun r1 => if r1.1.1 = 4 then none else
    Ev prog clsT X d mc119 12 [(2, 0), (0, x1), (0, x2), (0, x3)] (pushR r1.1 [(0, x2)]) r1.2)) :=
  (evk_at (r := (if cmpI .ge x3 4 = true then
  (some ((0, x2), (mk E c s (hh g))))
else
  ((fget 5662 ((mk E c s (hh g))) 0).bind fun v1 =>
    if (2 : Nat) = 2 ∧ rcv ((mk E c s (hh g))) v1 5 = true then
    ((Call prog clsT X d 34 [(2, v1), (0, x3)] ((mk E c s (hh g)))).bind fun r2 => if r2.1.1 = 4 then none else
    Ev prog clsT X d mc119 12 [(2, 0), (0, x1), (0, x2), (0, x3)] (pushR r2.1 [(0, x2)]) r2.2) else none))) X [0, 4, 12, 17] 9 rfl).trans (by simp (disch := decide) only [F5662_0, R36_5, bindI, Option.bind_some, if_true_, and_self, ite_true, true_and, true_or, or_true])
theorem r119_12 (d : Nat) (x1 x2 x3 s0 s1 : Int) : Ev prog clsT X d mc119 12 [(2, 0), (0, x1), (0, x2), (0, x3)] [(0, s1), (0, s0)] (mk E c s (hh g)) =
  (if cmpI .eq s1 0 = true then
  (Ev prog clsT X d mc119 4 [(2, 0), (0, x1), (0, (ior32 s0 0)), (0, (w32 (x3 + 1)))] [] (mk E c s (hh g)))
else
  ((Call prog clsT X d 104 [(2, 0), (0, x3), (0, x1)] ((mk E c s (hh g)))).bind fun r1 => if r1.1.1 = 4 then none else
    Ev prog clsT X d mc119 17 [(2, 0), (0, x1), (0, x2), (0, x3)] (pushR r1.1 [(0, s0)]) r1.2)) :=
  (evk_at (r := (if cmpI .eq s1 0 = true then
  (Ev prog clsT X d mc119 4 [(2, 0), (0, x1), (0, (ior32 s0 0)), (0, (w32 (x3 + 1)))] [] (mk E c s (hh g)))
else
  (if (2 : Nat) = 2 ∧ rcv ((mk E c s (hh g))) 0 12 = true then
    ((Call prog clsT X d 104 [(2, 0), (0, x3), (0, x1)] ((mk E c s (hh g)))).bind fun r1 => if r1.1.1 = 4 then none else
    Ev prog clsT X d mc119 17 [(2, 0), (0, x1), (0, x2), (0, x3)] (pushR r1.1 [(0, s0)]) r1.2) else none))) X [0, 4, 12, 17] 8 rfl).trans (by simp (disch := decide) only [R0_12, bindI, Option.bind_some, if_true_, and_self, ite_true, true_and, true_or, or_true])
theorem r119_17 (d : Nat) (x1 x2 x3 s0 s1 : Int) : Ev prog clsT X d mc119 17 [(2, 0), (0, x1), (0, x2), (0, x3)] [(0, s1), (0, s0)] (mk E c s (hh g)) =
  (if cmpI .ne s1 0 = true then
  (Ev prog clsT X d mc119 4 [(2, 0), (0, x1), (0, (ior32 s0 0)), (0, (w32 (x3 + 1)))] [] (mk E c s (hh g)))
else
  (Ev prog clsT X d mc119 4 [(2, 0), (0, x1), (0, (ior32 s0 ((ishl32 1 x3)))), (0, (w32 (x3 + 1)))] [] (mk E c s (hh g)))) :=
  evk_at X [0, 4, 12, 17] 11 rfl
theorem r120_0 (d : Nat) (x1 x2 x3 : Int) : Ev prog clsT X d mc120 0 [(2, 0), (0, x1), (0, x2), (0, x3)] [] (mk E c s (hh g)) =
  ((Call prog clsT X d 90 [(0, x1), (0, 1), (0, 3)] ((mk E c s (hh g)))).bind fun r1 => if r1.1.1 = 4 then none else
  Ev prog clsT X d mc120 4 [(2, 0), (0, x1), (0, x2), (0, x3)] (pushR r1.1 []) r1.2) :=
  evk_at X [0, 4, 9, 14] 5 rfl
theorem rc120_ (d : Nat) (x1 x2 x3 : Int) : Call prog clsT X (d + 1) 120 [(2, 0), (0, x1), (0, x2), (0, x3)] (mk E c s (hh g)) =
  ((Call prog clsT X d 90 [(0, x1), (0, 1), (0, 3)] ((mk E c s (hh g)))).bind fun r1 => if r1.1.1 = 4 then none else
  Ev prog clsT X d mc120 4 [(2, 0), (0, x1), (0, x2), (0, x3)] (pushR r1.1 []) r1.2) :=
  (show Call prog clsT X (d + 1) 120 [(2, 0), (0, x1), (0, x2), (0, x3)] (mk E c s (hh g)) = Ev prog clsT X d mc120 0 [(2, 0), (0, x1), (0, x2), (0, x3)] [] (mk E c s (hh g)) from rfl).trans (r120_0 X E c s g d x1 x2 x3 )
theorem r120_4 (d : Nat) (x1 x2 x3 s0 : Int) : Ev prog clsT X d mc120 4 [(2, 0), (0, x1), (0, x2), (0, x3)] [(0, s0)] (mk E c s (hh g)) =
  (if cmpI .eq s0 0 = true then
  (some ((0, 0), ((mk E c s (hh g)))))
else
  ((Call prog clsT X d 90 [(0, x2), (0, 0), (0, 99)] ((mk E c s (hh g)))).bind fun r1 => if r1.1.1 = 4 then none else
    Ev prog clsT X d mc120 9 [(2, 0), (0, x1), (0, x2), (0, x3)] (pushR r1.1 []) r1.2)) :=
  (evk_at (r := (if cmpI .eq s0 0 = true then
  (some ((0, 0), (mk E c s (hh g))))
else
  ((Call prog clsT X d 90 [(0, x2), (0, 0), (0, 99)] ((mk E c s (hh g)))).bind fun r1 => if r1.1.1 = 4 then none else
    Ev prog clsT X d mc120 9 [(2, 0), (0, x1), (0, x2), (0, x3)] (pushR r1.1 []) r1.2))) X [0, 4, 9, 14] 6 rfl).trans (by simp (disch := decide) only [bindI, Option.bind_some, if_true_, and_self, ite_true, true_and, true_or, or_true])
theorem r120_9 (d : Nat) (x1 x2 x3 s0 : Int) : Ev prog clsT X d mc120 9 [(2, 0), (0, x1), (0, x2), (0, x3)] [(0, s0)] (mk E c s (hh g)) =
  (if cmpI .eq s0 0 = true then
  (some ((0, 0), ((mk E c s (hh g)))))
else
  ((Call prog clsT X d 90 [(0, x3), (0, 0), (0, 999)] ((mk E c s (hh g)))).bind fun r1 => if r1.1.1 = 4 then none else
    Ev prog clsT X d mc120 14 [(2, 0), (0, x1), (0, x2), (0, x3)] (pushR r1.1 []) r1.2)) :=
  (evk_at (r := (if cmpI .eq s0 0 = true then
  (some ((0, 0), (mk E c s (hh g))))
else
  ((Call prog clsT X d 90 [(0, x3), (0, 0), (0, 999)] ((mk E c s (hh g)))).bind fun r1 => if r1.1.1 = 4 then none else
    Ev prog clsT X d mc120 14 [(2, 0), (0, x1), (0, x2), (0, x3)] (pushR r1.1 []) r1.2))) X [0, 4, 9, 14] 6 rfl).trans (by simp (disch := decide) only [bindI, Option.bind_some, if_true_, and_self, ite_true, true_and, true_or, or_true])
theorem r121_0 (d : Nat) (x1 x2 : Int) : Ev prog clsT X d mc121 0 [(2, 0), (0, x1), (0, x2)] [] (mk E c s (hh g)) =
  ((Call prog clsT X d 90 [(0, x1), (0, 0), (0, 99)] ((mk E c s (hh g)))).bind fun r1 => if r1.1.1 = 4 then none else
  Ev prog clsT X d mc121 4 [(2, 0), (0, x1), (0, x2)] (pushR r1.1 []) r1.2) :=
  evk_at X [0, 4, 9] 5 rfl
theorem rc121_ (d : Nat) (x1 x2 : Int) : Call prog clsT X (d + 1) 121 [(2, 0), (0, x1), (0, x2)] (mk E c s (hh g)) =
  ((Call prog clsT X d 90 [(0, x1), (0, 0), (0, 99)] ((mk E c s (hh g)))).bind fun r1 => if r1.1.1 = 4 then none else
  Ev prog clsT X d mc121 4 [(2, 0), (0, x1), (0, x2)] (pushR r1.1 []) r1.2) :=
  (show Call prog clsT X (d + 1) 121 [(2, 0), (0, x1), (0, x2)] (mk E c s (hh g)) = Ev prog clsT X d mc121 0 [(2, 0), (0, x1), (0, x2)] [] (mk E c s (hh g)) from rfl).trans (r121_0 X E c s g d x1 x2 )
theorem r121_4 (d : Nat) (x1 x2 s0 : Int) : Ev prog clsT X d mc121 4 [(2, 0), (0, x1), (0, x2)] [(0, s0)] (mk E c s (hh g)) =
  (if cmpI .eq s0 0 = true then
  (some ((0, 0), ((mk E c s (hh g)))))
else
  ((Call prog clsT X d 90 [(0, x2), (0, 0), (0, 99)] ((mk E c s (hh g)))).bind fun r1 => if r1.1.1 = 4 then none else
    Ev prog clsT X d mc121 9 [(2, 0), (0, x1), (0, x2)] (pushR r1.1 []) r1.2)) :=
  (evk_at (r := (if cmpI .eq s0 0 = true then
  (some ((0, 0), (mk E c s (hh g))))
else
  ((Call prog clsT X d 90 [(0, x2), (0, 0), (0, 99)] ((mk E c s (hh g)))).bind fun r1 => if r1.1.1 = 4 then none else
    Ev prog clsT X d mc121 9 [(2, 0), (0, x1), (0, x2)] (pushR r1.1 []) r1.2))) X [0, 4, 9] 6 rfl).trans (by simp (disch := decide) only [bindI, Option.bind_some, if_true_, and_self, ite_true, true_and, true_or, or_true])
theorem r121_9 (d : Nat) (x1 x2 s0 : Int) : Ev prog clsT X d mc121 9 [(2, 0), (0, x1), (0, x2)] [(0, s0)] (mk E c s (hh g)) =
  (if cmpI .ne s0 0 = true then
  (some ((0, 1), ((mk E c s (hh (up (up g 55 6 x1) 55 7 x2))))))
else
  (some ((0, 0), ((mk E c s (hh g)))))) :=
  (evk_at (r := (if cmpI .ne s0 0 = true then
  ((fget 5674 ((mk E c s (hh g))) 0).bind fun v1 =>
    (fput 24 ((mk E c s (hh g))) v1 x1).bind fun M2 =>
    (fget 5674 M2 0).bind fun v3 =>
    (fput 28 M2 v3 x2).bind fun M4 =>
    some ((0, 1), M4))
else
  (some ((0, 0), (mk E c s (hh g)))))) X [0, 4, 9] 12 rfl).trans (by simp (disch := decide) only [F5674_0, W24_55, W28_55, bindI, Option.bind_some, if_true_, and_self, ite_true, true_and, true_or, or_true])
theorem r122_0 (d : Nat) (x1 x2 : Int) : Ev prog clsT X d mc122 0 [(2, 0), (0, x1), (0, x2), (3, 0), (3, 0)] [] (mk E c s (hh g)) =
  (if cmpI .eq x1 0 = true then
  ((Call prog clsT X d 84 [(2, 1), (0, x2)] ((mk E c s (hh g)))).bind fun r1 => if r1.1.1 = 4 then none else
    Ev prog clsT X d mc122 12 [(2, 0), (0, x1), (0, x2), (3, 0), (3, 0)] (pushR r1.1 []) r1.2)
else
  ((Call prog clsT X d 90 [(0, x2), (0, 0), (0, 5)] ((mk E c s (hh g)))).bind fun r2 => if r2.1.1 = 4 then none else
    Ev prog clsT X d mc122 6 [(2, 0), (0, x1), (0, x2), (3, 0), (3, 0)] (pushR r2.1 []) r2.2)) :=
  (evk_at (r := (if cmpI .eq x1 0 = true then
  ((fget 5634 ((mk E c s (hh g))) 0).bind fun v1 =>
    if (2 : Nat) = 2 ∧ rcv ((mk E c s (hh g))) v1 11 = true then
    ((Call prog clsT X d 84 [(2, v1), (0, x2)] ((mk E c s (hh g)))).bind fun r2 => if r2.1.1 = 4 then none else
    Ev prog clsT X d mc122 12 [(2, 0), (0, x1), (0, x2), (3, 0), (3, 0)] (pushR r2.1 []) r2.2) else none)
else
  ((Call prog clsT X d 90 [(0, x2), (0, 0), (0, 5)] ((mk E c s (hh g)))).bind fun r3 => if r3.1.1 = 4 then none else
    Ev prog clsT X d mc122 6 [(2, 0), (0, x1), (0, x2), (3, 0), (3, 0)] (pushR r3.1 []) r3.2))) X [0, 6, 12, 17, 21] 7 rfl).trans (by simp (disch := decide) only [F5634_0, R1_11, bindI, Option.bind_some, if_true_, and_self, ite_true, true_and, true_or, or_true])
theorem rc122_ (d : Nat) (x1 x2 : Int) : Call prog clsT X (d + 1) 122 [(2, 0), (0, x1), (0, x2)] (mk E c s (hh g)) =
  (if cmpI .eq x1 0 = true then
  ((Call prog clsT X d 84 [(2, 1), (0, x2)] ((mk E c s (hh g)))).bind fun r1 => if r1.1.1 = 4 then none else
    Ev prog clsT X d mc122 12 [(2, 0), (0, x1), (0, x2), (3, 0), (3, 0)] (pushR r1.1 []) r1.2)
else
  ((Call prog clsT X d 90 [(0, x2), (0, 0), (0, 5)] ((mk E c s (hh g)))).bind fun r2 => if r2.1.1 = 4 then none else
    Ev prog clsT X d mc122 6 [(2, 0), (0, x1), (0, x2), (3, 0), (3, 0)] (pushR r2.1 []) r2.2)) :=
  (show Call prog clsT X (d + 1) 122 [(2, 0), (0, x1), (0, x2)] (mk E c s (hh g)) = Ev prog clsT X d mc122 0 [(2, 0), (0, x1), (0, x2), (3, 0), (3, 0)] [] (mk E c s (hh g)) from rfl).trans (r122_0 X E c s g d x1 x2 )
theorem r122_6 (d : Nat) (x1 x2 s0 : Int) : Ev prog clsT X d mc122 6 [(2, 0), (0, x1), (0, x2), (3, 0), (3, 0)] [(0, s0)] (mk E c s (hh g)) =
  (if cmpI .ne s0 0 = true then
  ((Call prog clsT X d 123 [(2, 0)] ((mk E c s (hh g)))).bind fun r1 => if r1.1.1 = 4 then none else
    Ev prog clsT X d mc122 17 [(2, 0), (0, x1), (0, x2), (3, 0), (3, 0)] (pushR r1.1 []) r1.2)
else
  (some ((0, (-1)), ((mk E c s (hh g)))))) :=
  (evk_at (r := (if cmpI .ne s0 0 = true then
  (if (2 : Nat) = 2 ∧ rcv ((mk E c s (hh g))) 0 12 = true then
    ((Call prog clsT X d 123 [(2, 0)] ((mk E c s (hh g)))).bind fun r1 => if r1.1.1 = 4 then none else
    Ev prog clsT X d mc122 17 [(2, 0), (0, x1), (0, x2), (3, 0), (3, 0)] (pushR r1.1 []) r1.2) else none)
else
  (some ((0, (-1)), (mk E c s (hh g)))))) X [0, 6, 12, 17, 21] 5 rfl).trans (by simp (disch := decide) only [R0_12, bindI, Option.bind_some, if_true_, and_self, ite_true, true_and, true_or, or_true])
theorem r122_12 (d : Nat) (x1 x2 s0 : Int) : Ev prog clsT X d mc122 12 [(2, 0), (0, x1), (0, x2), (3, 0), (3, 0)] [(0, s0)] (mk E c s (hh g)) =
  (if cmpI .ne s0 0 = true then
  ((Call prog clsT X d 123 [(2, 0)] ((mk E c s (hh g)))).bind fun r1 => if r1.1.1 = 4 then none else
    Ev prog clsT X d mc122 17 [(2, 0), (0, x1), (0, x2), (3, 0), (3, 0)] (pushR r1.1 []) r1.2)
else
  (some ((0, (-1)), ((mk E c s (hh g)))))) :=
  (evk_at (r := (if cmpI .ne s0 0 = true then
  (if (2 : Nat) = 2 ∧ rcv ((mk E c s (hh g))) 0 12 = true then
    ((Call prog clsT X d 123 [(2, 0)] ((mk E c s (hh g)))).bind fun r1 => if r1.1.1 = 4 then none else
    Ev prog clsT X d mc122 17 [(2, 0), (0, x1), (0, x2), (3, 0), (3, 0)] (pushR r1.1 []) r1.2) else none)
else
  (some ((0, (-1)), (mk E c s (hh g)))))) X [0, 6, 12, 17, 21] 4 rfl).trans (by simp (disch := decide) only [R0_12, bindI, Option.bind_some, if_true_, and_self, ite_true, true_and, true_or, or_true])
theorem r122_17 (d : Nat) (x1 x2 : Int) : Ev prog clsT X d mc122 17 [(2, 0), (0, x1), (0, x2), (3, 0), (3, 0)] [] (mk E c s (hh g)) =
  (Ev prog clsT X d mc122 21 [(2, 0), (0, x1), (0, x2), (0, 0), (0, 0)] [] (mk E c s (hh g))) :=
  evk_at X [0, 6, 12, 17, 21] 6 rfl
theorem r122_21 (d : Nat) (x1 x2 x3 x4 : Int) : Ev prog clsT X d mc122 21 [(2, 0), (0, x1), (0, x2), (0, x3), (0, x4)] [] (mk E c s (hh g)) =
  (if cmpI .ge x4 10 = true then
  (some ((0, x3), ((mk E c s (hh g)))))
else
  (if cmpI .eq x1 0 = true then
    (if cmpI .ne x4 x2 = true then
      (Ev prog clsT X d mc122 21 [(2, 0), (0, x1), (0, x2), (0, x3), (0, (w32 (x4 + 1)))] [] (mk E c s (hh g)))
    else
      (if inb x4 10 = true then
        (Ev prog clsT X d mc122 21 [(2, 0), (0, x1), (0, x2), (0, (w32 (x3 + ((g 62 (Int.toNat x4)))))), (0, (w32 (x4 + 1)))] [] (mk E c s (hh g)))
      else none))
  else
    (if inb x4 10 = true then
      (if cmpI .ne ((g 2 (Int.toNat x4))) x2 = true then
      (Ev prog clsT X d mc122 21 [(2, 0), (0, x1), (0, x2), (0, x3), (0, (w32 (x4 + 1)))] [] (mk E c s (hh g)))
    else
      (if inb x4 10 = true then
        (Ev prog clsT X d mc122 21 [(2, 0), (0, x1), (0, x2), (0, (w32 (x3 + ((g 62 (Int.toNat x4)))))), (0, (w32 (x4 + 1)))] [] (mk E c s (hh g)))
      else none))
    else none))) :=
  (evk_at (r := (if cmpI .ge x4 10 = true then
  (some ((0, x3), (mk E c s (hh g))))
else
  (if cmpI .eq x1 0 = true then
    (if cmpI .ne x4 x2 = true then
      (Ev prog clsT X d mc122 21 [(2, 0), (0, x1), (0, x2), (0, x3), (0, (w32 (x4 + 1)))] [] (mk E c s (hh g)))
    else
      ((fget 5674 ((mk E c s (hh g))) 0).bind fun v1 =>
        (fget 34 ((mk E c s (hh g))) v1).bind fun v2 =>
        (aget X 100 ((mk E c s (hh g))) v2 x4).bind fun v3 =>
        Ev prog clsT X d mc122 21 [(2, 0), (0, x1), (0, x2), (0, (w32 (x3 + v3))), (0, (w32 (x4 + 1)))] [] (mk E c s (hh g))))
  else
    ((fget 5634 ((mk E c s (hh g))) 0).bind fun v4 =>
      (fget 5122 ((mk E c s (hh g))) v4).bind fun v5 =>
      (aget X 100 ((mk E c s (hh g))) v5 x4).bind fun v6 =>
      if cmpI .ne v6 x2 = true then
      (Ev prog clsT X d mc122 21 [(2, 0), (0, x1), (0, x2), (0, x3), (0, (w32 (x4 + 1)))] [] (mk E c s (hh g)))
    else
      ((fget 5674 ((mk E c s (hh g))) 0).bind fun v7 =>
        (fget 34 ((mk E c s (hh g))) v7).bind fun v8 =>
        (aget X 100 ((mk E c s (hh g))) v8 x4).bind fun v9 =>
        Ev prog clsT X d mc122 21 [(2, 0), (0, x1), (0, x2), (0, (w32 (x3 + v9))), (0, (w32 (x4 + 1)))] [] (mk E c s (hh g))))))) X [0, 6, 12, 17, 21] 25 rfl).trans (by simp (disch := decide) only [A2, A62, F34_55, F5122_1, F5634_0, F5674_0, bindI, Option.bind_some, if_true_, and_self, ite_true, true_and, true_or, or_true])
theorem r123_0 (d : Nat) : Ev prog clsT X d mc123 0 [(2, 0), (3, 0), (3, 0)] [] (mk E c s (hh g)) =
  ((Call prog clsT X d 5 [(2, 55)] ((mk E c s (hh g)))).bind fun r1 => if r1.1.1 = 4 then none else
  Ev prog clsT X d mc123 3 [(2, 0), (3, 0), (3, 0)] (pushR r1.1 []) r1.2) :=
  (evk_at (r := ((fget 5674 ((mk E c s (hh g))) 0).bind fun v1 =>
  if (2 : Nat) = 2 ∧ rcv ((mk E c s (hh g))) v1 1 = true then
  ((Call prog clsT X d 5 [(2, v1)] ((mk E c s (hh g)))).bind fun r2 => if r2.1.1 = 4 then none else
  Ev prog clsT X d mc123 3 [(2, 0), (3, 0), (3, 0)] (pushR r2.1 []) r2.2) else none)) X [0, 3, 5, 24, 26, 44] 4 rfl).trans (by simp (disch := decide) only [F5674_0, R55_1, bindI, Option.bind_some, if_true_, and_self, ite_true, true_and, true_or, or_true])
theorem rc123_ (d : Nat) : Call prog clsT X (d + 1) 123 [(2, 0)] (mk E c s (hh g)) =
  ((Call prog clsT X d 5 [(2, 55)] ((mk E c s (hh g)))).bind fun r1 => if r1.1.1 = 4 then none else
  Ev prog clsT X d mc123 3 [(2, 0), (3, 0), (3, 0)] (pushR r1.1 []) r1.2) :=
  (show Call prog clsT X (d + 1) 123 [(2, 0)] (mk E c s (hh g)) = Ev prog clsT X d mc123 0 [(2, 0), (3, 0), (3, 0)] [] (mk E c s (hh g)) from rfl).trans (r123_0 X E c s g d  )
theorem r123_3 (d : Nat) : Ev prog clsT X d mc123 3 [(2, 0), (3, 0), (3, 0)] [] (mk E c s (hh g)) =
  (Ev prog clsT X d mc123 5 [(2, 0), (0, 0), (3, 0)] [] (mk E c s (hh g))) :=
  evk_at X [0, 3, 5, 24, 26, 44] 4 rfl
theorem r123_5 (d : Nat) (x1 : Int) (w2 : MV) : Ev prog clsT X d mc123 5 [(2, 0), (0, x1), w2] [] (mk E c s (hh g)) =
  (if cmpI .ge x1 10 = true then
  (some ((3, 0), ((mk E c s (hh g)))))
else
  (if inb x1 10 = true then
    (if cmpI .ne ((g 39 (Int.toNat x1))) ((-1)) = true then
    (if inb x1 10 = true then
      ((Call prog clsT X d 107 [(2, 0), (0, x1), (0, (g 39 (Int.toNat x1)))] ((mk E c s (hh g)))).bind fun r1 => if r1.1.1 = 4 then none else
      Ev prog clsT X d mc123 24 [(2, 0), (0, x1), (3, 0)] (pushR r1.1 []) r1.2)
    else none)
  else
    (Ev prog clsT X d mc123 5 [(2, 0), (0, (w32 (x1 + 1))), (3, 0)] [] (mk E c s (hh g))))
  else none)) :=
  (evk_at (r := (if cmpI .ge x1 10 = true then
  (some ((3, 0), (mk E c s (hh g))))
else
  ((fget 5662 ((mk E c s (hh g))) 0).bind fun v1 =>
    (fget 2058 ((mk E c s (hh g))) v1).bind fun v2 =>
    (aget X 100 ((mk E c s (hh g))) v2 x1).bind fun v3 =>
    if cmpI .ne v3 ((-1)) = true then
    ((fget 5662 ((mk E c s (hh g))) 0).bind fun v4 =>
      (fget 2058 ((mk E c s (hh g))) v4).bind fun v5 =>
      (aget X 100 ((mk E c s (hh g))) v5 x1).bind fun v6 =>
      if (2 : Nat) = 2 ∧ rcv ((mk E c s (hh g))) 0 12 = true then
      ((Call prog clsT X d 107 [(2, 0), (0, x1), (0, v6)] ((mk E c s (hh g)))).bind fun r7 => if r7.1.1 = 4 then none else
      Ev prog clsT X d mc123 24 [(2, 0), (0, x1), (3, 0)] (pushR r7.1 []) r7.2) else none)
  else
    (Ev prog clsT X d mc123 5 [(2, 0), (0, (w32 (x1 + 1))), (3, 0)] [] (mk E c s (hh g)))))) X [0, 3, 5, 24, 26, 44] 19 rfl).trans (by simp (disch := decide) only [A39, F2058_36, F5662_0, R0_12, bindI, Option.bind_some, if_true_, and_self, ite_true, true_and, true_or, or_true])
theorem r123_24 (d : Nat) (x1 : Int) : Ev prog clsT X d mc123 24 [(2, 0), (0, x1), (3, 0)] [] (mk E c s (hh g)) =
  (Ev prog clsT X d mc123 26 [(2, 0), (0, x1), (0, 0)] [] (mk E c s (hh g))) :=
  evk_at X [0, 3, 5, 24, 26, 44] 4 rfl
theorem r123_26 (d : Nat) (x1 x2 : Int) : Ev prog clsT X d mc123 26 [(2, 0), (0, x1), (0, x2)] [] (mk E c s (hh g)) =
  (if cmpI .ge x2 ((g 30 0)) = true then
  (Ev prog clsT X d mc123 5 [(2, 0), (0, (w32 (x1 + 1))), (0, x2)] [] (mk E c s (hh g)))
else
  (if inb x2 40 = true then
    (if inb x2 40 = true then
    ((Call prog clsT X d 6 [(2, 55), (0, (g 32 (Int.toNat x2))), (0, (g 56 (Int.toNat x2)))] ((mk E c s (hh g)))).bind fun r1 => if r1.1.1 = 4 then none else
    Ev prog clsT X d mc123 44 [(2, 0), (0, x1), (0, x2)] (pushR r1.1 []) r1.2)
  else none)
  else none)) :=
  (evk_at (r := ((fget 5658 ((mk E c s (hh g))) 0).bind fun v1 =>
  (fget 1024 ((mk E c s (hh g))) v1).bind fun v2 =>
  if cmpI .ge x2 v2 = true then
  (Ev prog clsT X d mc123 5 [(2, 0), (0, (w32 (x1 + 1))), (0, x2)] [] (mk E c s (hh g)))
else
  ((fget 5674 ((mk E c s (hh g))) 0).bind fun v3 =>
    (fget 5658 ((mk E c s (hh g))) 0).bind fun v4 =>
    (fget 1038 ((mk E c s (hh g))) v4).bind fun v5 =>
    (aget X 100 ((mk E c s (hh g))) v5 x2).bind fun v6 =>
    (fget 5674 ((mk E c s (hh g))) 0).bind fun v7 =>
    (fget 2 ((mk E c s (hh g))) v7).bind fun v8 =>
    (aget X 100 ((mk E c s (hh g))) v8 x2).bind fun v9 =>
    if (2 : Nat) = 2 ∧ rcv ((mk E c s (hh g))) v3 1 = true then
    ((Call prog clsT X d 6 [(2, v3), (0, v6), (0, v9)] ((mk E c s (hh g)))).bind fun r10 => if r10.1.1 = 4 then none else
    Ev prog clsT X d mc123 44 [(2, 0), (0, x1), (0, x2)] (pushR r10.1 []) r10.2) else none))) X [0, 3, 5, 24, 26, 44] 19 rfl).trans (by simp (disch := decide) only [A32, A56, F1024_30, F1038_30, F2_55, F5658_0, F5674_0, R55_1, bindI, Option.bind_some, if_true_, and_self, ite_true, true_and, true_or, or_true])
theorem r123_44 (d : Nat) (x1 x2 : Int) : Ev prog clsT X d mc123 44 [(2, 0), (0, x1), (0, x2)] [] (mk E c s (hh g)) =
  (Ev prog clsT X d mc123 26 [(2, 0), (0, x1), (0, (w32 (x2 + 1)))] [] (mk E c s (hh g))) :=
  evk_at X [0, 3, 5, 24, 26, 44] 4 rfl
theorem r124_0 (d : Nat) : Ev prog clsT X d mc124 0 [(2, 0)] [] (mk E c s (hh g)) =
  ((Call prog clsT X d 123 [(2, 0)] ((mk E c s (hh g)))).bind fun r1 => if r1.1.1 = 4 then none else
  Ev prog clsT X d mc124 2 [(2, 0)] (pushR r1.1 []) r1.2) :=
  (evk_at (r := (if (2 : Nat) = 2 ∧ rcv ((mk E c s (hh g))) 0 12 = true then
  ((Call prog clsT X d 123 [(2, 0)] ((mk E c s (hh g)))).bind fun r1 => if r1.1.1 = 4 then none else
  Ev prog clsT X d mc124 2 [(2, 0)] (pushR r1.1 []) r1.2) else none)) X [0, 2, 4] 3 rfl).trans (by simp (disch := decide) only [R0_12, bindI, Option.bind_some, if_true_, and_self, ite_true, true_and, true_or, or_true])
theorem rc124_ (d : Nat) : Call prog clsT X (d + 1) 124 [(2, 0)] (mk E c s (hh g)) =
  ((Call prog clsT X d 123 [(2, 0)] ((mk E c s (hh g)))).bind fun r1 => if r1.1.1 = 4 then none else
  Ev prog clsT X d mc124 2 [(2, 0)] (pushR r1.1 []) r1.2) :=
  (show Call prog clsT X (d + 1) 124 [(2, 0)] (mk E c s (hh g)) = Ev prog clsT X d mc124 0 [(2, 0)] [] (mk E c s (hh g)) from rfl).trans (r124_0 X E c s g d  )
theorem r124_2 (d : Nat) : Ev prog clsT X d mc124 2 [(2, 0)] [] (mk E c s (hh g)) =
  ((Call prog clsT X d 125 [(2, 0)] ((mk E c s (hh g)))).bind fun r1 => if r1.1.1 = 4 then none else
  Ev prog clsT X d mc124 4 [(2, 0)] (pushR r1.1 []) r1.2) :=
  (evk_at (r := (if (2 : Nat) = 2 ∧ rcv ((mk E c s (hh g))) 0 12 = true then
  ((Call prog clsT X d 125 [(2, 0)] ((mk E c s (hh g)))).bind fun r1 => if r1.1.1 = 4 then none else
  Ev prog clsT X d mc124 4 [(2, 0)] (pushR r1.1 []) r1.2) else none)) X [0, 2, 4] 3 rfl).trans (by simp (disch := decide) only [R0_12, bindI, Option.bind_some, if_true_, and_self, ite_true, true_and, true_or, or_true])
theorem r124_4 (d : Nat) (s0 : Int) : Ev prog clsT X d mc124 4 [(2, 0)] [(0, s0)] (mk E c s (hh g)) =
  (some ((0, s0), ((mk E c s (hh g))))) :=
  (evk_at (r := (some ((0, s0), (mk E c s (hh g))))) X [0, 2, 4] 2 rfl).trans (by simp (disch := decide) only [bindI, Option.bind_some, if_true_, and_self, ite_true, true_and, true_or, or_true])
theorem r125_0 (d : Nat) : Ev prog clsT X d mc125 0 [(2, 0), (3, 0), (3, 0), (3, 0), (3, 0), (3, 0)] [] (mk E c s (hh g)) =
  (Ev prog clsT X d mc125 8 [(2, 0), (0, 0), (0, 0), (0, 0), (0, 0), (3, 0)] [] (mk E c s (hh g))) :=
  evk_at X [0, 8, 15, 36, 46, 47] 10 rfl
theorem rc125_ (d : Nat) : Call prog clsT X (d + 1) 125 [(2, 0)] (mk E c s (hh g)) =
  (Ev prog clsT X d mc125 8 [(2, 0), (0, 0), (0, 0), (0, 0), (0, 0), (3, 0)] [] (mk E c s (hh g))) :=
  (show Call prog clsT X (d + 1) 125 [(2, 0)] (mk E c s (hh g)) = Ev prog clsT X d mc125 0 [(2, 0), (3, 0), (3, 0), (3, 0), (3, 0), (3, 0)] [] (mk E c s (hh g)) from rfl).trans (r125_0 X E c s g d  )
theorem r125_8 (d : Nat) (x1 x2 x3 x4 : Int) (w5 : MV) : Ev prog clsT X d mc125 8 [(2, 0), (0, x1), (0, x2), (0, x3), (0, x4), w5] [] (mk E c s (hh g)) =
  (if cmpI .ge x4 10 = true then
  (some ((0, x1), ((mk E c s (hh g)))))
else
  ((Call prog clsT X d 84 [(2, 1), (0, x4)] ((mk E c s (hh g)))).bind fun r1 => if r1.1.1 = 4 then none else
    Ev prog clsT X d mc125 15 [(2, 0), (0, x1), (0, x2), (0, x3), (0, x4), (3, 0)] (pushR r1.1 []) r1.2)) :=
  (evk_at (r := (if cmpI .ge x4 10 = true then
  (some ((0, x1), (mk E c s (hh g))))
else
  ((fget 5634 ((mk E c s (hh g))) 0).bind fun v1 =>
    if (2 : Nat) = 2 ∧ rcv ((mk E c s (hh g))) v1 11 = true then
    ((Call prog clsT X d 84 [(2, v1), (0, x4)] ((mk E c s (hh g)))).bind fun r2 => if r2.1.1 = 4 then none else
    Ev prog clsT X d mc125 15 [(2, 0), (0, x1), (0, x2), (0, x3), (0, x4), (3, 0)] (pushR r2.1 []) r2.2) else none))) X [0, 8, 15, 36, 46, 47] 8 rfl).trans (by simp (disch := decide) only [F5634_0, R1_11, bindI, Option.bind_some, if_true_, and_self, ite_true, true_and, true_or, or_true])
theorem r125_15 (d : Nat) (x1 x2 x3 x4 s0 : Int) : Ev prog clsT X d mc125 15 [(2, 0), (0, x1), (0, x2), (0, x3), (0, x4), (3, 0)] [(0, s0)] (mk E c s (hh g)) =
  (if cmpI .eq s0 0 = true then
  (Ev prog clsT X d mc125 8 [(2, 0), (0, x1), (0, x2), (0, x3), (0, (w32 (x4 + 1))), (3, 0)] [] (mk E c s (hh g)))
else
  (if inb x4 10 = true then
    (if cmpI .ne ((g 4 (Int.toNat x4))) 0 = true then
    (Ev prog clsT X d mc125 8 [(2, 0), (0, x1), (0, x2), (0, x3), (0, (w32 (x4 + 1))), (3, 0)] [] (mk E c s (hh g)))
  else
    (if inb x4 10 = true then
      (if cmpI .gt ((g 62 (Int.toNat x4))) 0 = true then
      (if inb x4 10 = true then
        ((Call prog clsT X d 263 [(0, (g 62 (Int.toNat x4))), (0, x2)] ((mk E c s (hh g)))).bind fun r1 => if r1.1.1 = 4 then none else
        Ev prog clsT X d mc125 36 [(2, 0), (0, x1), (0, x2), (0, x3), (0, x4), (3, 0)] (pushR r1.1 []) r1.2)
      else none)
    else
      (Ev prog clsT X d mc125 8 [(2, 0), (0, x1), (0, x2), (0, x3), (0, (w32 (x4 + 1))), (3, 0)] [] (mk E c s (hh g))))
    else none))
  else none)) :=
  (evk_at (r := (if cmpI .eq s0 0 = true then
  (Ev prog clsT X d mc125 8 [(2, 0), (0, x1), (0, x2), (0, x3), (0, (w32 (x4 + 1))), (3, 0)] [] (mk E c s (hh g)))
else
  ((fget 5634 ((mk E c s (hh g))) 0).bind fun v1 =>
    (fget 5130 ((mk E c s (hh g))) v1).bind fun v2 =>
    (aget X 102 ((mk E c s (hh g))) v2 x4).bind fun v3 =>
    if cmpI .ne v3 0 = true then
    (Ev prog clsT X d mc125 8 [(2, 0), (0, x1), (0, x2), (0, x3), (0, (w32 (x4 + 1))), (3, 0)] [] (mk E c s (hh g)))
  else
    ((fget 5674 ((mk E c s (hh g))) 0).bind fun v4 =>
      (fget 34 ((mk E c s (hh g))) v4).bind fun v5 =>
      (aget X 100 ((mk E c s (hh g))) v5 x4).bind fun v6 =>
      if cmpI .gt v6 0 = true then
      ((fget 5674 ((mk E c s (hh g))) 0).bind fun v7 =>
        (fget 34 ((mk E c s (hh g))) v7).bind fun v8 =>
        (aget X 100 ((mk E c s (hh g))) v8 x4).bind fun v9 =>
        (Call prog clsT X d 263 [(0, v9), (0, x2)] ((mk E c s (hh g)))).bind fun r10 => if r10.1.1 = 4 then none else
        Ev prog clsT X d mc125 36 [(2, 0), (0, x1), (0, x2), (0, x3), (0, x4), (3, 0)] (pushR r10.1 []) r10.2)
    else
      (Ev prog clsT X d mc125 8 [(2, 0), (0, x1), (0, x2), (0, x3), (0, (w32 (x4 + 1))), (3, 0)] [] (mk E c s (hh g))))))) X [0, 8, 15, 36, 46, 47] 21 rfl).trans (by simp (disch := decide) only [A4, A62, F34_55, F5130_1, F5634_0, F5674_0, bindI, Option.bind_some, if_true_, and_self, ite_true, true_and, true_or, or_true])
theorem r125_36 (d : Nat) (x1 x2 x3 x4 s0 : Int) : Ev prog clsT X d mc125 36 [(2, 0), (0, x1), (0, x2), (0, x3), (0, x4), (3, 0)] [(0, s0)] (mk E c s (hh g)) =
  (if cmpI .ne s0 0 = true then
  (Ev prog clsT X d mc125 47 [(2, 0), (0, x1), (0, x2), (0, x3), (0, x4), (0, s0)] [] (mk E c s (hh g)))
else
  (if inb x4 10 = true then
    ((Call prog clsT X d 263 [(0, (g 63 (Int.toNat x4))), (0, x3)] ((mk E c s (hh g)))).bind fun r1 => if r1.1.1 = 4 then none else
    Ev prog clsT X d mc125 46 [(2, 0), (0, x1), (0, x2), (0, x3), (0, x4), (0, s0)] (pushR r1.1 []) r1.2)
  else none)) :=
  (evk_at (r := (if cmpI .ne s0 0 = true then
  (Ev prog clsT X d mc125 47 [(2, 0), (0, x1), (0, x2), (0, x3), (0, x4), (0, s0)] [] (mk E c s (hh g)))
else
  ((fget 5674 ((mk E c s (hh g))) 0).bind fun v1 =>
    (fget 38 ((mk E c s (hh g))) v1).bind fun v2 =>
    (aget X 100 ((mk E c s (hh g))) v2 x4).bind fun v3 =>
    (Call prog clsT X d 263 [(0, v3), (0, x3)] ((mk E c s (hh g)))).bind fun r4 => if r4.1.1 = 4 then none else
    Ev prog clsT X d mc125 46 [(2, 0), (0, x1), (0, x2), (0, x3), (0, x4), (0, s0)] (pushR r4.1 []) r4.2))) X [0, 8, 15, 36, 46, 47] 11 rfl).trans (by simp (disch := decide) only [A63, F38_55, F5674_0, bindI, Option.bind_some, if_true_, and_self, ite_true, true_and, true_or, or_true])
theorem r125_46 (d : Nat) (x1 x2 x3 x4 x5 s0 : Int) : Ev prog clsT X d mc125 46 [(2, 0), (0, x1), (0, x2), (0, x3), (0, x4), (0, x5)] [(0, s0)] (mk E c s (hh g)) =
  (Ev prog clsT X d mc125 47 [(2, 0), (0, x1), (0, x2), (0, x3), (0, x4), (0, s0)] [] (mk E c s (hh g))) :=
  evk_at X [0, 8, 15, 36, 46, 47] 3 rfl
theorem r125_47 (d : Nat) (x1 x2 x3 x4 x5 : Int) : Ev prog clsT X d mc125 47 [(2, 0), (0, x1), (0, x2), (0, x3), (0, x4), (0, x5)] [] (mk E c s (hh g)) =
  (if cmpI .le x5 0 = true then
  (if cmpI .lt x5 0 = true then
    (Ev prog clsT X d mc125 8 [(2, 0), (0, (ior32 x1 0)), (0, x2), (0, x3), (0, (w32 (x4 + 1))), (0, x5)] [] (mk E c s (hh g)))
  else
    (Ev prog clsT X d mc125 8 [(2, 0), (0, (ior32 x1 ((ishl32 1 x4)))), (0, x2), (0, x3), (0, (w32 (x4 + 1))), (0, x5)] [] (mk E c s (hh g))))
else
  (if inb x4 10 = true then
    (if inb x4 10 = true then
    (if cmpI .lt x5 0 = true then
    (Ev prog clsT X d mc125 8 [(2, 0), (0, (ior32 0 0)), (0, (g 62 (Int.toNat x4))), (0, (g 63 (Int.toNat x4))), (0, (w32 (x4 + 1))), (0, x5)] [] (mk E c s (hh g)))
  else
    (Ev prog clsT X d mc125 8 [(2, 0), (0, (ior32 0 ((ishl32 1 x4)))), (0, (g 62 (Int.toNat x4))), (0, (g 63 (Int.toNat x4))), (0, (w32 (x4 + 1))), (0, x5)] [] (mk E c s (hh g))))
  else none)
  else none)) :=
  (evk_at (r := (if cmpI .le x5 0 = true then
  (if cmpI .lt x5 0 = true then
    (Ev prog clsT X d mc125 8 [(2, 0), (0, (ior32 x1 0)), (0, x2), (0, x3), (0, (w32 (x4 + 1))), (0, x5)] [] (mk E c s (hh g)))
  else
    (Ev prog clsT X d mc125 8 [(2, 0), (0, (ior32 x1 ((ishl32 1 x4)))), (0, x2), (0, x3), (0, (w32 (x4 + 1))), (0, x5)] [] (mk E c s (hh g))))
else
  ((fget 5674 ((mk E c s (hh g))) 0).bind fun v1 =>
    (fget 34 ((mk E c s (hh g))) v1).bind fun v2 =>
    (aget X 100 ((mk E c s (hh g))) v2 x4).bind fun v3 =>
    (fget 5674 ((mk E c s (hh g))) 0).bind fun v4 =>
    (fget 38 ((mk E c s (hh g))) v4).bind fun v5 =>
    (aget X 100 ((mk E c s (hh g))) v5 x4).bind fun v6 =>
    if cmpI .lt x5 0 = true then
    (Ev prog clsT X d mc125 8 [(2, 0), (0, (ior32 0 0)), (0, v3), (0, v6), (0, (w32 (x4 + 1))), (0, x5)] [] (mk E c s (hh g)))
  else
    (Ev prog clsT X d mc125 8 [(2, 0), (0, (ior32 0 ((ishl32 1 x4)))), (0, v3), (0, v6), (0, (w32 (x4 + 1))), (0, x5)] [] (mk E c s (hh g)))))) X [0, 8, 15, 36, 46, 47] 29 rfl).trans (by simp (disch := decide) only [A62, A63, F34_55, F38_55, F5674_0, bindI, Option.bind_some, if_true_, and_self, ite_true, true_and, true_or, or_true])
theorem r126_0 (d : Nat) (x1 : Int) : Ev prog clsT X d mc126 0 [(2, 0), (0, x1), (3, 0), (3, 0)] [] (mk E c s (hh g)) =
  ((Call prog clsT X d 84 [(2, 1), (0, x1)] ((mk E c s (hh g)))).bind fun r1 => if r1.1.1 = 4 then none else
  Ev prog clsT X d mc126 4 [(2, 0), (0, x1), (3, 0), (3, 0)] (pushR r1.1 []) r1.2) :=
  (evk_at (r := ((fget 5634 ((mk E c s (hh g))) 0).bind fun v1 =>
  if (2 : Nat) = 2 ∧ rcv ((mk E c s (hh g))) v1 11 = true then
  ((Call prog clsT X d 84 [(2, v1), (0, x1)] ((mk E c s (hh g)))).bind fun r2 => if r2.1.1 = 4 then none else
  Ev prog clsT X d mc126 4 [(2, 0), (0, x1), (3, 0), (3, 0)] (pushR r2.1 []) r2.2) else none)) X [0, 4, 8, 21, 23, 30, 39, 78] 5 rfl).trans (by simp (disch := decide) only [F5634_0, R1_11, bindI, Option.bind_some, if_true_, and_self, ite_true, true_and, true_or, or_true])
theorem rc126_ (d : Nat) (x1 : Int) : Call prog clsT X (d + 1) 126 [(2, 0), (0, x1)] (mk E c s (hh g)) =
  ((Call prog clsT X d 84 [(2, 1), (0, x1)] ((mk E c s (hh g)))).bind fun r1 => if r1.1.1 = 4 then none else
  Ev prog clsT X d mc126 4 [(2, 0), (0, x1), (3, 0), (3, 0)] (pushR r1.1 []) r1.2) :=
  (show Call prog clsT X (d + 1) 126 [(2, 0), (0, x1)] (mk E c s (hh g)) = Ev prog clsT X d mc126 0 [(2, 0), (0, x1), (3, 0), (3, 0)] [] (mk E c s (hh g)) from rfl).trans (r126_0 X E c s g d x1 )
theorem r126_4 (d : Nat) (x1 s0 : Int) : Ev prog clsT X d mc126 4 [(2, 0), (0, x1), (3, 0), (3, 0)] [(0, s0)] (mk E c s (hh g)) =
  (if cmpI .eq s0 0 = true then
  (some ((0, (-1)), ((mk E c s (hh g)))))
else
  ((Call prog clsT X d 127 [(2, 0), (0, x1)] ((mk E c s (hh g)))).bind fun r1 => if r1.1.1 = 4 then none else
    Ev prog clsT X d mc126 8 [(2, 0), (0, x1), (3, 0), (3, 0)] (pushR r1.1 []) r1.2)) :=
  (evk_at (r := (if cmpI .eq s0 0 = true then
  (some ((0, (-1)), (mk E c s (hh g))))
else
  (if (2 : Nat) = 2 ∧ rcv ((mk E c s (hh g))) 0 12 = true then
    ((Call prog clsT X d 127 [(2, 0), (0, x1)] ((mk E c s (hh g)))).bind fun r1 => if r1.1.1 = 4 then none else
    Ev prog clsT X d mc126 8 [(2, 0), (0, x1), (3, 0), (3, 0)] (pushR r1.1 []) r1.2) else none))) X [0, 4, 8, 21, 23, 30, 39, 78] 5 rfl).trans (by simp (disch := decide) only [R0_12, bindI, Option.bind_some, if_true_, and_self, ite_true, true_and, true_or, or_true])
theorem r126_8 (d : Nat) (x1 s0 : Int) : Ev prog clsT X d mc126 8 [(2, 0), (0, x1), (3, 0), (3, 0)] [(0, s0)] (mk E c s (hh g)) =
  (if cmpI .ne s0 0 = true then
  (if inb x1 10 = true then
    (if cmpI .eq ((g 4 (Int.toNat x1))) 0 = true then
    ((Call prog clsT X d 123 [(2, 0)] ((mk E c s (hh g)))).bind fun r1 => if r1.1.1 = 4 then none else
      Ev prog clsT X d mc126 21 [(2, 0), (0, x1), (3, 0), (3, 0)] (pushR r1.1 []) r1.2)
  else
    (some ((0, 0), ((mk E c s (hh g))))))
  else none)
else
  (some ((0, (-1)), ((mk E c s (hh g)))))) :=
  (evk_at (r := (if cmpI .ne s0 0 = true then
  ((fget 5634 ((mk E c s (hh g))) 0).bind fun v1 =>
    (fget 5130 ((mk E c s (hh g))) v1).bind fun v2 =>
    (aget X 102 ((mk E c s (hh g))) v2 x1).bind fun v3 =>
    if cmpI .eq v3 0 = true then
    (if (2 : Nat) = 2 ∧ rcv ((mk E c s (hh g))) 0 12 = true then
      ((Call prog clsT X d 123 [(2, 0)] ((mk E c s (hh g)))).bind fun r4 => if r4.1.1 = 4 then none else
      Ev prog clsT X d mc126 21 [(2, 0), (0, x1), (3, 0), (3, 0)] (pushR r4.1 []) r4.2) else none)
  else
    (some ((0, 0), (mk E c s (hh g)))))
else
  (some ((0, (-1)), (mk E c s (hh g)))))) X [0, 4, 8, 21, 23, 30, 39, 78] 10 rfl).trans (by simp (disch := decide) only [A4, F5130_1, F5634_0, R0_12, bindI, Option.bind_some, if_true_, and_self, ite_true, true_and, true_or, or_true])
theorem r126_21 (d : Nat) (x1 : Int) : Ev prog clsT X d mc126 21 [(2, 0), (0, x1), (3, 0), (3, 0)] [] (mk E c s (hh g)) =
  (Ev prog clsT X d mc126 23 [(2, 0), (0, x1), (0, 0), (3, 0)] [] (mk E c s (hh g))) :=
  evk_at X [0, 4, 8, 21, 23, 30, 39, 78] 4 rfl
theorem r126_23 (d : Nat) (x1 x2 : Int) (w3 : MV) : Ev prog clsT X d mc126 23 [(2, 0), (0, x1), (0, x2), w3] [] (mk E c s (hh g)) =
  (if cmpI .ge x2 10 = true then
  ((Call prog clsT X d 12 [(2, 65), (0, x1), (2, 60)] ((mk E c s (hh g)))).bind fun r1 => if r1.1.1 = 4 then none else
    Ev prog clsT X d mc126 78 [(2, 0), (0, x1), (0, x2), (3, 0)] (pushR r1.1 []) r1.2)
else
  ((Call prog clsT X d 84 [(2, 1), (0, x2)] ((mk E c s (hh g)))).bind fun r2 => if r2.1.1 = 4 then none else
    Ev prog clsT X d mc126 30 [(2, 0), (0, x1), (0, x2), (3, 0)] (pushR r2.1 []) r2.2)) :=
  (evk_at (r := (if cmpI .ge x2 10 = true then
  ((fget 5678 ((mk E c s (hh g))) 0).bind fun v1 =>
    (fget 5674 ((mk E c s (hh g))) 0).bind fun v2 =>
    (fget 18 ((mk E c s (hh g))) v2).bind fun v3 =>
    if (2 : Nat) = 2 ∧ rcv ((mk E c s (hh g))) v1 2 = true then
    ((Call prog clsT X d 12 [(2, v1), (0, x1), (2, v3)] ((mk E c s (hh g)))).bind fun r4 => if r4.1.1 = 4 then none else
    Ev prog clsT X d mc126 78 [(2, 0), (0, x1), (0, x2), (3, 0)] (pushR r4.1 []) r4.2) else none)
else
  ((fget 5634 ((mk E c s (hh g))) 0).bind fun v5 =>
    if (2 : Nat) = 2 ∧ rcv ((mk E c s (hh g))) v5 11 = true then
    ((Call prog clsT X d 84 [(2, v5), (0, x2)] ((mk E c s (hh g)))).bind fun r6 => if r6.1.1 = 4 then none else
    Ev prog clsT X d mc126 30 [(2, 0), (0, x1), (0, x2), (3, 0)] (pushR r6.1 []) r6.2) else none))) X [0, 4, 8, 21, 23, 30, 39, 78] 11 rfl).trans (by simp (disch := decide) only [F18_55, F5634_0, F5674_0, F5678_0, R1_11, R65_2, bindI, Option.bind_some, if_true_, and_self, ite_true, true_and, true_or, or_true])
theorem r126_78 (d : Nat) (x1 x2 s0 : Int) : Ev prog clsT X d mc126 78 [(2, 0), (0, x1), (0, x2), (3, 0)] [(0, s0)] (mk E c s (hh g)) =
  (if cmpI .eq s0 0 = true then
  (some ((0, 0), ((mk E c s (hh g)))))
else
  (some ((0, 1), ((mk E c s (hh g)))))) :=
  (evk_at (r := (if cmpI .eq s0 0 = true then
  (some ((0, 0), (mk E c s (hh g))))
else
  (some ((0, 1), (mk E c s (hh g)))))) X [0, 4, 8, 21, 23, 30, 39, 78] 5 rfl).trans (by simp (disch := decide) only [bindI, Option.bind_some, if_true_, and_self, ite_true, true_and, true_or, or_true])
theorem r127_0 (d : Nat) (x1 : Int) : Ev prog clsT X d mc127 0 [(2, 0), (0, x1), (3, 0), (3, 0)] [] (mk E c s (hh g)) =
  (Ev prog clsT X d mc127 6 [(2, 0), (0, x1), (0, 0), (3, 0)] [] (mk E c s (hh (up g 65 2 0)))) :=
  (evk_at (r := ((fget 5678 ((mk E c s (hh g))) 0).bind fun v1 =>
  (fput 520 ((mk E c s (hh g))) v1 0).bind fun M2 =>
  Ev prog clsT X d mc127 6 [(2, 0), (0, x1), (0, 0), (3, 0)] [] M2)) X [0, 6, 21, 40] 8 rfl).trans (by simp (disch := decide) only [F5678_0, W520_65, bindI, Option.bind_some, if_true_, and_self, ite_true, true_and, true_or, or_true])
theorem rc127_ (d : Nat) (x1 : Int) : Call prog clsT X (d + 1) 127 [(2, 0), (0, x1)] (mk E c s (hh g)) =
  (Ev prog clsT X d mc127 6 [(2, 0), (0, x1), (0, 0), (3, 0)] [] (mk E c s (hh (up g 65 2 0)))) :=
  (show Call prog clsT X (d + 1) 127 [(2, 0), (0, x1)] (mk E c s (hh g)) = Ev prog clsT X d mc127 0 [(2, 0), (0, x1), (3, 0), (3, 0)] [] (mk E c s (hh g)) from rfl).trans (r127_0 X E c s g d x1 )
theorem r127_6 (d : Nat) (x1 x2 : Int) (w3 : MV) : Ev prog clsT X d mc127 6 [(2, 0), (0, x1), (0, x2), w3] [] (mk E c s (hh g)) =
  (if cmpI .ge x2 10 = true then
  (some ((0, 1), ((mk E c s (hh g)))))
else
  (if inb x2 10 = true then
    (if cmpI .eq ((g 39 (Int.toNat x2))) ((-1)) = true then
    ((Call prog clsT X d 128 [(2, 0), (0, x2), (0, x1)] ((mk E c s (hh g)))).bind fun r1 => if r1.1.1 = 4 then none else
      Ev prog clsT X d mc127 21 [(2, 0), (0, x1), (0, x2), (3, 0)] (pushR r1.1 []) r1.2)
  else
    (Ev prog clsT X d mc127 40 [(2, 0), (0, x1), (0, x2), (3, 0)] [] (mk E c s (hh g))))
  else none)) :=
  (evk_at (r := (if cmpI .ge x2 10 = true then
  (some ((0, 1), (mk E c s (hh g))))
else
  ((fget 5662 ((mk E c s (hh g))) 0).bind fun v1 =>
    (fget 2058 ((mk E c s (hh g))) v1).bind fun v2 =>
    (aget X 100 ((mk E c s (hh g))) v2 x2).bind fun v3 =>
    if cmpI .eq v3 ((-1)) = true then
    (if (2 : Nat) = 2 ∧ rcv ((mk E c s (hh g))) 0 12 = true then
      ((Call prog clsT X d 128 [(2, 0), (0, x2), (0, x1)] ((mk E c s (hh g)))).bind fun r4 => if r4.1.1 = 4 then none else
      Ev prog clsT X d mc127 21 [(2, 0), (0, x1), (0, x2), (3, 0)] (pushR r4.1 []) r4.2) else none)
  else
    (Ev prog clsT X d mc127 40 [(2, 0), (0, x1), (0, x2), (3, 0)] [] (mk E c s (hh g)))))) X [0, 6, 21, 40] 15 rfl).trans (by simp (disch := decide) only [A39, F2058_36, F5662_0, R0_12, bindI, Option.bind_some, if_true_, and_self, ite_true, true_and, true_or, or_true])
theorem r127_21 (d : Nat) (x1 x2 s0 : Int) : Ev prog clsT X d mc127 21 [(2, 0), (0, x1), (0, x2), (3, 0)] [(0, s0)] (mk E c s (hh g)) =
  (if cmpI .gt s0 5 = true then
  (some ((0, 0), ((mk E c s (hh g)))))
else
  (if cmpI .le s0 0 = true then
    (if cmpI .le s0 0 = true then
      (Ev prog clsT X d mc127 40 [(2, 0), (0, x1), (0, x2), (0, s0)] [] (mk E c s (hh g)))
    else
      ((Call prog clsT X d 11 [(2, 65), (0, s0)] ((mk E c s (hh g)))).bind fun r1 => if r1.1.1 = 4 then none else
        Ev prog clsT X d mc127 40 [(2, 0), (0, x1), (0, x2), (0, s0)] (pushR r1.1 []) r1.2))
  else
    (if cmpI .lt ((g 65 2)) 3 = true then
      (if cmpI .le s0 0 = true then
        (Ev prog clsT X d mc127 40 [(2, 0), (0, x1), (0, x2), (0, s0)] [] (mk E c s (hh g)))
      else
        ((Call prog clsT X d 11 [(2, 65), (0, s0)] ((mk E c s (hh g)))).bind fun r2 => if r2.1.1 = 4 then none else
          Ev prog clsT X d mc127 40 [(2, 0), (0, x1), (0, x2), (0, s0)] (pushR r2.1 []) r2.2))
    else
      (some ((0, 0), ((mk E c s (hh g)))))))) :=
  (evk_at (r := (if cmpI .gt s0 5 = true then
  (some ((0, 0), (mk E c s (hh g))))
else
  (if cmpI .le s0 0 = true then
    (if cmpI .le s0 0 = true then
      (Ev prog clsT X d mc127 40 [(2, 0), (0, x1), (0, x2), (0, s0)] [] (mk E c s (hh g)))
    else
      ((fget 5678 ((mk E c s (hh g))) 0).bind fun v1 =>
        if (2 : Nat) = 2 ∧ rcv ((mk E c s (hh g))) v1 2 = true then
        ((Call prog clsT X d 11 [(2, v1), (0, s0)] ((mk E c s (hh g)))).bind fun r2 => if r2.1.1 = 4 then none else
        Ev prog clsT X d mc127 40 [(2, 0), (0, x1), (0, x2), (0, s0)] (pushR r2.1 []) r2.2) else none))
  else
    ((fget 5678 ((mk E c s (hh g))) 0).bind fun v3 =>
      (fget 520 ((mk E c s (hh g))) v3).bind fun v4 =>
      if cmpI .lt v4 3 = true then
      (if cmpI .le s0 0 = true then
        (Ev prog clsT X d mc127 40 [(2, 0), (0, x1), (0, x2), (0, s0)] [] (mk E c s (hh g)))
      else
        ((fget 5678 ((mk E c s (hh g))) 0).bind fun v5 =>
          if (2 : Nat) = 2 ∧ rcv ((mk E c s (hh g))) v5 2 = true then
          ((Call prog clsT X d 11 [(2, v5), (0, s0)] ((mk E c s (hh g)))).bind fun r6 => if r6.1.1 = 4 then none else
          Ev prog clsT X d mc127 40 [(2, 0), (0, x1), (0, x2), (0, s0)] (pushR r6.1 []) r6.2) else none))
    else
      (some ((0, 0), (mk E c s (hh g)))))))) X [0, 6, 21, 40] 18 rfl).trans (by simp (disch := decide) only [F520_65, F5678_0, R65_2, bindI, Option.bind_some, if_true_, and_self, ite_true, true_and, true_or, or_true])
theorem r127_40 (d : Nat) (x1 x2 : Int) (w3 : MV) : Ev prog clsT X d mc127 40 [(2, 0), (0, x1), (0, x2), w3] [] (mk E c s (hh g)) =
  (Ev prog clsT X d mc127 6 [(2, 0), (0, x1), (0, (w32 (x2 + 1))), w3] [] (mk E c s (hh g))) :=
  evk_at X [0, 6, 21, 40] 4 rfl
theorem r128_0 (d : Nat) (x1 x2 : Int) : Ev prog clsT X d mc128 0 [(2, 0), (0, x1), (0, x2), (3, 0), (3, 0), (3, 0), (3, 0)] [] (mk E c s (hh g)) =
  (Ev prog clsT X d mc128 4 [(2, 0), (0, x1), (0, x2), (0, 0), (0, 0), (3, 0), (3, 0)] [] (mk E c s (hh g))) :=
  evk_at X [0, 4, 9, 37, 42, 47, 50, 65] 6 rfl
theorem rc128_ (d : Nat) (x1 x2 : Int) : Call prog clsT X (d + 1) 128 [(2, 0), (0, x1), (0, x2)] (mk E c s (hh g)) =
  (Ev prog clsT X d mc128 4 [(2, 0), (0, x1), (0, x2), (0, 0), (0, 0), (3, 0), (3, 0)] [] (mk E c s (hh g))) :=
  (show Call prog clsT X (d + 1) 128 [(2, 0), (0, x1), (0, x2)] (mk E c s (hh g)) = Ev prog clsT X d mc128 0 [(2, 0), (0, x1), (0, x2), (3, 0), (3, 0), (3, 0), (3, 0)] [] (mk E c s (hh g)) from rfl).trans (r128_0 X E c s g d x1 x2 )
theorem r128_4 (d : Nat) (x1 x2 x3 x4 : Int) (w5 w6 : MV) : Ev prog clsT X d mc128 4 [(2, 0), (0, x1), (0, x2), (0, x3), (0, x4), w5, w6] [] (mk E c s (hh g)) =
  (if cmpI .ge x4 2 = true then
  (some ((0, x3), ((mk E c s (hh g)))))
else
  (Ev prog clsT X d mc128 9 [(2, 0), (0, x1), (0, x2), (0, x3), (0, x4), (0, 0), (3, 0)] [] (mk E c s (hh g)))) :=
  (evk_at (r := (if cmpI .ge x4 2 = true then
  (some ((0, x3), (mk E c s (hh g))))
else
  (Ev prog clsT X d mc128 9 [(2, 0), (0, x1), (0, x2), (0, x3), (0, x4), (0, 0), (3, 0)] [] (mk E c s (hh g))))) X [0, 4, 9, 37, 42, 47, 50, 65] 7 rfl).trans (by simp (disch := decide) only [bindI, Option.bind_some, if_true_, and_self, ite_true, true_and, true_or, or_true])
theorem r128_9 (d : Nat) (x1 x2 x3 x4 x5 : Int) (w6 : MV) : Ev prog clsT X d mc128 9 [(2, 0), (0, x1), (0, x2), (0, x3), (0, x4), (0, x5), w6] [] (mk E c s (hh g)) =
  (if cmpI .ge x5 ((g 30 0)) = true then
  (Ev prog clsT X d mc128 4 [(2, 0), (0, x1), (0, x2), (0, x3), (0, (w32 (x4 + 1))), (0, x5), (3, 0)] [] (mk E c s (hh g)))
else
  (if inb x5 40 = true then
    (if cmpI .ne ((g 32 (Int.toNat x5))) x2 = true then
    (if cmpI .ne x4 0 = true then
      (if cmpI .ne 0 0 = true then
        (Ev prog clsT X d mc128 9 [(2, 0), (0, x1), (0, x2), (0, x3), (0, x4), (0, (w32 (x5 + 1))), (0, (g 32 (Int.toNat x5)))] [] (mk E c s (hh g)))
      else
        ((Call prog clsT X d 22 [(2, 30), (0, x5), (0, x1)] ((mk E c s (hh g)))).bind fun r1 => if r1.1.1 = 4 then none else
          Ev prog clsT X d mc128 37 [(2, 0), (0, x1), (0, x2), (0, x3), (0, x4), (0, x5), (0, (g 32 (Int.toNat x5)))] (pushR r1.1 []) r1.2))
    else
      (if cmpI .ne 0 1 = true then
        (Ev prog clsT X d mc128 9 [(2, 0), (0, x1), (0, x2), (0, x3), (0, x4), (0, (w32 (x5 + 1))), (0, (g 32 (Int.toNat x5)))] [] (mk E c s (hh g)))
      else
        ((Call prog clsT X d 22 [(2, 30), (0, x5), (0, x1)] ((mk E c s (hh g)))).bind fun r2 => if r2.1.1 = 4 then none else
          Ev prog clsT X d mc128 37 [(2, 0), (0, x1), (0, x2), (0, x3), (0, x4), (0, x5), (0, (g 32 (Int.toNat x5)))] (pushR r2.1 []) r2.2)))
  else
    (if cmpI .ne x4 0 = true then
      (if cmpI .ne 1 0 = true then
        (Ev prog clsT X d mc128 9 [(2, 0), (0, x1), (0, x2), (0, x3), (0, x4), (0, (w32 (x5 + 1))), (0, (g 32 (Int.toNat x5)))] [] (mk E c s (hh g)))
      else
        ((Call prog clsT X d 22 [(2, 30), (0, x5), (0, x1)] ((mk E c s (hh g)))).bind fun r3 => if r3.1.1 = 4 then none else
          Ev prog clsT X d mc128 37 [(2, 0), (0, x1), (0, x2), (0, x3), (0, x4), (0, x5), (0, (g 32 (Int.toNat x5)))] (pushR r3.1 []) r3.2))
    else
      (if cmpI .ne 1 1 = true then
        (Ev prog clsT X d mc128 9 [(2, 0), (0, x1), (0, x2), (0, x3), (0, x4), (0, (w32 (x5 + 1))), (0, (g 32 (Int.toNat x5)))] [] (mk E c s (hh g)))
      else
        ((Call prog clsT X d 22 [(2, 30), (0, x5), (0, x1)] ((mk E c s (hh g)))).bind fun r4 => if r4.1.1 = 4 then none else
          Ev prog clsT X d mc128 37 [(2, 0), (0, x1), (0, x2), (0, x3), (0, x4), (0, x5), (0, (g 32 (Int.toNat x5)))] (pushR r4.1 []) r4.2))))
  else none)) :=
  (evk_at (r := ((fget 5658 ((mk E c s (hh g))) 0).bind fun v1 =>
  (fget 1024 ((mk E c s (hh g))) v1).bind fun v2 =>
  if cmpI .ge x5 v2 = true then
  (Ev prog clsT X d mc128 4 [(2, 0), (0, x1), (0, x2), (0, x3), (0, (w32 (x4 + 1))), (0, x5), (3, 0)] [] (mk E c s (hh g)))
else
  ((fget 5658 ((mk E c s (hh g))) 0).bind fun v3 =>
    (fget 1038 ((mk E c s (hh g))) v3).bind fun v4 =>
    (aget X 100 ((mk E c s (hh g))) v4 x5).bind fun v5 =>
    if cmpI .ne v5 x2 = true then
    (if cmpI .ne x4 0 = true then
      (if cmpI .ne 0 0 = true then
        (Ev prog clsT X d mc128 9 [(2, 0), (0, x1), (0, x2), (0, x3), (0, x4), (0, (w32 (x5 + 1))), (0, v5)] [] (mk E c s (hh g)))
      else
        ((fget 5658 ((mk E c s (hh g))) 0).bind fun v6 =>
          if (2 : Nat) = 2 ∧ rcv ((mk E c s (hh g))) v6 3 = true then
          ((Call prog clsT X d 22 [(2, v6), (0, x5), (0, x1)] ((mk E c s (hh g)))).bind fun r7 => if r7.1.1 = 4 then none else
          Ev prog clsT X d mc128 37 [(2, 0), (0, x1), (0, x2), (0, x3), (0, x4), (0, x5), (0, v5)] (pushR r7.1 []) r7.2) else none))
    else
      (if cmpI .ne 0 1 = true then
        (Ev prog clsT X d mc128 9 [(2, 0), (0, x1), (0, x2), (0, x3), (0, x4), (0, (w32 (x5 + 1))), (0, v5)] [] (mk E c s (hh g)))
      else
        ((fget 5658 ((mk E c s (hh g))) 0).bind fun v8 =>
          if (2 : Nat) = 2 ∧ rcv ((mk E c s (hh g))) v8 3 = true then
          ((Call prog clsT X d 22 [(2, v8), (0, x5), (0, x1)] ((mk E c s (hh g)))).bind fun r9 => if r9.1.1 = 4 then none else
          Ev prog clsT X d mc128 37 [(2, 0), (0, x1), (0, x2), (0, x3), (0, x4), (0, x5), (0, v5)] (pushR r9.1 []) r9.2) else none)))
  else
    (if cmpI .ne x4 0 = true then
      (if cmpI .ne 1 0 = true then
        (Ev prog clsT X d mc128 9 [(2, 0), (0, x1), (0, x2), (0, x3), (0, x4), (0, (w32 (x5 + 1))), (0, v5)] [] (mk E c s (hh g)))
      else
        ((fget 5658 ((mk E c s (hh g))) 0).bind fun v10 =>
          if (2 : Nat) = 2 ∧ rcv ((mk E c s (hh g))) v10 3 = true then
          ((Call prog clsT X d 22 [(2, v10), (0, x5), (0, x1)] ((mk E c s (hh g)))).bind fun r11 => if r11.1.1 = 4 then none else
          Ev prog clsT X d mc128 37 [(2, 0), (0, x1), (0, x2), (0, x3), (0, x4), (0, x5), (0, v5)] (pushR r11.1 []) r11.2) else none))
    else
      (if cmpI .ne 1 1 = true then
        (Ev prog clsT X d mc128 9 [(2, 0), (0, x1), (0, x2), (0, x3), (0, x4), (0, (w32 (x5 + 1))), (0, v5)] [] (mk E c s (hh g)))
      else
        ((fget 5658 ((mk E c s (hh g))) 0).bind fun v12 =>
          if (2 : Nat) = 2 ∧ rcv ((mk E c s (hh g))) v12 3 = true then
          ((Call prog clsT X d 22 [(2, v12), (0, x5), (0, x1)] ((mk E c s (hh g)))).bind fun r13 => if r13.1.1 = 4 then none else
          Ev prog clsT X d mc128 37 [(2, 0), (0, x1), (0, x2), (0, x3), (0, x4), (0, x5), (0, v5)] (pushR r13.1 []) r13.2) else none)))))) X [0, 4, 9, 37, 42, 47, 50, 65] 27 rfl).trans (by simp (disch := decide) only [A32, F1024_30, F1038_30, F5658_0, R30_3, bindI, Option.bind_some, if_true_, and_self, ite_true, true_and, true_or, or_true])
theorem r128_37 (d : Nat) (x1 x2 x3 x4 x5 x6 s0 : Int) : Ev prog clsT X d mc128 37 [(2, 0), (0, x1), (0, x2), (0, x3), (0, x4), (0, x5), (0, x6)] [(0, s0)] (mk E c s (hh g)) =
  (if cmpI .ne s0 0 = true then
  ((Call prog clsT X d 108 [(2, 0), (0, x5)] ((mk E c s (hh g)))).bind fun r1 => if r1.1.1 = 4 then none else
    Ev prog clsT X d mc128 42 [(2, 0), (0, x1), (0, x2), (0, x3), (0, x4), (0, x5), (0, x6)] (pushR r1.1 []) r1.2)
else
  (Ev prog clsT X d mc128 9 [(2, 0), (0, x1), (0, x2), (0, x3), (0, x4), (0, (w32 (x5 + 1))), (0, x6)] [] (mk E c s (hh g)))) :=
  (evk_at (r := (if cmpI .ne s0 0 = true then
  (if (2 : Nat) = 2 ∧ rcv ((mk E c s (hh g))) 0 12 = true then
    ((Call prog clsT X d 108 [(2, 0), (0, x5)] ((mk E c s (hh g)))).bind fun r1 => if r1.1.1 = 4 then none else
    Ev prog clsT X d mc128 42 [(2, 0), (0, x1), (0, x2), (0, x3), (0, x4), (0, x5), (0, x6)] (pushR r1.1 []) r1.2) else none)
else
  (Ev prog clsT X d mc128 9 [(2, 0), (0, x1), (0, x2), (0, x3), (0, x4), (0, (w32 (x5 + 1))), (0, x6)] [] (mk E c s (hh g))))) X [0, 4, 9, 37, 42, 47, 50, 65] 6 rfl).trans (by simp (disch := decide) only [R0_12, bindI, Option.bind_some, if_true_, and_self, ite_true, true_and, true_or, or_true])
theorem r128_42 (d : Nat) (x1 x2 x3 x4 x5 x6 : Int) : Ev prog clsT X d mc128 42 [(2, 0), (0, x1), (0, x2), (0, x3), (0, x4), (0, x5), (0, x6)] [] (mk E c s (hh g)) =
  ((Call prog clsT X d 97 [(2, 0), (0, x1)] ((mk E c s (hh g)))).bind fun r1 => if r1.1.1 = 4 then none else
  Ev prog clsT X d mc128 47 [(2, 0), (0, x1), (0, x2), (0, x3), (0, x4), (0, x5), (0, x6)] (pushR r1.1 [(2, 27)]) r1.2) :=
  (evk_at (r := ((fget 5654 ((mk E c s (hh g))) 0).bind fun v1 =>
  if (2 : Nat) = 2 ∧ rcv ((mk E c s (hh g))) 0 12 = true then
  ((Call prog clsT X d 97 [(2, 0), (0, x1)] ((mk E c s (hh g)))).bind fun r2 => if r2.1.1 = 4 then none else
  Ev prog clsT X d mc128 47 [(2, 0), (0, x1), (0, x2), (0, x3), (0, x4), (0, x5), (0, x6)] (pushR r2.1 [(2, v1)]) r2.2) else none)) X [0, 4, 9, 37, 42, 47, 50, 65] 6 rfl).trans (by simp (disch := decide) only [F5654_0, R0_12, bindI, Option.bind_some, if_true_, and_self, ite_true, true_and, true_or, or_true])
theorem r128_47 (d : Nat) (x1 x2 x3 x4 x5 x6 s1 : Int) : Ev prog clsT X d mc128 47 [(2, 0), (0, x1), (0, x2), (0, x3), (0, x4), (0, x5), (0, x6)] [(2, s1), (2, 27)] (mk E c s (hh g)) =
  ((Call prog clsT X d 72 [(2, 27), (2, s1), (2, (g 0 3))] ((mk E c s (hh g)))).bind fun r1 => if r1.1.1 = 4 then none else
  Ev prog clsT X d mc128 50 [(2, 0), (0, x1), (0, x2), (0, x3), (0, x4), (0, x5), (0, x6)] (pushR r1.1 []) r1.2) :=
  (evk_at (r := ((fget 5646 ((mk E c s (hh g))) 0).bind fun v1 =>
  if (2 : Nat) = 2 ∧ rcv ((mk E c s (hh g))) 27 9 = true then
  ((Call prog clsT X d 72 [(2, 27), (2, s1), (2, v1)] ((mk E c s (hh g)))).bind fun r2 => if r2.1.1 = 4 then none else
  Ev prog clsT X d mc128 50 [(2, 0), (0, x1), (0, x2), (0, x3), (0, x4), (0, x5), (0, x6)] (pushR r2.1 []) r2.2) else none)) X [0, 4, 9, 37, 42, 47, 50, 65] 4 rfl).trans (by simp (disch := decide) only [F5646_0, R27_9, bindI, Option.bind_some, if_true_, and_self, ite_true, true_and, true_or, or_true])
theorem r128_50 (d : Nat) (x1 x2 x3 x4 x5 x6 s0 : Int) : Ev prog clsT X d mc128 50 [(2, 0), (0, x1), (0, x2), (0, x3), (0, x4), (0, x5), (0, x6)] [(0, s0)] (mk E c s (hh g)) =
  (if cmpI .ne s0 ((-1)) = true then
  (Ev prog clsT X d mc128 9 [(2, 0), (0, x1), (0, x2), (0, x3), (0, x4), (0, (w32 (x5 + 1))), (0, x6)] [] (mk E c s (hh g)))
else
  (if inb x6 10 = true then
    (if cmpI .eq ((g 4 (Int.toNat x6))) 0 = true then
    ((Call prog clsT X d 10 [(2, 65), (0, x3), (0, x6)] ((mk E c s (hh g)))).bind fun r1 => if r1.1.1 = 4 then none else
      Ev prog clsT X d mc128 65 [(2, 0), (0, x1), (0, x2), (0, x3), (0, x4), (0, x5), (0, x6)] (pushR r1.1 []) r1.2)
  else
    ((Call prog clsT X d 10 [(2, 65), (0, x3), (0, 10)] ((mk E c s (hh g)))).bind fun r2 => if r2.1.1 = 4 then none else
      Ev prog clsT X d mc128 65 [(2, 0), (0, x1), (0, x2), (0, x3), (0, x4), (0, x5), (0, x6)] (pushR r2.1 []) r2.2))
  else none)) :=
  (evk_at (r := (if cmpI .ne s0 ((-1)) = true then
  (Ev prog clsT X d mc128 9 [(2, 0), (0, x1), (0, x2), (0, x3), (0, x4), (0, (w32 (x5 + 1))), (0, x6)] [] (mk E c s (hh g)))
else
  ((fget 5678 ((mk E c s (hh g))) 0).bind fun v1 =>
    (fget 5634 ((mk E c s (hh g))) 0).bind fun v2 =>
    (fget 5130 ((mk E c s (hh g))) v2).bind fun v3 =>
    (aget X 102 ((mk E c s (hh g))) v3 x6).bind fun v4 =>
    if cmpI .eq v4 0 = true then
    (if (2 : Nat) = 2 ∧ rcv ((mk E c s (hh g))) v1 2 = true then
      ((Call prog clsT X d 10 [(2, v1), (0, x3), (0, x6)] ((mk E c s (hh g)))).bind fun r5 => if r5.1.1 = 4 then none else
      Ev prog clsT X d mc128 65 [(2, 0), (0, x1), (0, x2), (0, x3), (0, x4), (0, x5), (0, x6)] (pushR r5.1 []) r5.2) else none)
  else
    (if (2 : Nat) = 2 ∧ rcv ((mk E c s (hh g))) v1 2 = true then
      ((Call prog clsT X d 10 [(2, v1), (0, x3), (0, 10)] ((mk E c s (hh g)))).bind fun r6 => if r6.1.1 = 4 then none else
      Ev prog clsT X d mc128 65 [(2, 0), (0, x1), (0, x2), (0, x3), (0, x4), (0, x5), (0, x6)] (pushR r6.1 []) r6.2) else none)))) X [0, 4, 9, 37, 42, 47, 50, 65] 15 rfl).trans (by simp (disch := decide) only [A4, F5130_1, F5634_0, F5678_0, R65_2, bindI, Option.bind_some, if_true_, and_self, ite_true, true_and, true_or, or_true])
theorem r128_65 (d : Nat) (x1 x2 x3 x4 x5 x6 : Int) : Ev prog clsT X d mc128 65 [(2, 0), (0, x1), (0, x2), (0, x3), (0, x4), (0, x5), (0, x6)] [] (mk E c s (hh g)) =
  (Ev prog clsT X d mc128 9 [(2, 0), (0, x1), (0, x2), (0, (w32 (x3 + 1))), (0, x4), (0, (w32 (x5 + 1))), (0, x6)] [] (mk E c s (hh g))) :=
  evk_at X [0, 4, 9, 37, 42, 47, 50, 65] 5 rfl
theorem r129_0 (d : Nat) (x1 x2 : Int) : Ev prog clsT X d mc129 0 [(2, 0), (0, x1), (0, x2), (3, 0), (3, 0), (3, 0)] [] (mk E c s (hh g)) =
  ((Call prog clsT X d 19 [(2, 30), (0, x1)] ((mk E c s (hh g)))).bind fun r1 => if r1.1.1 = 4 then none else
  Ev prog clsT X d mc129 4 [(2, 0), (0, x1), (0, x2), (3, 0), (3, 0), (3, 0)] (pushR r1.1 []) r1.2) :=
  (evk_at (r := ((fget 5658 ((mk E c s (hh g))) 0).bind fun v1 =>
  if (2 : Nat) = 2 ∧ rcv ((mk E c s (hh g))) v1 3 = true then
  ((Call prog clsT X d 19 [(2, v1), (0, x1)] ((mk E c s (hh g)))).bind fun r2 => if r2.1.1 = 4 then none else
  Ev prog clsT X d mc129 4 [(2, 0), (0, x1), (0, x2), (3, 0), (3, 0), (3, 0)] (pushR r2.1 []) r2.2) else none)) X [0, 4, 9, 25, 28, 45, 49, 63, 65] 5 rfl).trans (by simp (disch := decide) only [F5658_0, R30_3, bindI, Option.bind_some, if_true_, and_self, ite_true, true_and, true_or, or_true])
theorem rc129_ (d : Nat) (x1 x2 : Int) : Call prog clsT X (d + 1) 129 [(2, 0), (0, x1), (0, x2)] (mk E c s (hh g)) =
  ((Call prog clsT X d 19 [(2, 30), (0, x1)] ((mk E c s (hh g)))).bind fun r1 => if r1.1.1 = 4 then none else
  Ev prog clsT X d mc129 4 [(2, 0), (0, x1), (0, x2), (3, 0), (3, 0), (3, 0)] (pushR r1.1 []) r1.2) :=
  (show Call prog clsT X (d + 1) 129 [(2, 0), (0, x1), (0, x2)] (mk E c s (hh g)) = Ev prog clsT X d mc129 0 [(2, 0), (0, x1), (0, x2), (3, 0), (3, 0), (3, 0)] [] (mk E c s (hh g)) from rfl).trans (r129_0 X E c s g d x1 x2 )
theorem r129_4 (d : Nat) (x1 x2 s0 : Int) : Ev prog clsT X d mc129 4 [(2, 0), (0, x1), (0, x2), (3, 0), (3, 0), (3, 0)] [(0, s0)] (mk E c s (hh g)) =
  (if cmpI .eq s0 0 = true then
  (some ((0, (-1)), ((mk E c s (hh g)))))
else
  ((Call prog clsT X d 90 [(0, x2), (0, 0), (0, 1)] ((mk E c s (hh g)))).bind fun r1 => if r1.1.1 = 4 then none else
    Ev prog clsT X d mc129 9 [(2, 0), (0, x1), (0, x2), (3, 0), (3, 0), (3, 0)] (pushR r1.1 []) r1.2)) :=
  (evk_at (r := (if cmpI .eq s0 0 = true then
  (some ((0, (-1)), (mk E c s (hh g))))
else
  ((Call prog clsT X d 90 [(0, x2), (0, 0), (0, 1)] ((mk E c s (hh g)))).bind fun r1 => if r1.1.1 = 4 then none else
    Ev prog clsT X d mc129 9 [(2, 0), (0, x1), (0, x2), (3, 0), (3, 0), (3, 0)] (pushR r1.1 []) r1.2))) X [0, 4, 9, 25, 28, 45, 49, 63, 65] 6 rfl).trans (by simp (disch := decide) only [bindI, Option.bind_some, if_true_, and_self, ite_true, true_and, true_or, or_true])
theorem r129_9 (d : Nat) (x1 x2 s0 : Int) : Ev prog clsT X d mc129 9 [(2, 0), (0, x1), (0, x2), (3, 0), (3, 0), (3, 0)] [(0, s0)] (mk E c s (hh g)) =
  (if cmpI .ne s0 0 = true then
  (if cmpI .ne x2 0 = true then
    ((Call prog clsT X d 123 [(2, 0)] ((mk E c s (hh (up g 30 1 ((land64 ((g 30 1)) ((lxor64 ((lshl64 1 x1)) ((-1))))))))))).bind fun r1 => if r1.1.1 = 4 then none else
      Ev prog clsT X d mc129 63 [(2, 0), (0, x1), (0, x2), (1, (g 30 1)), (3, 0), (3, 0)] (pushR r1.1 []) r1.2)
  else
    (if inb x1 40 = true then
      ((Call prog clsT X d 130 [(2, 0), (0, (g 31 (Int.toNat x1)))] ((mk E c s (hh g)))).bind fun r2 => if r2.1.1 = 4 then none else
      Ev prog clsT X d mc129 25 [(2, 0), (0, x1), (0, x2), (1, (g 30 1)), (3, 0), (3, 0)] (pushR r2.1 []) r2.2)
    else none))
else
  (some ((0, (-1)), ((mk E c s (hh g)))))) :=
  (evk_at (r := (if cmpI .ne s0 0 = true then
  ((fget 5658 ((mk E c s (hh g))) 0).bind fun v1 =>
    (fget 1029 ((mk E c s (hh g))) v1).bind fun v2 =>
    if cmpI .ne x2 0 = true then
    ((fget 5658 ((mk E c s (hh g))) 0).bind fun v3 =>
      (fput 1029 ((mk E c s (hh g))) v3 ((land64 v2 ((lxor64 ((lshl64 1 x1)) ((-1))))))).bind fun M4 =>
      if (2 : Nat) = 2 ∧ rcv M4 0 12 = true then
      ((Call prog clsT X d 123 [(2, 0)] M4).bind fun r5 => if r5.1.1 = 4 then none else
      Ev prog clsT X d mc129 63 [(2, 0), (0, x1), (0, x2), (1, v2), (3, 0), (3, 0)] (pushR r5.1 []) r5.2) else none)
  else
    ((fget 5658 ((mk E c s (hh g))) 0).bind fun v6 =>
      (fget 1034 ((mk E c s (hh g))) v6).bind fun v7 =>
      (aget X 100 ((mk E c s (hh g))) v7 x1).bind fun v8 =>
      if (2 : Nat) = 2 ∧ rcv ((mk E c s (hh g))) 0 12 = true then
      ((Call prog clsT X d 130 [(2, 0), (0, v8)] ((mk E c s (hh g)))).bind fun r9 => if r9.1.1 = 4 then none else
      Ev prog clsT X d mc129 25 [(2, 0), (0, x1), (0, x2), (1, v2), (3, 0), (3, 0)] (pushR r9.1 []) r9.2) else none))
else
  (some ((0, (-1)), (mk E c s (hh g)))))) X [0, 4, 9, 25, 28, 45, 49, 63, 65] 20 rfl).trans (by simp (disch := decide) only [A31, F1029_30, F1034_30, F5658_0, R0_12, W1029_30, bindI, Option.bind_some, if_true_, and_self, ite_true, true_and, true_or, or_true])
theorem r129_25 (d : Nat) (x1 x2 x3 : Int) : Ev prog clsT X d mc129 25 [(2, 0), (0, x1), (0, x2), (1, x3), (3, 0), (3, 0)] [] (mk E c s (hh g)) =
  ((Call prog clsT X d 7 [(2, 55)] ((mk E c s (hh g)))).bind fun r1 => if r1.1.1 = 4 then none else
  Ev prog clsT X d mc129 28 [(2, 0), (0, x1), (0, x2), (1, x3), (3, 0), (3, 0)] (pushR r1.1 []) r1.2) :=
  (evk_at (r := ((fget 5674 ((mk E c s (hh g))) 0).bind fun v1 =>
  if (2 : Nat) = 2 ∧ rcv ((mk E c s (hh g))) v1 1 = true then
  ((Call prog clsT X d 7 [(2, v1)] ((mk E c s (hh g)))).bind fun r2 => if r2.1.1 = 4 then none else
  Ev prog clsT X d mc129 28 [(2, 0), (0, x1), (0, x2), (1, x3), (3, 0), (3, 0)] (pushR r2.1 []) r2.2) else none)) X [0, 4, 9, 25, 28, 45, 49, 63, 65] 4 rfl).trans (by simp (disch := decide) only [F5674_0, R55_1, bindI, Option.bind_some, if_true_, and_self, ite_true, true_and, true_or, or_true])
theorem r129_28 (d : Nat) (x1 x2 x3 : Int) : Ev prog clsT X d mc129 28 [(2, 0), (0, x1), (0, x2), (1, x3), (3, 0), (3, 0)] [] (mk E c s (hh g)) =
  (if inb x1 40 = true then
  ((Call prog clsT X d 130 [(2, 0), (0, (g 31 (Int.toNat x1)))] ((mk E c s (hh (up g 30 1 ((land64 x3 ((lxor64 ((lshl64 1 x1)) ((-1))))))))))).bind fun r1 => if r1.1.1 = 4 then none else
  Ev prog clsT X d mc129 45 [(2, 0), (0, x1), (0, x2), (1, x3), (3, 0), (3, 0)] (pushR r1.1 []) r1.2)
else none) :=
  (evk_at (r := ((fget 5658 ((mk E c s (hh g))) 0).bind fun v1 =>
  (fput 1029 ((mk E c s (hh g))) v1 ((land64 x3 ((lxor64 ((lshl64 1 x1)) ((-1))))))).bind fun M2 =>
  (fget 5658 M2 0).bind fun v3 =>
  (fget 1034 M2 v3).bind fun v4 =>
  (aget X 100 M2 v4 x1).bind fun v5 =>
  if (2 : Nat) = 2 ∧ rcv M2 0 12 = true then
  ((Call prog clsT X d 130 [(2, 0), (0, v5)] M2).bind fun r6 => if r6.1.1 = 4 then none else
  Ev prog clsT X d mc129 45 [(2, 0), (0, x1), (0, x2), (1, x3), (3, 0), (3, 0)] (pushR r6.1 []) r6.2) else none)) X [0, 4, 9, 25, 28, 45, 49, 63, 65] 18 rfl).trans (by simp (disch := decide) only [A31, F1034_30, F5658_0, R0_12, W1029_30, cpy_cell, up_cell, bindI, Option.bind_some, if_true_, and_self, ite_true, true_and, true_or, or_true])
theorem r129_45 (d : Nat) (x1 x2 x3 : Int) : Ev prog clsT X d mc129 45 [(2, 0), (0, x1), (0, x2), (1, x3), (3, 0), (3, 0)] [] (mk E c s (hh g)) =
  ((Call prog clsT X d 8 [(2, 55), (0, x1)] ((mk E c s (hh g)))).bind fun r1 => if r1.1.1 = 4 then none else
  Ev prog clsT X d mc129 49 [(2, 0), (0, x1), (0, x2), (1, x3), (3, 0), (3, 0)] (pushR r1.1 []) r1.2) :=
  (evk_at (r := ((fget 5674 ((mk E c s (hh g))) 0).bind fun v1 =>
  if (2 : Nat) = 2 ∧ rcv ((mk E c s (hh g))) v1 1 = true then
  ((Call prog clsT X d 8 [(2, v1), (0, x1)] ((mk E c s (hh g)))).bind fun r2 => if r2.1.1 = 4 then none else
  Ev prog clsT X d mc129 49 [(2, 0), (0, x1), (0, x2), (1, x3), (3, 0), (3, 0)] (pushR r2.1 []) r2.2) else none)) X [0, 4, 9, 25, 28, 45, 49, 63, 65] 5 rfl).trans (by simp (disch := decide) only [F5674_0, R55_1, bindI, Option.bind_some, if_true_, and_self, ite_true, true_and, true_or, or_true])
theorem r129_49 (d : Nat) (x1 x2 x3 s0 : Int) : Ev prog clsT X d mc129 49 [(2, 0), (0, x1), (0, x2), (1, x3), (3, 0), (3, 0)] [(0, s0)] (mk E c s (hh g)) =
  (some ((0, s0), ((mk E c s (hh (up g 30 1 x3)))))) :=
  (evk_at (r := ((fget 5658 ((mk E c s (hh g))) 0).bind fun v1 =>
  (fput 1029 ((mk E c s (hh g))) v1 x3).bind fun M2 =>
  some ((0, s0), M2))) X [0, 4, 9, 25, 28, 45, 49, 63, 65] 9 rfl).trans (by simp (disch := decide) only [F5658_0, W1029_30, bindI, Option.bind_some, if_true_, and_self, ite_true, true_and, true_or, or_true])
theorem r129_63 (d : Nat) (x1 x2 x3 : Int) : Ev prog clsT X d mc129 63 [(2, 0), (0, x1), (0, x2), (1, x3), (3, 0), (3, 0)] [] (mk E c s (hh g)) =
  ((Call prog clsT X d 125 [(2, 0)] ((mk E c s (hh g)))).bind fun r1 => if r1.1.1 = 4 then none else
  Ev prog clsT X d mc129 65 [(2, 0), (0, x1), (0, x2), (1, x3), (3, 0), (3, 0)] (pushR r1.1 []) r1.2) :=
  (evk_at (r := (if (2 : Nat) = 2 ∧ rcv ((mk E c s (hh g))) 0 12 = true then
  ((Call prog clsT X d 125 [(2, 0)] ((mk E c s (hh g)))).bind fun r1 => if r1.1.1 = 4 then none else
  Ev prog clsT X d mc129 65 [(2, 0), (0, x1), (0, x2), (1, x3), (3, 0), (3, 0)] (pushR r1.1 []) r1.2) else none)) X [0, 4, 9, 25, 28, 45, 49, 63, 65] 3 rfl).trans (by simp (disch := decide) only [R0_12, bindI, Option.bind_some, if_true_, and_self, ite_true, true_and, true_or, or_true])
theorem r129_65 (d : Nat) (x1 x2 x3 s0 : Int) : Ev prog clsT X d mc129 65 [(2, 0), (0, x1), (0, x2), (1, x3), (3, 0), (3, 0)] [(0, s0)] (mk E c s (hh g)) =
  (some ((0, s0), ((mk E c s (hh (up g 30 1 x3)))))) :=
  (evk_at (r := ((fget 5658 ((mk E c s (hh g))) 0).bind fun v1 =>
  (fput 1029 ((mk E c s (hh g))) v1 x3).bind fun M2 =>
  some ((0, s0), M2))) X [0, 4, 9, 25, 28, 45, 49, 63, 65] 8 rfl).trans (by simp (disch := decide) only [F5658_0, W1029_30, bindI, Option.bind_some, if_true_, and_self, ite_true, true_and, true_or, or_true])
theorem r130_0 (d : Nat) (x1 : Int) : Ev prog clsT X d mc130 0 [(2, 0), (0, x1)] [] (mk E c s (hh g)) =
  (if inb x1 10 = true then
  (if cmpI .ne ((g 39 (Int.toNat x1))) ((-1)) = true then
  (if inb x1 10 = true then
    ((Call prog clsT X d 107 [(2, 0), (0, x1), (0, (g 39 (Int.toNat x1)))] ((mk E c s (hh g)))).bind fun r1 => if r1.1.1 = 4 then none else
    Ev prog clsT X d mc130 19 [(2, 0), (0, x1)] (pushR r1.1 []) r1.2)
  else none)
else
  ((Call prog clsT X d 1 [(2, 55)] ((mk E c s (hh g)))).bind fun r2 => if r2.1.1 = 4 then none else
    Ev prog clsT X d mc130 10 [(2, 0), (0, x1)] (pushR r2.1 []) r2.2))
else none) :=
  (evk_at (r := ((fget 5662 ((mk E c s (hh g))) 0).bind fun v1 =>
  (fget 2058 ((mk E c s (hh g))) v1).bind fun v2 =>
  (aget X 100 ((mk E c s (hh g))) v2 x1).bind fun v3 =>
  if cmpI .ne v3 ((-1)) = true then
  ((fget 5662 ((mk E c s (hh g))) 0).bind fun v4 =>
    (fget 2058 ((mk E c s (hh g))) v4).bind fun v5 =>
    (aget X 100 ((mk E c s (hh g))) v5 x1).bind fun v6 =>
    if (2 : Nat) = 2 ∧ rcv ((mk E c s (hh g))) 0 12 = true then
    ((Call prog clsT X d 107 [(2, 0), (0, x1), (0, v6)] ((mk E c s (hh g)))).bind fun r7 => if r7.1.1 = 4 then none else
    Ev prog clsT X d mc130 19 [(2, 0), (0, x1)] (pushR r7.1 []) r7.2) else none)
else
  ((fget 5674 ((mk E c s (hh g))) 0).bind fun v8 =>
    if (2 : Nat) = 2 ∧ rcv ((mk E c s (hh g))) v8 1 = true then
    ((Call prog clsT X d 1 [(2, v8)] ((mk E c s (hh g)))).bind fun r9 => if r9.1.1 = 4 then none else
    Ev prog clsT X d mc130 10 [(2, 0), (0, x1)] (pushR r9.1 []) r9.2) else none))) X [0, 10, 19] 16 rfl).trans (by simp (disch := decide) only [A39, F2058_36, F5662_0, F5674_0, R0_12, R55_1, bindI, Option.bind_some, if_true_, and_self, ite_true, true_and, true_or, or_true])
theorem rc130_ (d : Nat) (x1 : Int) : Call prog clsT X (d + 1) 130 [(2, 0), (0, x1)] (mk E c s (hh g)) =
  (if inb x1 10 = true then
  (if cmpI .ne ((g 39 (Int.toNat x1))) ((-1)) = true then
  (if inb x1 10 = true then
    ((Call prog clsT X d 107 [(2, 0), (0, x1), (0, (g 39 (Int.toNat x1)))] ((mk E c s (hh g)))).bind fun r1 => if r1.1.1 = 4 then none else
    Ev prog clsT X d mc130 19 [(2, 0), (0, x1)] (pushR r1.1 []) r1.2)
  else none)
else
  ((Call prog clsT X d 1 [(2, 55)] ((mk E c s (hh g)))).bind fun r2 => if r2.1.1 = 4 then none else
    Ev prog clsT X d mc130 10 [(2, 0), (0, x1)] (pushR r2.1 []) r2.2))
else none) :=
  (show Call prog clsT X (d + 1) 130 [(2, 0), (0, x1)] (mk E c s (hh g)) = Ev prog clsT X d mc130 0 [(2, 0), (0, x1)] [] (mk E c s (hh g)) from rfl).trans (r130_0 X E c s g d x1 )
theorem r130_10 (d : Nat) (x1 : Int) : Ev prog clsT X d mc130 10 [(2, 0), (0, x1)] [] (mk E c s (hh g)) =
  (Ev prog clsT X d mc130 19 [(2, 0), (0, x1)] [] (mk E c s (hh g))) :=
  evk_at X [0, 10, 19] 3 rfl
theorem r130_19 (d : Nat) (x1 : Int) : Ev prog clsT X d mc130 19 [(2, 0), (0, x1)] [] (mk E c s (hh g)) =
  (some ((3, 0), ((mk E c s (hh g))))) :=
  (evk_at (r := (some ((3, 0), (mk E c s (hh g))))) X [0, 10, 19] 2 rfl).trans (by simp (disch := decide) only [bindI, Option.bind_some, if_true_, and_self, ite_true, true_and, true_or, or_true])
theorem r131_0 (d : Nat) (x1 x2 x3 : Int) : Ev prog clsT X d mc131 0 [(2, 0), (0, x1), (0, x2), (0, x3)] [] (mk E c s (hh g)) =
  ((Call prog clsT X d 90 [(0, x1), (0, 0), (0, 9)] ((mk E c s (hh g)))).bind fun r1 => if r1.1.1 = 4 then none else
  Ev prog clsT X d mc131 4 [(2, 0), (0, x1), (0, x2), (0, x3)] (pushR r1.1 []) r1.2) :=
  evk_at X [0, 4, 9, 14] 5 rfl
theorem rc131_ (d : Nat) (x1 x2 x3 : Int) : Call prog clsT X (d + 1) 131 [(2, 0), (0, x1), (0, x2), (0, x3)] (mk E c s (hh g)) =
  ((Call prog clsT X d 90 [(0, x1), (0, 0), (0, 9)] ((mk E c s (hh g)))).bind fun r1 => if r1.1.1 = 4 then none else
  Ev prog clsT X d mc131 4 [(2, 0), (0, x1), (0, x2), (0, x3)] (pushR r1.1 []) r1.2) :=
  (show Call prog clsT X (d + 1) 131 [(2, 0), (0, x1), (0, x2), (0, x3)] (mk E c s (hh g)) = Ev prog clsT X d mc131 0 [(2, 0), (0, x1), (0, x2), (0, x3)] [] (mk E c s (hh g)) from rfl).trans (r131_0 X E c s g d x1 x2 x3 )
theorem r131_4 (d : Nat) (x1 x2 x3 s0 : Int) : Ev prog clsT X d mc131 4 [(2, 0), (0, x1), (0, x2), (0, x3)] [(0, s0)] (mk E c s (hh g)) =
  (if cmpI .eq s0 0 = true then
  (some ((0, 0), ((mk E c s (hh g)))))
else
  ((Call prog clsT X d 90 [(0, x2), (0, 0), (0, 4)] ((mk E c s (hh g)))).bind fun r1 => if r1.1.1 = 4 then none else
    Ev prog clsT X d mc131 9 [(2, 0), (0, x1), (0, x2), (0, x3)] (pushR r1.1 []) r1.2)) :=
  (evk_at (r := (if cmpI .eq s0 0 = true then
  (some ((0, 0), (mk E c s (hh g))))
else
  ((Call prog clsT X d 90 [(0, x2), (0, 0), (0, 4)] ((mk E c s (hh g)))).bind fun r1 => if r1.1.1 = 4 then none else
    Ev prog clsT X d mc131 9 [(2, 0), (0, x1), (0, x2), (0, x3)] (pushR r1.1 []) r1.2))) X [0, 4, 9, 14] 6 rfl).trans (by simp (disch := decide) only [bindI, Option.bind_some, if_true_, and_self, ite_true, true_and, true_or, or_true])
theorem r131_9 (d : Nat) (x1 x2 x3 s0 : Int) : Ev prog clsT X d mc131 9 [(2, 0), (0, x1), (0, x2), (0, x3)] [(0, s0)] (mk E c s (hh g)) =
  (if cmpI .eq s0 0 = true then
  (some ((0, 0), ((mk E c s (hh g)))))
else
  ((Call prog clsT X d 90 [(0, x3), (0, (-1)), (0, 99)] ((mk E c s (hh g)))).bind fun r1 => if r1.1.1 = 4 then none else
    Ev prog clsT X d mc131 14 [(2, 0), (0, x1), (0, x2), (0, x3)] (pushR r1.1 []) r1.2)) :=
  (evk_at (r := (if cmpI .eq s0 0 = true then
  (some ((0, 0), (mk E c s (hh g))))
else
  ((Call prog clsT X d 90 [(0, x3), (0, (-1)), (0, 99)] ((mk E c s (hh g)))).bind fun r1 => if r1.1.1 = 4 then none else
    Ev prog clsT X d mc131 14 [(2, 0), (0, x1), (0, x2), (0, x3)] (pushR r1.1 []) r1.2))) X [0, 4, 9, 14] 6 rfl).trans (by simp (disch := decide) only [bindI, Option.bind_some, if_true_, and_self, ite_true, true_and, true_or, or_true])
theorem r132_0 (d : Nat) (x1 x2 : Int) : Ev prog clsT X d mc132 0 [(2, 0), (0, x1), (0, x2), (3, 0)] [] (mk E c s (hh g)) =
  ((Call prog clsT X d 97 [(2, 0), (0, x1)] ((mk E c s (hh g)))).bind fun r1 => if r1.1.1 = 4 then none else
  Ev prog clsT X d mc132 3 [(2, 0), (0, x1), (0, x2), (3, 0)] (pushR r1.1 []) r1.2) :=
  (evk_at (r := (if (2 : Nat) = 2 ∧ rcv ((mk E c s (hh g))) 0 12 = true then
  ((Call prog clsT X d 97 [(2, 0), (0, x1)] ((mk E c s (hh g)))).bind fun r1 => if r1.1.1 = 4 then none else
  Ev prog clsT X d mc132 3 [(2, 0), (0, x1), (0, x2), (3, 0)] (pushR r1.1 []) r1.2) else none)) X [0, 3, 10, 19, 25] 4 rfl).trans (by simp (disch := decide) only [R0_12, bindI, Option.bind_some, if_true_, and_self, ite_true, true_and, true_or, or_true])
theorem rc132_ (d : Nat) (x1 x2 : Int) : Call prog clsT X (d + 1) 132 [(2, 0), (0, x1), (0, x2)] (mk E c s (hh g)) =
  ((Call prog clsT X d 97 [(2, 0), (0, x1)] ((mk E c s (hh g)))).bind fun r1 => if r1.1.1 = 4 then none else
  Ev prog clsT X d mc132 3 [(2, 0), (0, x1), (0, x2), (3, 0)] (pushR r1.1 []) r1.2) :=
  (show Call prog clsT X (d + 1) 132 [(2, 0), (0, x1), (0, x2)] (mk E c s (hh g)) = Ev prog clsT X d mc132 0 [(2, 0), (0, x1), (0, x2), (3, 0)] [] (mk E c s (hh g)) from rfl).trans (r132_0 X E c s g d x1 x2 )
theorem r132_3 (d : Nat) (x1 x2 s0 : Int) : Ev prog clsT X d mc132 3 [(2, 0), (0, x1), (0, x2), (3, 0)] [(2, s0)] (mk E c s (hh g)) =
  (if (2 : Nat) = 2 ∧ s0 ≠ -5 then (if (decide (s0 = -1)) = true then
  (some ((0, (-1)), ((mk E c s (hh g)))))
else
  ((Call prog clsT X d 90 [(0, x2), (0, 0), (0, 1)] ((mk E c s (hh g)))).bind fun r1 => if r1.1.1 = 4 then none else
    Ev prog clsT X d mc132 10 [(2, 0), (0, x1), (0, x2), (2, s0)] (pushR r1.1 []) r1.2)) else none) :=
  (evk_at (r := (if (2 : Nat) = 2 ∧ s0 ≠ -5 then (if (decide (s0 = -1)) = true then
  (some ((0, (-1)), (mk E c s (hh g))))
else
  ((Call prog clsT X d 90 [(0, x2), (0, 0), (0, 1)] ((mk E c s (hh g)))).bind fun r1 => if r1.1.1 = 4 then none else
    Ev prog clsT X d mc132 10 [(2, 0), (0, x1), (0, x2), (2, s0)] (pushR r1.1 []) r1.2)) else none)) X [0, 3, 10, 19, 25] 8 rfl).trans (by simp (disch := decide) only [bindI, Option.bind_some, if_true_, and_self, ite_true, true_and, true_or, or_true])
theorem r132_10 (d : Nat) (x1 x2 x3 s0 : Int) : Ev prog clsT X d mc132 10 [(2, 0), (0, x1), (0, x2), (2, x3)] [(0, s0)] (mk E c s (hh g)) =
  (if cmpI .ne s0 0 = true then
  (if cmpI .ne x2 0 = true then
    ((fget 3588 ((mk E c s (hh g))) x3).bind fun v1 =>
      (Call prog clsT X d 134 [(2, 0), (0, x1), (0, v1)] ((mk E c s (hh g)))).bind fun r2 => if r2.1.1 = 4 then none else
      Ev prog clsT X d mc132 25 [(2, 0), (0, x1), (0, x2), (2, x3)] (pushR r2.1 []) r2.2)
  else
    ((Call prog clsT X d 133 [(2, 0), (0, x1), (2, x3)] ((mk E c s (hh g)))).bind fun r3 => if r3.1.1 = 4 then none else
      Ev prog clsT X d mc132 19 [(2, 0), (0, x1), (0, x2), (2, x3)] (pushR r3.1 []) r3.2))
else
  (some ((0, (-1)), ((mk E c s (hh g)))))) :=
  (evk_at (r := (if cmpI .ne s0 0 = true then
  (if cmpI .ne x2 0 = true then
    ((fget 3588 ((mk E c s (hh g))) x3).bind fun v1 =>
      if (2 : Nat) = 2 ∧ rcv ((mk E c s (hh g))) 0 12 = true then
      ((Call prog clsT X d 134 [(2, 0), (0, x1), (0, v1)] ((mk E c s (hh g)))).bind fun r2 => if r2.1.1 = 4 then none else
      Ev prog clsT X d mc132 25 [(2, 0), (0, x1), (0, x2), (2, x3)] (pushR r2.1 []) r2.2) else none)
  else
    (if (2 : Nat) = 2 ∧ rcv ((mk E c s (hh g))) 0 12 = true then
      ((Call prog clsT X d 133 [(2, 0), (0, x1), (2, x3)] ((mk E c s (hh g)))).bind fun r3 => if r3.1.1 = 4 then none else
      Ev prog clsT X d mc132 19 [(2, 0), (0, x1), (0, x2), (2, x3)] (pushR r3.1 []) r3.2) else none))
else
  (some ((0, (-1)), (mk E c s (hh g)))))) X [0, 3, 10, 19, 25] 9 rfl).trans (by simp (disch := decide) only [R0_12, bindI, Option.bind_some, if_true_, and_self, ite_true, true_and, true_or, or_true])
theorem r132_19 (d : Nat) (x1 x2 x3 s0 : Int) : Ev prog clsT X d mc132 19 [(2, 0), (0, x1), (0, x2), (2, x3)] [(0, s0)] (mk E c s (hh g)) =
  (Ev prog clsT X d mc132 25 [(2, 0), (0, x1), (0, x2), (2, x3)] [(0, s0)] (mk E c s (hh g))) :=
  evk_at X [0, 3, 10, 19, 25] 3 rfl
theorem r132_25 (d : Nat) (x1 x2 x3 s0 : Int) : Ev prog clsT X d mc132 25 [(2, 0), (0, x1), (0, x2), (2, x3)] [(0, s0)] (mk E c s (hh g)) =
  (some ((0, s0), ((mk E c s (hh g))))) :=
  (evk_at (r := (some ((0, s0), (mk E c s (hh g))))) X [0, 3, 10, 19, 25] 2 rfl).trans (by simp (disch := decide) only [bindI, Option.bind_some, if_true_, and_self, ite_true, true_and, true_or, or_true])
theorem r133_0 (d : Nat) (x1 x2 : Int) : Ev prog clsT X d mc133 0 [(2, 0), (0, x1), (2, x2), (3, 0)] [] (mk E c s (hh g)) =
  ((Call prog clsT X d 24 [(2, 30), (0, x1)] ((mk E c s (hh g)))).bind fun r1 => if r1.1.1 = 4 then none else
  Ev prog clsT X d mc133 9 [(2, 0), (0, x1), (2, x2), (3, 0)] (pushR r1.1 [(0, x1), (2, 40), (2, 27)]) r1.2) :=
  (evk_at (r := ((fget 5654 ((mk E c s (hh g))) 0).bind fun v1 =>
  (fget 5666 ((mk E c s (hh g))) 0).bind fun v2 =>
  (fget 5658 ((mk E c s (hh g))) 0).bind fun v3 =>
  if (2 : Nat) = 2 ∧ rcv ((mk E c s (hh g))) v3 3 = true then
  ((Call prog clsT X d 24 [(2, v3), (0, x1)] ((mk E c s (hh g)))).bind fun r4 => if r4.1.1 = 4 then none else
  Ev prog clsT X d mc133 9 [(2, 0), (0, x1), (2, x2), (3, 0)] (pushR r4.1 [(0, x1), (2, v2), (2, v1)]) r4.2) else none)) X [0, 9, 11, 13, 22] 10 rfl).trans (by simp (disch := decide) only [F5654_0, F5658_0, F5666_0, R30_3, bindI, Option.bind_some, if_true_, and_self, ite_true, true_and, true_or, or_true])
theorem rc133_ (d : Nat) (x1 x2 : Int) : Call prog clsT X (d + 1) 133 [(2, 0), (0, x1), (2, x2)] (mk E c s (hh g)) =
  ((Call prog clsT X d 24 [(2, 30), (0, x1)] ((mk E c s (hh g)))).bind fun r1 => if r1.1.1 = 4 then none else
  Ev prog clsT X d mc133 9 [(2, 0), (0, x1), (2, x2), (3, 0)] (pushR r1.1 [(0, x1), (2, 40), (2, 27)]) r1.2) :=
  (show Call prog clsT X (d + 1) 133 [(2, 0), (0, x1), (2, x2)] (mk E c s (hh g)) = Ev prog clsT X d mc133 0 [(2, 0), (0, x1), (2, x2), (3, 0)] [] (mk E c s (hh g)) from rfl).trans (r133_0 X E c s g d x1 x2 )
theorem r133_9 (d : Nat) (x1 x2 s2 s3 : Int) : Ev prog clsT X d mc133 9 [(2, 0), (0, x1), (2, x2), (3, 0)] [(0, s3), (0, s2), (2, 40), (2, 27)] (mk E c s (hh g)) =
  ((Call prog clsT X d 78 [(2, 27), (2, 40), (0, s2), (0, s3), (2, x2)] ((mk E c s (hh g)))).bind fun r1 => if r1.1.1 = 4 then none else
  Ev prog clsT X d mc133 11 [(2, 0), (0, x1), (2, x2), (3, 0)] (pushR r1.1 []) r1.2) :=
  (evk_at (r := (if (2 : Nat) = 2 ∧ rcv ((mk E c s (hh g))) 27 9 = true then
  ((Call prog clsT X d 78 [(2, 27), (2, 40), (0, s2), (0, s3), (2, x2)] ((mk E c s (hh g)))).bind fun r1 => if r1.1.1 = 4 then none else
  Ev prog clsT X d mc133 11 [(2, 0), (0, x1), (2, x2), (3, 0)] (pushR r1.1 []) r1.2) else none)) X [0, 9, 11, 13, 22] 3 rfl).trans (by simp (disch := decide) only [R27_9, bindI, Option.bind_some, if_true_, and_self, ite_true, true_and, true_or, or_true])
theorem r133_11 (d : Nat) (x1 x2 : Int) : Ev prog clsT X d mc133 11 [(2, 0), (0, x1), (2, x2), (3, 0)] [] (mk E c s (hh g)) =
  (Ev prog clsT X d mc133 13 [(2, 0), (0, x1), (2, x2), (0, 8)] [] (mk E c s (hh g))) :=
  evk_at X [0, 9, 11, 13, 22] 4 rfl
theorem r133_13 (d : Nat) (x3 : Int) (w1 w2 : MV) : Ev prog clsT X d mc133 13 [(2, 0), w1, w2, (0, x3)] [] (mk E c s (hh g)) =
  (if cmpI .gt x3 10 = true then
  (some ((0, 0), ((mk E c s (hh g)))))
else
  ((Call prog clsT X d 74 [(2, 27), (2, (g 0 4)), (0, x3)] ((mk E c s (hh g)))).bind fun r1 => if r1.1.1 = 4 then none else
    Ev prog clsT X d mc133 22 [(2, 0), (3, 0), (3, 0), (0, x3)] (pushR r1.1 []) r1.2)) :=
  (evk_at (r := (if cmpI .gt x3 10 = true then
  (some ((0, 0), (mk E c s (hh g))))
else
  ((fget 5654 ((mk E c s (hh g))) 0).bind fun v1 =>
    (fget 5650 ((mk E c s (hh g))) 0).bind fun v2 =>
    if (2 : Nat) = 2 ∧ rcv ((mk E c s (hh g))) v1 9 = true then
    ((Call prog clsT X d 74 [(2, v1), (2, v2), (0, x3)] ((mk E c s (hh g)))).bind fun r3 => if r3.1.1 = 4 then none else
    Ev prog clsT X d mc133 22 [(2, 0), (3, 0), (3, 0), (0, x3)] (pushR r3.1 []) r3.2) else none))) X [0, 9, 11, 13, 22] 10 rfl).trans (by simp (disch := decide) only [F5650_0, F5654_0, R27_9, bindI, Option.bind_some, if_true_, and_self, ite_true, true_and, true_or, or_true])
theorem r133_22 (d : Nat) (x3 s0 : Int) : Ev prog clsT X d mc133 22 [(2, 0), (3, 0), (3, 0), (0, x3)] [(0, s0)] (mk E c s (hh g)) =
  (if cmpI .eq s0 0 = true then
  (Ev prog clsT X d mc133 13 [(2, 0), (3, 0), (3, 0), (0, (w32 (x3 + 1)))] [] (mk E c s (hh g)))
else
  (some ((0, (w32 (((w32 (1 + x3))) - 8))), ((mk E c s (hh g)))))) :=
  (evk_at (r := (if cmpI .eq s0 0 = true then
  (Ev prog clsT X d mc133 13 [(2, 0), (3, 0), (3, 0), (0, (w32 (x3 + 1)))] [] (mk E c s (hh g)))
else
  (some ((0, (w32 (((w32 (1 + x3))) - 8))), (mk E c s (hh g)))))) X [0, 9, 11, 13, 22] 8 rfl).trans (by simp (disch := decide) only [bindI, Option.bind_some, if_true_, and_self, ite_true, true_and, true_or, or_true])
theorem r134_0 (d : Nat) (x1 x2 : Int) : Ev prog clsT X d mc134 0 [(2, 0), (0, x1), (0, x2), (3, 0), (3, 0), (3, 0)] [] (mk E c s (hh g)) =
  (Ev prog clsT X d mc134 4 [(2, 0), (0, x1), (0, x2), (0, (-1)), (0, 0), (3, 0)] [] (mk E c s (hh g))) :=
  evk_at X [0, 4, 10, 21] 6 rfl
theorem rc134_ (d : Nat) (x1 x2 : Int) : Call prog clsT X (d + 1) 134 [(2, 0), (0, x1), (0, x2)] (mk E c s (hh g)) =
  (Ev prog clsT X d mc134 4 [(2, 0), (0, x1), (0, x2), (0, (-1)), (0, 0), (3, 0)] [] (mk E c s (hh g))) :=
  (show Call prog clsT X (d + 1) 134 [(2, 0), (0, x1), (0, x2)] (mk E c s (hh g)) = Ev prog clsT X d mc134 0 [(2, 0), (0, x1), (0, x2), (3, 0), (3, 0), (3, 0)] [] (mk E c s (hh g)) from rfl).trans (r134_0 X E c s g d x1 x2 )
theorem r134_4 (d : Nat) (x1 x2 x3 x4 : Int) (w5 : MV) : Ev prog clsT X d mc134 4 [(2, 0), (0, x1), (0, x2), (0, x3), (0, x4), w5] [] (mk E c s (hh g)) =
  (if cmpI .ge x4 10 = true then
  (some ((0, (-1)), ((mk E c s (hh g)))))
else
  ((Call prog clsT X d 97 [(2, 0), (0, x4)] ((mk E c s (hh g)))).bind fun r1 => if r1.1.1 = 4 then none else
    Ev prog clsT X d mc134 10 [(2, 0), (0, x1), (0, x2), (0, x3), (0, x4), (3, 0)] (pushR r1.1 []) r1.2)) :=
  (evk_at (r := (if cmpI .ge x4 10 = true then
  (some ((0, (-1)), (mk E c s (hh g))))
else
  (if (2 : Nat) = 2 ∧ rcv ((mk E c s (hh g))) 0 12 = true then
    ((Call prog clsT X d 97 [(2, 0), (0, x4)] ((mk E c s (hh g)))).bind fun r1 => if r1.1.1 = 4 then none else
    Ev prog clsT X d mc134 10 [(2, 0), (0, x1), (0, x2), (0, x3), (0, x4), (3, 0)] (pushR r1.1 []) r1.2) else none))) X [0, 4, 10, 21] 7 rfl).trans (by simp (disch := decide) only [R0_12, bindI, Option.bind_some, if_true_, and_self, ite_true, true_and, true_or, or_true])
theorem r134_10 (d : Nat) (x1 x2 x3 x4 s0 : Int) : Ev prog clsT X d mc134 10 [(2, 0), (0, x1), (0, x2), (0, x3), (0, x4), (3, 0)] [(2, s0)] (mk E c s (hh g)) =
  (if (2 : Nat) = 2 ∧ s0 ≠ -5 then (if (decide (s0 = -1)) = true then
  (Ev prog clsT X d mc134 4 [(2, 0), (0, x1), (0, x2), (0, x3), (0, (w32 (x4 + 1))), (2, s0)] [] (mk E c s (hh g)))
else
  ((fget 3588 ((mk E c s (hh g))) s0).bind fun v1 =>
    if cmpI .ne v1 x2 = true then
    (Ev prog clsT X d mc134 4 [(2, 0), (0, x1), (0, x2), (0, x3), (0, (w32 (x4 + 1))), (2, s0)] [] (mk E c s (hh g)))
  else
    ((Call prog clsT X d 133 [(2, 0), (0, x4), (2, s0)] ((mk E c s (hh g)))).bind fun r2 => if r2.1.1 = 4 then none else
      Ev prog clsT X d mc134 21 [(2, 0), (0, x1), (0, x2), (0, x3), (0, x4), (2, s0)] (pushR r2.1 []) r2.2))) else none) :=
  (evk_at (r := (if (2 : Nat) = 2 ∧ s0 ≠ -5 then (if (decide (s0 = -1)) = true then
  (Ev prog clsT X d mc134 4 [(2, 0), (0, x1), (0, x2), (0, x3), (0, (w32 (x4 + 1))), (2, s0)] [] (mk E c s (hh g)))
else
  ((fget 3588 ((mk E c s (hh g))) s0).bind fun v1 =>
    if cmpI .ne v1 x2 = true then
    (Ev prog clsT X d mc134 4 [(2, 0), (0, x1), (0, x2), (0, x3), (0, (w32 (x4 + 1))), (2, s0)] [] (mk E c s (hh g)))
  else
    (if (2 : Nat) = 2 ∧ rcv ((mk E c s (hh g))) 0 12 = true then
      ((Call prog clsT X d 133 [(2, 0), (0, x4), (2, s0)] ((mk E c s (hh g)))).bind fun r2 => if r2.1.1 = 4 then none else
      Ev prog clsT X d mc134 21 [(2, 0), (0, x1), (0, x2), (0, x3), (0, x4), (2, s0)] (pushR r2.1 []) r2.2) else none))) else none)) X [0, 4, 10, 21] 12 rfl).trans (by simp (disch := decide) only [R0_12, bindI, Option.bind_some, if_true_, and_self, ite_true, true_and, true_or, or_true])
theorem r134_21 (d : Nat) (x1 x2 x3 x4 x5 s0 : Int) : Ev prog clsT X d mc134 21 [(2, 0), (0, x1), (0, x2), (0, x3), (0, x4), (2, x5)] [(0, s0)] (mk E c s (hh g)) =
  (if cmpI .eq s0 3 = true then
  (if cmpI .ne x3 ((-1)) = true then
    (if cmpI .eq x3 x1 = true then
      (if cmpI .ne x3 x1 = true then
        (some ((0, x3), ((mk E c s (hh g)))))
      else
        (some ((0, x4), ((mk E c s (hh g))))))
    else
      (if cmpI .ne x4 x1 = true then
        (Ev prog clsT X d mc134 4 [(2, 0), (0, x1), (0, x2), (0, (-1)), (0, (w32 (x4 + 1))), (2, x5)] [] (mk E c s (hh g)))
      else
        (if cmpI .ne x3 x1 = true then
          (some ((0, x3), ((mk E c s (hh g)))))
        else
          (some ((0, x4), ((mk E c s (hh g))))))))
  else
    (Ev prog clsT X d mc134 4 [(2, 0), (0, x1), (0, x2), (0, x4), (0, (w32 (x4 + 1))), (2, x5)] [] (mk E c s (hh g))))
else
  (Ev prog clsT X d mc134 4 [(2, 0), (0, x1), (0, x2), (0, x3), (0, (w32 (x4 + 1))), (2, x5)] [] (mk E c s (hh g)))) :=
  (evk_at (r := (if cmpI .eq s0 3 = true then
  (if cmpI .ne x3 ((-1)) = true then
    (if cmpI .eq x3 x1 = true then
      (if cmpI .ne x3 x1 = true then
        (some ((0, x3), (mk E c s (hh g))))
      else
        (some ((0, x4), (mk E c s (hh g)))))
    else
      (if cmpI .ne x4 x1 = true then
        (Ev prog clsT X d mc134 4 [(2, 0), (0, x1), (0, x2), (0, (-1)), (0, (w32 (x4 + 1))), (2, x5)] [] (mk E c s (hh g)))
      else
        (if cmpI .ne x3 x1 = true then
          (some ((0, x3), (mk E c s (hh g))))
        else
          (some ((0, x4), (mk E c s (hh g)))))))
  else
    (Ev prog clsT X d mc134 4 [(2, 0), (0, x1), (0, x2), (0, x4), (0, (w32 (x4 + 1))), (2, x5)] [] (mk E c s (hh g))))
else
  (Ev prog clsT X d mc134 4 [(2, 0), (0, x1), (0, x2), (0, x3), (0, (w32 (x4 + 1))), (2, x5)] [] (mk E c s (hh g))))) X [0, 4, 10, 21] 18 rfl).trans (by simp (disch := decide) only [bindI, Option.bind_some, if_true_, and_self, ite_true, true_and, true_or, or_true])
theorem r135_0 (d : Nat) (x1 x2 : Int) : Ev prog clsT X d mc135 0 [(2, 0), (0, x1), (0, x2)] [] (mk E c s (hh g)) =
  ((Call prog clsT X d 90 [(0, x1), (0, 0), (0, 3)] ((mk E c s (hh g)))).bind fun r1 => if r1.1.1 = 4 then none else
  Ev prog clsT X d mc135 4 [(2, 0), (0, x1), (0, x2)] (pushR r1.1 []) r1.2) :=
  evk_at X [0, 4, 11, 14, 24, 33] 5 rfl
theorem rc135_ (d : Nat) (x1 x2 : Int) : Call prog clsT X (d + 1) 135 [(2, 0), (0, x1), (0, x2)] (mk E c s (hh g)) =
  ((Call prog clsT X d 90 [(0, x1), (0, 0), (0, 3)] ((mk E c s (hh g)))).bind fun r1 => if r1.1.1 = 4 then none else
  Ev prog clsT X d mc135 4 [(2, 0), (0, x1), (0, x2)] (pushR r1.1 []) r1.2) :=
  (show Call prog clsT X (d + 1) 135 [(2, 0), (0, x1), (0, x2)] (mk E c s (hh g)) = Ev prog clsT X d mc135 0 [(2, 0), (0, x1), (0, x2)] [] (mk E c s (hh g)) from rfl).trans (r135_0 X E c s g d x1 x2 )
theorem r135_4 (d : Nat) (x1 x2 s0 : Int) : Ev prog clsT X d mc135 4 [(2, 0), (0, x1), (0, x2)] [(0, s0)] (mk E c s (hh g)) =
  (if cmpI .eq s0 0 = true then
  (some ((0, 0), ((mk E c s (hh g)))))
else
  (if cmpI .eq x2 0 = true then
    (Ev prog clsT X d mc135 14 [(2, 0), (0, x1), (0, x2)] [] (mk E c s (hh g)))
  else
    ((Call prog clsT X d 80 [(2, 72), (0, x1)] ((mk E c s (hh g)))).bind fun r1 => if r1.1.1 = 4 then none else
      Ev prog clsT X d mc135 11 [(2, 0), (0, x1), (0, x2)] (pushR r1.1 []) r1.2))) :=
  (evk_at (r := (if cmpI .eq s0 0 = true then
  (some ((0, 0), (mk E c s (hh g))))
else
  (if cmpI .eq x2 0 = true then
    (Ev prog clsT X d mc135 14 [(2, 0), (0, x1), (0, x2)] [] (mk E c s (hh g)))
  else
    ((fget 5682 ((mk E c s (hh g))) 0).bind fun v1 =>
      if (2 : Nat) = 2 ∧ rcv ((mk E c s (hh g))) v1 10 = true then
      ((Call prog clsT X d 80 [(2, v1), (0, x1)] ((mk E c s (hh g)))).bind fun r2 => if r2.1.1 = 4 then none else
      Ev prog clsT X d mc135 11 [(2, 0), (0, x1), (0, x2)] (pushR r2.1 []) r2.2) else none)))) X [0, 4, 11, 14, 24, 33] 8 rfl).trans (by simp (disch := decide) only [F5682_0, R72_10, bindI, Option.bind_some, if_true_, and_self, ite_true, true_and, true_or, or_true])
theorem r135_11 (d : Nat) (x1 x2 s0 : Int) : Ev prog clsT X d mc135 11 [(2, 0), (0, x1), (0, x2)] [(0, s0)] (mk E c s (hh g)) =
  (if cmpI .ne s0 0 = true then
  (Ev prog clsT X d mc135 14 [(2, 0), (0, x1), (0, x2)] [] (mk E c s (hh g)))
else
  (some ((0, 0), ((mk E c s (hh g)))))) :=
  (evk_at (r := (if cmpI .ne s0 0 = true then
  (Ev prog clsT X d mc135 14 [(2, 0), (0, x1), (0, x2)] [] (mk E c s (hh g)))
else
  (some ((0, 0), (mk E c s (hh g)))))) X [0, 4, 11, 14, 24, 33] 4 rfl).trans (by simp (disch := decide) only [bindI, Option.bind_some, if_true_, and_self, ite_true, true_and, true_or, or_true])
theorem r135_14 (d : Nat) (x1 x2 : Int) : Ev prog clsT X d mc135 14 [(2, 0), (0, x1), (0, x2)] [] (mk E c s (hh g)) =
  (if cmpI .eq x2 0 = true then
  ((Call prog clsT X d 82 [(2, 72), (0, x1), (2, 30), (2, 36)] ((mk E c s (hh g)))).bind fun r1 => if r1.1.1 = 4 then none else
    Ev prog clsT X d mc135 33 [(2, 0), (0, x1), (0, x2)] (pushR r1.1 []) r1.2)
else
  ((Call prog clsT X d 81 [(2, 72), (0, x1), (2, 30), (2, 36)] ((mk E c s (hh g)))).bind fun r2 => if r2.1.1 = 4 then none else
    Ev prog clsT X d mc135 24 [(2, 0), (0, x1), (0, x2)] (pushR r2.1 []) r2.2)) :=
  (evk_at (r := (if cmpI .eq x2 0 = true then
  ((fget 5682 ((mk E c s (hh g))) 0).bind fun v1 =>
    (fget 5658 ((mk E c s (hh g))) 0).bind fun v2 =>
    (fget 5662 ((mk E c s (hh g))) 0).bind fun v3 =>
    if (2 : Nat) = 2 ∧ rcv ((mk E c s (hh g))) v1 10 = true then
    ((Call prog clsT X d 82 [(2, v1), (0, x1), (2, v2), (2, v3)] ((mk E c s (hh g)))).bind fun r4 => if r4.1.1 = 4 then none else
    Ev prog clsT X d mc135 33 [(2, 0), (0, x1), (0, x2)] (pushR r4.1 []) r4.2) else none)
else
  ((fget 5682 ((mk E c s (hh g))) 0).bind fun v5 =>
    (fget 5658 ((mk E c s (hh g))) 0).bind fun v6 =>
    (fget 5662 ((mk E c s (hh g))) 0).bind fun v7 =>
    if (2 : Nat) = 2 ∧ rcv ((mk E c s (hh g))) v5 10 = true then
    ((Call prog clsT X d 81 [(2, v5), (0, x1), (2, v6), (2, v7)] ((mk E c s (hh g)))).bind fun r8 => if r8.1.1 = 4 then none else
    Ev prog clsT X d mc135 24 [(2, 0), (0, x1), (0, x2)] (pushR r8.1 []) r8.2) else none))) X [0, 4, 11, 14, 24, 33] 11 rfl).trans (by simp (disch := decide) only [F5658_0, F5662_0, F5682_0, R72_10, bindI, Option.bind_some, if_true_, and_self, ite_true, true_and, true_or, or_true])
theorem r135_24 (d : Nat) (x1 x2 : Int) : Ev prog clsT X d mc135 24 [(2, 0), (0, x1), (0, x2)] [] (mk E c s (hh g)) =
  (Ev prog clsT X d mc135 33 [(2, 0), (0, x1), (0, x2)] [] (mk E c s (hh g))) :=
  evk_at X [0, 4, 11, 14, 24, 33] 3 rfl
theorem r135_33 (d : Nat) (x1 x2 : Int) : Ev prog clsT X d mc135 33 [(2, 0), (0, x1), (0, x2)] [] (mk E c s (hh g)) =
  (some ((0, 1), ((mk E c s (hh g))))) :=
  (evk_at (r := (some ((0, 1), (mk E c s (hh g))))) X [0, 4, 11, 14, 24, 33] 3 rfl).trans (by simp (disch := decide) only [bindI, Option.bind_some, if_true_, and_self, ite_true, true_and, true_or, or_true])
theorem r136_0 (d : Nat) (x1 : Int) : Ev prog clsT X d mc136 0 [(2, 0), (0, x1)] [] (mk E c s (hh g)) =
  (Ev prog clsT X d mc136 1 [(2, 0), (0, x1)] [(0, x1)] (mk E c s (hh g))) :=
  evk_at X [0, 1, 2, 5, 6, 9, 10, 12, 13, 17, 21, 22, 24, 25, 28, 29, 32, 33, 37, 41, 44, 45] 3 rfl
theorem rc136_ (d : Nat) (x1 : Int) : Call prog clsT X (d + 1) 136 [(2, 0), (0, x1)] (mk E c s (hh g)) =
  (Ev prog clsT X d mc136 1 [(2, 0), (0, x1)] [(0, x1)] (mk E c s (hh g))) :=
  (show Call prog clsT X (d + 1) 136 [(2, 0), (0, x1)] (mk E c s (hh g)) = Ev prog clsT X d mc136 0 [(2, 0), (0, x1)] [] (mk E c s (hh g)) from rfl).trans (r136_0 X E c s g d x1 )
theorem r136_1 (d : Nat) (x1 s0 : Int) : Ev prog clsT X d mc136 1 [(2, 0), (0, x1)] [(0, s0)] (mk E c s (hh g)) =
  (if s0 < 0 ∨ 10 < s0 then Ev prog clsT X d mc136 45 [(2, 0), (0, x1)] [] ((mk E c s (hh g))) else ((#[2, 6, 10, 13, 17, 22, 25, 29, 33, 37, 41] : Array Int)[(Int.toNat (s0 - 0))]?).bind fun t1 => Ev prog clsT X d mc136 (Int.toNat t1) [(2, 0), (0, x1)] [] ((mk E c s (hh g)))) :=
  (evk_at (r := (if s0 < 0 ∨ 10 < s0 then Ev prog clsT X d mc136 45 [(2, 0), (0, x1)] [] (mk E c s (hh g)) else ((#[2, 6, 10, 13, 17, 22, 25, 29, 33, 37, 41] : Array Int)[(Int.toNat (s0 - 0))]?).bind fun t1 => Ev prog clsT X d mc136 (Int.toNat t1) [(2, 0), (0, x1)] [] (mk E c s (hh g)))) X [] 1 rfl).trans (by simp (disch := decide) only [bindI, Option.bind_some, if_true_, and_self, ite_true, true_and, true_or, or_true])
theorem r136_2 (d : Nat) (x1 : Int) : Ev prog clsT X d mc136 2 [(2, 0), (0, x1)] [] (mk E c s (hh g)) =
  ((Call prog clsT X d 86 [(2, 1)] ((mk E c s (hh g)))).bind fun r1 => if r1.1.1 = 4 then none else
  Ev prog clsT X d mc136 5 [(2, 0), (0, x1)] (pushR r1.1 []) r1.2) :=
  (evk_at (r := ((fget 5634 ((mk E c s (hh g))) 0).bind fun v1 =>
  if (2 : Nat) = 2 ∧ rcv ((mk E c s (hh g))) v1 11 = true then
  ((Call prog clsT X d 86 [(2, v1)] ((mk E c s (hh g)))).bind fun r2 => if r2.1.1 = 4 then none else
  Ev prog clsT X d mc136 5 [(2, 0), (0, x1)] (pushR r2.1 []) r2.2) else none)) X [0, 1, 2, 5, 6, 9, 10, 12, 13, 17, 21, 22, 24, 25, 28, 29, 32, 33, 37, 41, 44, 45] 4 rfl).trans (by simp (disch := decide) only [F5634_0, R1_11, bindI, Option.bind_some, if_true_, and_self, ite_true, true_and, true_or, or_true])
theorem r136_5 (d : Nat) (x1 s0 : Int) : Ev prog clsT X d mc136 5 [(2, 0), (0, x1)] [(0, s0)] (mk E c s (hh g)) =
  (some ((0, s0), ((mk E c s (hh g))))) :=
  (evk_at (r := (some ((0, s0), (mk E c s (hh g))))) X [0, 1, 2, 5, 6, 9, 10, 12, 13, 17, 21, 22, 24, 25, 28, 29, 32, 33, 37, 41, 44, 45] 2 rfl).trans (by simp (disch := decide) only [bindI, Option.bind_some, if_true_, and_self, ite_true, true_and, true_or, or_true])
theorem r136_6 (d : Nat) (x1 : Int) : Ev prog clsT X d mc136 6 [(2, 0), (0, x1)] [] (mk E c s (hh g)) =
  ((Call prog clsT X d 87 [(2, 1)] ((mk E c s (hh g)))).bind fun r1 => if r1.1.1 = 4 then none else
  Ev prog clsT X d mc136 9 [(2, 0), (0, x1)] (pushR r1.1 []) r1.2) :=
  (evk_at (r := ((fget 5634 ((mk E c s (hh g))) 0).bind fun v1 =>
  if (2 : Nat) = 2 ∧ rcv ((mk E c s (hh g))) v1 11 = true then
  ((Call prog clsT X d 87 [(2, v1)] ((mk E c s (hh g)))).bind fun r2 => if r2.1.1 = 4 then none else
  Ev prog clsT X d mc136 9 [(2, 0), (0, x1)] (pushR r2.1 []) r2.2) else none)) X [0, 1, 2, 5, 6, 9, 10, 12, 13, 17, 21, 22, 24, 25, 28, 29, 32, 33, 37, 41, 44, 45] 4 rfl).trans (by simp (disch := decide) only [F5634_0, R1_11, bindI, Option.bind_some, if_true_, and_self, ite_true, true_and, true_or, or_true])
theorem r136_9 (d : Nat) (x1 s0 : Int) : Ev prog clsT X d mc136 9 [(2, 0), (0, x1)] [(0, s0)] (mk E c s (hh g)) =
  (some ((0, s0), ((mk E c s (hh g))))) :=
  (evk_at (r := (some ((0, s0), (mk E c s (hh g))))) X [0, 1, 2, 5, 6, 9, 10, 12, 13, 17, 21, 22, 24, 25, 28, 29, 32, 33, 37, 41, 44, 45] 2 rfl).trans (by simp (disch := decide) only [bindI, Option.bind_some, if_true_, and_self, ite_true, true_and, true_or, or_true])
theorem r136_10 (d : Nat) (x1 : Int) : Ev prog clsT X d mc136 10 [(2, 0), (0, x1)] [] (mk E c s (hh g)) =
  ((Call prog clsT X d 137 [(2, 0)] ((mk E c s (hh g)))).bind fun r1 => if r1.1.1 = 4 then none else
  Ev prog clsT X d mc136 12 [(2, 0), (0, x1)] (pushR r1.1 []) r1.2) :=
  (evk_at (r := (if (2 : Nat) = 2 ∧ rcv ((mk E c s (hh g))) 0 12 = true then
  ((Call prog clsT X d 137 [(2, 0)] ((mk E c s (hh g)))).bind fun r1 => if r1.1.1 = 4 then none else
  Ev prog clsT X d mc136 12 [(2, 0), (0, x1)] (pushR r1.1 []) r1.2) else none)) X [0, 1, 2, 5, 6, 9, 10, 12, 13, 17, 21, 22, 24, 25, 28, 29, 32, 33, 37, 41, 44, 45] 3 rfl).trans (by simp (disch := decide) only [R0_12, bindI, Option.bind_some, if_true_, and_self, ite_true, true_and, true_or, or_true])
theorem r136_12 (d : Nat) (x1 s0 : Int) : Ev prog clsT X d mc136 12 [(2, 0), (0, x1)] [(0, s0)] (mk E c s (hh g)) =
  (some ((0, s0), ((mk E c s (hh g))))) :=
  (evk_at (r := (some ((0, s0), (mk E c s (hh g))))) X [0, 1, 2, 5, 6, 9, 10, 12, 13, 17, 21, 22, 24, 25, 28, 29, 32, 33, 37, 41, 44, 45] 2 rfl).trans (by simp (disch := decide) only [bindI, Option.bind_some, if_true_, and_self, ite_true, true_and, true_or, or_true])
theorem r136_13 (d : Nat) (x1 : Int) : Ev prog clsT X d mc136 13 [(2, 0), (0, x1)] [] (mk E c s (hh g)) =
  (some ((0, (g 30 0)), ((mk E c s (hh g))))) :=
  (evk_at (r := ((fget 5658 ((mk E c s (hh g))) 0).bind fun v1 =>
  (fget 1024 ((mk E c s (hh g))) v1).bind fun v2 =>
  some ((0, v2), (mk E c s (hh g))))) X [0, 1, 2, 5, 6, 9, 10, 12, 13, 17, 21, 22, 24, 25, 28, 29, 32, 33, 37, 41, 44, 45] 5 rfl).trans (by simp (disch := decide) only [F1024_30, F5658_0, bindI, Option.bind_some, if_true_, and_self, ite_true, true_and, true_or, or_true])
theorem r136_17 (d : Nat) (x1 : Int) : Ev prog clsT X d mc136 17 [(2, 0), (0, x1)] [] (mk E c s (hh g)) =
  ((Call prog clsT X d 264 [(1, (g 30 1))] ((mk E c s (hh g)))).bind fun r1 => if r1.1.1 = 4 then none else
  Ev prog clsT X d mc136 21 [(2, 0), (0, x1)] (pushR r1.1 []) r1.2) :=
  (evk_at (r := ((fget 5658 ((mk E c s (hh g))) 0).bind fun v1 =>
  (fget 1029 ((mk E c s (hh g))) v1).bind fun v2 =>
  (Call prog clsT X d 264 [(1, v2)] ((mk E c s (hh g)))).bind fun r3 => if r3.1.1 = 4 then none else
  Ev prog clsT X d mc136 21 [(2, 0), (0, x1)] (pushR r3.1 []) r3.2)) X [0, 1, 2, 5, 6, 9, 10, 12, 13, 17, 21, 22, 24, 25, 28, 29, 32, 33, 37, 41, 44, 45] 5 rfl).trans (by simp (disch := decide) only [F1029_30, F5658_0, bindI, Option.bind_some, if_true_, and_self, ite_true, true_and, true_or, or_true])
theorem r136_21 (d : Nat) (x1 s0 : Int) : Ev prog clsT X d mc136 21 [(2, 0), (0, x1)] [(0, s0)] (mk E c s (hh g)) =
  (some ((0, s0), ((mk E c s (hh g))))) :=
  (evk_at (r := (some ((0, s0), (mk E c s (hh g))))) X [0, 1, 2, 5, 6, 9, 10, 12, 13, 17, 21, 22, 24, 25, 28, 29, 32, 33, 37, 41, 44, 45] 2 rfl).trans (by simp (disch := decide) only [bindI, Option.bind_some, if_true_, and_self, ite_true, true_and, true_or, or_true])
theorem r136_22 (d : Nat) (x1 : Int) : Ev prog clsT X d mc136 22 [(2, 0), (0, x1)] [] (mk E c s (hh g)) =
  ((Call prog clsT X d 138 [(2, 0)] ((mk E c s (hh g)))).bind fun r1 => if r1.1.1 = 4 then none else
  Ev prog clsT X d mc136 24 [(2, 0), (0, x1)] (pushR r1.1 []) r1.2) :=
  (evk_at (r := (if (2 : Nat) = 2 ∧ rcv ((mk E c s (hh g))) 0 12 = true then
  ((Call prog clsT X d 138 [(2, 0)] ((mk E c s (hh g)))).bind fun r1 => if r1.1.1 = 4 then none else
  Ev prog clsT X d mc136 24 [(2, 0), (0, x1)] (pushR r1.1 []) r1.2) else none)) X [0, 1, 2, 5, 6, 9, 10, 12, 13, 17, 21, 22, 24, 25, 28, 29, 32, 33, 37, 41, 44, 45] 3 rfl).trans (by simp (disch := decide) only [R0_12, bindI, Option.bind_some, if_true_, and_self, ite_true, true_and, true_or, or_true])
theorem r136_24 (d : Nat) (x1 s0 : Int) : Ev prog clsT X d mc136 24 [(2, 0), (0, x1)] [(0, s0)] (mk E c s (hh g)) =
  (some ((0, s0), ((mk E c s (hh g))))) :=
  (evk_at (r := (some ((0, s0), (mk E c s (hh g))))) X [0, 1, 2, 5, 6, 9, 10, 12, 13, 17, 21, 22, 24, 25, 28, 29, 32, 33, 37, 41, 44, 45] 2 rfl).trans (by simp (disch := decide) only [bindI, Option.bind_some, if_true_, and_self, ite_true, true_and, true_or, or_true])
theorem r136_25 (d : Nat) (x1 : Int) : Ev prog clsT X d mc136 25 [(2, 0), (0, x1)] [] (mk E c s (hh g)) =
  ((Call prog clsT X d 35 [(2, 36)] ((mk E c s (hh g)))).bind fun r1 => if r1.1.1 = 4 then none else
  Ev prog clsT X d mc136 28 [(2, 0), (0, x1)] (pushR r1.1 []) r1.2) :=
  (evk_at (r := ((fget 5662 ((mk E c s (hh g))) 0).bind fun v1 =>
  if (2 : Nat) = 2 ∧ rcv ((mk E c s (hh g))) v1 5 = true then
  ((Call prog clsT X d 35 [(2, v1)] ((mk E c s (hh g)))).bind fun r2 => if r2.1.1 = 4 then none else
  Ev prog clsT X d mc136 28 [(2, 0), (0, x1)] (pushR r2.1 []) r2.2) else none)) X [0, 1, 2, 5, 6, 9, 10, 12, 13, 17, 21, 22, 24, 25, 28, 29, 32, 33, 37, 41, 44, 45] 4 rfl).trans (by simp (disch := decide) only [F5662_0, R36_5, bindI, Option.bind_some, if_true_, and_self, ite_true, true_and, true_or, or_true])
theorem r136_28 (d : Nat) (x1 s0 : Int) : Ev prog clsT X d mc136 28 [(2, 0), (0, x1)] [(0, s0)] (mk E c s (hh g)) =
  (some ((0, s0), ((mk E c s (hh g))))) :=
  (evk_at (r := (some ((0, s0), (mk E c s (hh g))))) X [0, 1, 2, 5, 6, 9, 10, 12, 13, 17, 21, 22, 24, 25, 28, 29, 32, 33, 37, 41, 44, 45] 2 rfl).trans (by simp (disch := decide) only [bindI, Option.bind_some, if_true_, and_self, ite_true, true_and, true_or, or_true])
theorem r136_29 (d : Nat) (x1 : Int) : Ev prog clsT X d mc136 29 [(2, 0), (0, x1)] [] (mk E c s (hh g)) =
  ((Call prog clsT X d 36 [(2, 36)] ((mk E c s (hh g)))).bind fun r1 => if r1.1.1 = 4 then none else
  Ev prog clsT X d mc136 32 [(2, 0), (0, x1)] (pushR r1.1 []) r1.2) :=
  (evk_at (r := ((fget 5662 ((mk E c s (hh g))) 0).bind fun v1 =>
  if (2 : Nat) = 2 ∧ rcv ((mk E c s (hh g))) v1 5 = true then
  ((Call prog clsT X d 36 [(2, v1)] ((mk E c s (hh g)))).bind fun r2 => if r2.1.1 = 4 then none else
  Ev prog clsT X d mc136 32 [(2, 0), (0, x1)] (pushR r2.1 []) r2.2) else none)) X [0, 1, 2, 5, 6, 9, 10, 12, 13, 17, 21, 22, 24, 25, 28, 29, 32, 33, 37, 41, 44, 45] 4 rfl).trans (by simp (disch := decide) only [F5662_0, R36_5, bindI, Option.bind_some, if_true_, and_self, ite_true, true_and, true_or, or_true])
theorem r136_32 (d : Nat) (x1 s0 : Int) : Ev prog clsT X d mc136 32 [(2, 0), (0, x1)] [(0, s0)] (mk E c s (hh g)) =
  (some ((0, s0), ((mk E c s (hh g))))) :=
  (evk_at (r := (some ((0, s0), (mk E c s (hh g))))) X [0, 1, 2, 5, 6, 9, 10, 12, 13, 17, 21, 22, 24, 25, 28, 29, 32, 33, 37, 41, 44, 45] 2 rfl).trans (by simp (disch := decide) only [bindI, Option.bind_some, if_true_, and_self, ite_true, true_and, true_or, or_true])
theorem r136_33 (d : Nat) (x1 : Int) : Ev prog clsT X d mc136 33 [(2, 0), (0, x1)] [] (mk E c s (hh g)) =
  ((fget 3592 ((mk E c s (hh g))) ((g 0 3))).bind fun v1 =>
  some ((0, v1), ((mk E c s (hh g))))) :=
  (evk_at (r := ((fget 5646 ((mk E c s (hh g))) 0).bind fun v1 =>
  (fget 3592 ((mk E c s (hh g))) v1).bind fun v2 =>
  some ((0, v2), (mk E c s (hh g))))) X [0, 1, 2, 5, 6, 9, 10, 12, 13, 17, 21, 22, 24, 25, 28, 29, 32, 33, 37, 41, 44, 45] 5 rfl).trans (by simp (disch := decide) only [F5646_0, bindI, Option.bind_some, if_true_, and_self, ite_true, true_and, true_or, or_true])
theorem r136_37 (d : Nat) (x1 : Int) : Ev prog clsT X d mc136 37 [(2, 0), (0, x1)] [] (mk E c s (hh g)) =
  (some ((0, (g 9 1)), ((mk E c s (hh g))))) :=
  (evk_at (r := ((fget 5638 ((mk E c s (hh g))) 0).bind fun v1 =>
  (fget 2564 ((mk E c s (hh g))) v1).bind fun v2 =>
  some ((0, v2), (mk E c s (hh g))))) X [0, 1, 2, 5, 6, 9, 10, 12, 13, 17, 21, 22, 24, 25, 28, 29, 32, 33, 37, 41, 44, 45] 5 rfl).trans (by simp (disch := decide) only [F2564_9, F5638_0, bindI, Option.bind_some, if_true_, and_self, ite_true, true_and, true_or, or_true])
theorem r136_41 (d : Nat) (x1 : Int) : Ev prog clsT X d mc136 41 [(2, 0), (0, x1)] [] (mk E c s (hh g)) =
  ((Call prog clsT X d 25 [(2, 30)] ((mk E c s (hh g)))).bind fun r1 => if r1.1.1 = 4 then none else
  Ev prog clsT X d mc136 44 [(2, 0), (0, x1)] (pushR r1.1 []) r1.2) :=
  (evk_at (r := ((fget 5658 ((mk E c s (hh g))) 0).bind fun v1 =>
  if (2 : Nat) = 2 ∧ rcv ((mk E c s (hh g))) v1 3 = true then
  ((Call prog clsT X d 25 [(2, v1)] ((mk E c s (hh g)))).bind fun r2 => if r2.1.1 = 4 then none else
  Ev prog clsT X d mc136 44 [(2, 0), (0, x1)] (pushR r2.1 []) r2.2) else none)) X [0, 1, 2, 5, 6, 9, 10, 12, 13, 17, 21, 22, 24, 25, 28, 29, 32, 33, 37, 41, 44, 45] 4 rfl).trans (by simp (disch := decide) only [F5658_0, R30_3, bindI, Option.bind_some, if_true_, and_self, ite_true, true_and, true_or, or_true])
theorem r136_44 (d : Nat) (x1 s0 : Int) : Ev prog clsT X d mc136 44 [(2, 0), (0, x1)] [(0, s0)] (mk E c s (hh g)) =
  (some ((0, s0), ((mk E c s (hh g))))) :=
  (evk_at (r := (some ((0, s0), (mk E c s (hh g))))) X [0, 1, 2, 5, 6, 9, 10, 12, 13, 17, 21, 22, 24, 25, 28, 29, 32, 33, 37, 41, 44, 45] 2 rfl).trans (by simp (disch := decide) only [bindI, Option.bind_some, if_true_, and_self, ite_true, true_and, true_or, or_true])
theorem r136_45 (d : Nat) (x1 : Int) : Ev prog clsT X d mc136 45 [(2, 0), (0, x1)] [] (mk E c s (hh g)) =
  (some ((0, (-1)), ((mk E c s (hh g))))) :=
  (evk_at (r := (some ((0, (-1)), (mk E c s (hh g))))) X [0, 1, 2, 5, 6, 9, 10, 12, 13, 17, 21, 22, 24, 25, 28, 29, 32, 33, 37, 41, 44, 45] 3 rfl).trans (by simp (disch := decide) only [bindI, Option.bind_some, if_true_, and_self, ite_true, true_and, true_or, or_true])
theorem r137_0 (d : Nat) : Ev prog clsT X d mc137 0 [(2, 0), (3, 0), (3, 0)] [] (mk E c s (hh g)) =
  (Ev prog clsT X d mc137 4 [(2, 0), (0, 0), (0, 0)] [] (mk E c s (hh g))) :=
  evk_at X [0, 4] 6 rfl
theorem rc137_ (d : Nat) : Call prog clsT X (d + 1) 137 [(2, 0)] (mk E c s (hh g)) =
  (Ev prog clsT X d mc137 4 [(2, 0), (0, 0), (0, 0)] [] (mk E c s (hh g))) :=
  (show Call prog clsT X (d + 1) 137 [(2, 0)] (mk E c s (hh g)) = Ev prog clsT X d mc137 0 [(2, 0), (3, 0), (3, 0)] [] (mk E c s (hh g)) from rfl).trans (r137_0 X E c s g d  )
theorem r137_4 (d : Nat) (x1 x2 : Int) : Ev prog clsT X d mc137 4 [(2, 0), (0, x1), (0, x2)] [] (mk E c s (hh g)) =
  (if cmpI .ge x2 10 = true then
  (some ((0, x1), ((mk E c s (hh g)))))
else
  (if inb x2 10 = true then
    (if (2 : Nat) = 2 ∧ (g 16 (Int.toNat x2)) ≠ -5 then (if (decide ((g 16 (Int.toNat x2)) = -1)) = true then
    (Ev prog clsT X d mc137 4 [(2, 0), (0, (w32 (x1 + 0))), (0, (w32 (x2 + 1)))] [] (mk E c s (hh g)))
  else
    (Ev prog clsT X d mc137 4 [(2, 0), (0, (w32 (x1 + 1))), (0, (w32 (x2 + 1)))] [] (mk E c s (hh g)))) else none)
  else none)) :=
  (evk_at (r := (if cmpI .ge x2 10 = true then
  (some ((0, x1), (mk E c s (hh g))))
else
  ((fget 5642 ((mk E c s (hh g))) 0).bind fun v1 =>
    if (lay? ((mk E c s (hh g))) v1).1 = 104 ∨ (lay? ((mk E c s (hh g))) v1).1 = 105 then (aget X (lay? ((mk E c s (hh g))) v1).1 ((mk E c s (hh g))) v1 x2).bind fun v2 =>
    (if (2 : Nat) = 2 ∧ v2 ≠ -5 then (if (decide (v2 = -1)) = true then
    (Ev prog clsT X d mc137 4 [(2, 0), (0, (w32 (x1 + 0))), (0, (w32 (x2 + 1)))] [] (mk E c s (hh g)))
  else
    (Ev prog clsT X d mc137 4 [(2, 0), (0, (w32 (x1 + 1))), (0, (w32 (x2 + 1)))] [] (mk E c s (hh g)))) else none) else none))) X [0, 4] 17 rfl).trans (by simp (disch := decide) only [A16, F5642_0, lay_16, bindI, Option.bind_some, if_true_, and_self, ite_true, true_and, true_or, or_true])
theorem r138_0 (d : Nat) : Ev prog clsT X d mc138 0 [(2, 0), (3, 0), (3, 0)] [] (mk E c s (hh g)) =
  (Ev prog clsT X d mc138 4 [(2, 0), (0, 0), (0, 0)] [] (mk E c s (hh g))) :=
  evk_at X [0, 4, 14, 18] 6 rfl
theorem rc138_ (d : Nat) : Call prog clsT X (d + 1) 138 [(2, 0)] (mk E c s (hh g)) =
  (Ev prog clsT X d mc138 4 [(2, 0), (0, 0), (0, 0)] [] (mk E c s (hh g))) :=
  (show Call prog clsT X (d + 1) 138 [(2, 0)] (mk E c s (hh g)) = Ev prog clsT X d mc138 0 [(2, 0), (3, 0), (3, 0)] [] (mk E c s (hh g)) from rfl).trans (r138_0 X E c s g d  )
theorem r138_4 (d : Nat) (x1 x2 : Int) : Ev prog clsT X d mc138 4 [(2, 0), (0, x1), (0, x2)] [] (mk E c s (hh g)) =
  (if cmpI .ge x2 ((g 30 0)) = true then
  (some ((0, x1), ((mk E c s (hh g)))))
else
  ((Call prog clsT X d 19 [(2, 30), (0, x2)] ((mk E c s (hh g)))).bind fun r1 => if r1.1.1 = 4 then none else
    Ev prog clsT X d mc138 14 [(2, 0), (0, x1), (0, x2)] (pushR r1.1 [(0, x1)]) r1.2)) :=
  (evk_at (r := ((fget 5658 ((mk E c s (hh g))) 0).bind fun v1 =>
  (fget 1024 ((mk E c s (hh g))) v1).bind fun v2 =>
  if cmpI .ge x2 v2 = true then
  (some ((0, x1), (mk E c s (hh g))))
else
  ((fget 5658 ((mk E c s (hh g))) 0).bind fun v3 =>
    if (2 : Nat) = 2 ∧ rcv ((mk E c s (hh g))) v3 3 = true then
    ((Call prog clsT X d 19 [(2, v3), (0, x2)] ((mk E c s (hh g)))).bind fun r4 => if r4.1.1 = 4 then none else
    Ev prog clsT X d mc138 14 [(2, 0), (0, x1), (0, x2)] (pushR r4.1 [(0, x1)]) r4.2) else none))) X [0, 4, 14, 18] 11 rfl).trans (by simp (disch := decide) only [F1024_30, F5658_0, R30_3, bindI, Option.bind_some, if_true_, and_self, ite_true, true_and, true_or, or_true])
theorem r138_14 (d : Nat) (x1 x2 s0 s1 : Int) : Ev prog clsT X d mc138 14 [(2, 0), (0, x1), (0, x2)] [(0, s1), (0, s0)] (mk E c s (hh g)) =
  (if cmpI .eq s1 0 = true then
  (Ev prog clsT X d mc138 4 [(2, 0), (0, (w32 (s0 + 0))), (0, (w32 (x2 + 1)))] [] (mk E c s (hh g)))
else
  ((Call prog clsT X d 139 [(2, 0), (0, x2)] ((mk E c s (hh g)))).bind fun r1 => if r1.1.1 = 4 then none else
    Ev prog clsT X d mc138 18 [(2, 0), (0, x1), (0, x2)] (pushR r1.1 [(0, s0)]) r1.2)) :=
  (evk_at (r := (if cmpI .eq s1 0 = true then
  (Ev prog clsT X d mc138 4 [(2, 0), (0, (w32 (s0 + 0))), (0, (w32 (x2 + 1)))] [] (mk E c s (hh g)))
else
  (if (2 : Nat) = 2 ∧ rcv ((mk E c s (hh g))) 0 12 = true then
    ((Call prog clsT X d 139 [(2, 0), (0, x2)] ((mk E c s (hh g)))).bind fun r1 => if r1.1.1 = 4 then none else
    Ev prog clsT X d mc138 18 [(2, 0), (0, x1), (0, x2)] (pushR r1.1 [(0, s0)]) r1.2) else none))) X [0, 4, 14, 18] 8 rfl).trans (by simp (disch := decide) only [R0_12, bindI, Option.bind_some, if_true_, and_self, ite_true, true_and, true_or, or_true])
theorem r138_18 (d : Nat) (x1 x2 s0 s1 : Int) : Ev prog clsT X d mc138 18 [(2, 0), (0, x1), (0, x2)] [(0, s1), (0, s0)] (mk E c s (hh g)) =
  (if cmpI .eq s1 ((-1)) = true then
  (Ev prog clsT X d mc138 4 [(2, 0), (0, (w32 (s0 + 0))), (0, (w32 (x2 + 1)))] [] (mk E c s (hh g)))
else
  (Ev prog clsT X d mc138 4 [(2, 0), (0, (w32 (s0 + 1))), (0, (w32 (x2 + 1)))] [] (mk E c s (hh g)))) :=
  evk_at X [0, 4, 14, 18] 10 rfl
theorem r139_0 (d : Nat) (x1 : Int) : Ev prog clsT X d mc139 0 [(2, 0), (0, x1)] [] (mk E c s (hh g)) =
  ((Call prog clsT X d 108 [(2, 0), (0, x1)] ((mk E c s (hh g)))).bind fun r1 => if r1.1.1 = 4 then none else
  Ev prog clsT X d mc139 3 [(2, 0), (0, x1)] (pushR r1.1 []) r1.2) :=
  (evk_at (r := (if (2 : Nat) = 2 ∧ rcv ((mk E c s (hh g))) 0 12 = true then
  ((Call prog clsT X d 108 [(2, 0), (0, x1)] ((mk E c s (hh g)))).bind fun r1 => if r1.1.1 = 4 then none else
  Ev prog clsT X d mc139 3 [(2, 0), (0, x1)] (pushR r1.1 []) r1.2) else none)) X [0, 3, 12, 15] 4 rfl).trans (by simp (disch := decide) only [R0_12, bindI, Option.bind_some, if_true_, and_self, ite_true, true_and, true_or, or_true])
theorem rc139_ (d : Nat) (x1 : Int) : Call prog clsT X (d + 1) 139 [(2, 0), (0, x1)] (mk E c s (hh g)) =
  ((Call prog clsT X d 108 [(2, 0), (0, x1)] ((mk E c s (hh g)))).bind fun r1 => if r1.1.1 = 4 then none else
  Ev prog clsT X d mc139 3 [(2, 0), (0, x1)] (pushR r1.1 []) r1.2) :=
  (show Call prog clsT X (d + 1) 139 [(2, 0), (0, x1)] (mk E c s (hh g)) = Ev prog clsT X d mc139 0 [(2, 0), (0, x1)] [] (mk E c s (hh g)) from rfl).trans (r139_0 X E c s g d x1 )
theorem r139_3 (d : Nat) (x1 : Int) : Ev prog clsT X d mc139 3 [(2, 0), (0, x1)] [] (mk E c s (hh g)) =
  (if inb x1 40 = true then
  ((Call prog clsT X d 97 [(2, 0), (0, (g 31 (Int.toNat x1)))] ((mk E c s (hh g)))).bind fun r1 => if r1.1.1 = 4 then none else
  Ev prog clsT X d mc139 12 [(2, 0), (0, x1)] (pushR r1.1 [(2, 27)]) r1.2)
else none) :=
  (evk_at (r := ((fget 5654 ((mk E c s (hh g))) 0).bind fun v1 =>
  (fget 5658 ((mk E c s (hh g))) 0).bind fun v2 =>
  (fget 1034 ((mk E c s (hh g))) v2).bind fun v3 =>
  (aget X 100 ((mk E c s (hh g))) v3 x1).bind fun v4 =>
  if (2 : Nat) = 2 ∧ rcv ((mk E c s (hh g))) 0 12 = true then
  ((Call prog clsT X d 97 [(2, 0), (0, v4)] ((mk E c s (hh g)))).bind fun r5 => if r5.1.1 = 4 then none else
  Ev prog clsT X d mc139 12 [(2, 0), (0, x1)] (pushR r5.1 [(2, v1)]) r5.2) else none)) X [0, 3, 12, 15] 10 rfl).trans (by simp (disch := decide) only [A31, F1034_30, F5654_0, F5658_0, R0_12, bindI, Option.bind_some, if_true_, and_self, ite_true, true_and, true_or, or_true])
theorem r139_12 (d : Nat) (x1 s1 : Int) : Ev prog clsT X d mc139 12 [(2, 0), (0, x1)] [(2, s1), (2, 27)] (mk E c s (hh g)) =
  ((Call prog clsT X d 72 [(2, 27), (2, s1), (2, (g 0 3))] ((mk E c s (hh g)))).bind fun r1 => if r1.1.1 = 4 then none else
  Ev prog clsT X d mc139 15 [(2, 0), (0, x1)] (pushR r1.1 []) r1.2) :=
  (evk_at (r := ((fget 5646 ((mk E c s (hh g))) 0).bind fun v1 =>
  if (2 : Nat) = 2 ∧ rcv ((mk E c s (hh g))) 27 9 = true then
  ((Call prog clsT X d 72 [(2, 27), (2, s1), (2, v1)] ((mk E c s (hh g)))).bind fun r2 => if r2.1.1 = 4 then none else
  Ev prog clsT X d mc139 15 [(2, 0), (0, x1)] (pushR r2.1 []) r2.2) else none)) X [0, 3, 12, 15] 4 rfl).trans (by simp (disch := decide) only [F5646_0, R27_9, bindI, Option.bind_some, if_true_, and_self, ite_true, true_and, true_or, or_true])
theorem r139_15 (d : Nat) (x1 s0 : Int) : Ev prog clsT X d mc139 15 [(2, 0), (0, x1)] [(0, s0)] (mk E c s (hh g)) =
  (some ((0, s0), ((mk E c s (hh g))))) :=
  (evk_at (r := (some ((0, s0), (mk E c s (hh g))))) X [0, 3, 12, 15] 2 rfl).trans (by simp (disch := decide) only [bindI, Option.bind_some, if_true_, and_self, ite_true, true_and, true_or, or_true])
theorem r140_0 (d : Nat) (x1 : Int) : Ev prog clsT X d mc140 0 [(2, 0), (0, x1)] [] (mk E c s (hh g)) =
  ((Call prog clsT X d 20 [(2, 30), (0, x1)] ((mk E c s (hh g)))).bind fun r1 => if r1.1.1 = 4 then none else
  Ev prog clsT X d mc140 4 [(2, 0), (0, x1)] (pushR r1.1 []) r1.2) :=
  (evk_at (r := ((fget 5658 ((mk E c s (hh g))) 0).bind fun v1 =>
  if (2 : Nat) = 2 ∧ rcv ((mk E c s (hh g))) v1 3 = true then
  ((Call prog clsT X d 20 [(2, v1), (0, x1)] ((mk E c s (hh g)))).bind fun r2 => if r2.1.1 = 4 then none else
  Ev prog clsT X d mc140 4 [(2, 0), (0, x1)] (pushR r2.1 []) r2.2) else none)) X [0, 4, 13] 5 rfl).trans (by simp (disch := decide) only [F5658_0, R30_3, bindI, Option.bind_some, if_true_, and_self, ite_true, true_and, true_or, or_true])
theorem rc140_ (d : Nat) (x1 : Int) : Call prog clsT X (d + 1) 140 [(2, 0), (0, x1)] (mk E c s (hh g)) =
  ((Call prog clsT X d 20 [(2, 30), (0, x1)] ((mk E c s (hh g)))).bind fun r1 => if r1.1.1 = 4 then none else
  Ev prog clsT X d mc140 4 [(2, 0), (0, x1)] (pushR r1.1 []) r1.2) :=
  (show Call prog clsT X (d + 1) 140 [(2, 0), (0, x1)] (mk E c s (hh g)) = Ev prog clsT X d mc140 0 [(2, 0), (0, x1)] [] (mk E c s (hh g)) from rfl).trans (r140_0 X E c s g d x1 )
theorem r140_4 (d : Nat) (x1 s0 : Int) : Ev prog clsT X d mc140 4 [(2, 0), (0, x1)] [(0, s0)] (mk E c s (hh g)) =
  (if cmpI .ne s0 0 = true then
  ((Call prog clsT X d 139 [(2, 0), (0, x1)] ((mk E c s (hh g)))).bind fun r1 => if r1.1.1 = 4 then none else
    Ev prog clsT X d mc140 13 [(2, 0), (0, x1)] (pushR r1.1 []) r1.2)
else
  (some ((4, 0), ((((mk E c s (hh g)))).1, (((mk E c s (hh g)))).2.1, (((mk E c s (hh g)))).2.2.1 + 8, (((mk E c s (hh g)))).2.2.2 + 64)))) :=
  (evk_at (r := (if cmpI .ne s0 0 = true then
  (if (2 : Nat) = 2 ∧ rcv ((mk E c s (hh g))) 0 12 = true then
    ((Call prog clsT X d 139 [(2, 0), (0, x1)] ((mk E c s (hh g)))).bind fun r1 => if r1.1.1 = 4 then none else
    Ev prog clsT X d mc140 13 [(2, 0), (0, x1)] (pushR r1.1 []) r1.2) else none)
else
  (some ((4, 0), ((((mk E c s (hh g)))).1, (((mk E c s (hh g)))).2.1, (((mk E c s (hh g)))).2.2.1 + 8, (((mk E c s (hh g)))).2.2.2 + 64))))) X [0, 4, 13] 5 rfl).trans (by simp (disch := decide) only [R0_12, bindI, Option.bind_some, if_true_, and_self, ite_true, true_and, true_or, or_true])
theorem r140_13 (d : Nat) (x1 s0 : Int) : Ev prog clsT X d mc140 13 [(2, 0), (0, x1)] [(0, s0)] (mk E c s (hh g)) =
  (some ((0, s0), ((mk E c s (hh g))))) :=
  (evk_at (r := (some ((0, s0), (mk E c s (hh g))))) X [0, 4, 13] 2 rfl).trans (by simp (disch := decide) only [bindI, Option.bind_some, if_true_, and_self, ite_true, true_and, true_or, or_true])
theorem r141_0 (d : Nat) (x1 x2 : Int) : Ev prog clsT X d mc141 0 [(2, 0), (0, x1), (0, x2)] [] (mk E c s (hh g)) =
  ((Call prog clsT X d 20 [(2, 30), (0, x1)] ((mk E c s (hh g)))).bind fun r1 => if r1.1.1 = 4 then none else
  Ev prog clsT X d mc141 4 [(2, 0), (0, x1), (0, x2)] (pushR r1.1 []) r1.2) :=
  (evk_at (r := ((fget 5658 ((mk E c s (hh g))) 0).bind fun v1 =>
  if (2 : Nat) = 2 ∧ rcv ((mk E c s (hh g))) v1 3 = true then
  ((Call prog clsT X d 20 [(2, v1), (0, x1)] ((mk E c s (hh g)))).bind fun r2 => if r2.1.1 = 4 then none else
  Ev prog clsT X d mc141 4 [(2, 0), (0, x1), (0, x2)] (pushR r2.1 []) r2.2) else none)) X [0, 4, 9, 40, 48] 5 rfl).trans (by simp (disch := decide) only [F5658_0, R30_3, bindI, Option.bind_some, if_true_, and_self, ite_true, true_and, true_or, or_true])
theorem rc141_ (d : Nat) (x1 x2 : Int) : Call prog clsT X (d + 1) 141 [(2, 0), (0, x1), (0, x2)] (mk E c s (hh g)) =
  ((Call prog clsT X d 20 [(2, 30), (0, x1)] ((mk E c s (hh g)))).bind fun r1 => if r1.1.1 = 4 then none else
  Ev prog clsT X d mc141 4 [(2, 0), (0, x1), (0, x2)] (pushR r1.1 []) r1.2) :=
  (show Call prog clsT X (d + 1) 141 [(2, 0), (0, x1), (0, x2)] (mk E c s (hh g)) = Ev prog clsT X d mc141 0 [(2, 0), (0, x1), (0, x2)] [] (mk E c s (hh g)) from rfl).trans (r141_0 X E c s g d x1 x2 )
theorem r141_4 (d : Nat) (x1 x2 s0 : Int) : Ev prog clsT X d mc141 4 [(2, 0), (0, x1), (0, x2)] [(0, s0)] (mk E c s (hh g)) =
  (if cmpI .eq s0 0 = true then
  (some ((4, 0), ((((mk E c s (hh g)))).1, (((mk E c s (hh g)))).2.1, (((mk E c s (hh g)))).2.2.1 + 8, (((mk E c s (hh g)))).2.2.2 + 64)))
else
  ((Call prog clsT X d 90 [(0, x2), (0, 0), (0, 13)] ((mk E c s (hh g)))).bind fun r1 => if r1.1.1 = 4 then none else
    Ev prog clsT X d mc141 9 [(2, 0), (0, x1), (0, x2)] (pushR r1.1 []) r1.2)) :=
  evk_at X [0, 4, 9, 40, 48] 6 rfl
theorem r141_9 (d : Nat) (x1 x2 s0 : Int) : Ev prog clsT X d mc141 9 [(2, 0), (0, x1), (0, x2)] [(0, s0)] (mk E c s (hh g)) =
  (if cmpI .ne s0 0 = true then
  (if cmpI .ne x2 11 = true then
    (if cmpI .ne x2 12 = true then
      (if cmpI .ne x2 13 = true then
        ((Call prog clsT X d 108 [(2, 0), (0, x1)] ((mk E c s (hh g)))).bind fun r1 => if r1.1.1 = 4 then none else
          Ev prog clsT X d mc141 48 [(2, 0), (0, x1), (0, x2)] (pushR r1.1 []) r1.2)
      else
        ((Call prog clsT X d 19 [(2, 30), (0, x1)] ((mk E c s (hh g)))).bind fun r2 => if r2.1.1 = 4 then none else
          Ev prog clsT X d mc141 40 [(2, 0), (0, x1), (0, x2)] (pushR r2.1 []) r2.2))
    else
      (if inb x1 40 = true then
        (some ((0, (g 32 (Int.toNat x1))), ((mk E c s (hh g)))))
      else none))
  else
    (if inb x1 40 = true then
      (some ((0, (g 31 (Int.toNat x1))), ((mk E c s (hh g)))))
    else none))
else
  (some ((4, 0), ((((mk E c s (hh g)))).1, (((mk E c s (hh g)))).2.1, (((mk E c s (hh g)))).2.2.1 + 8, (((mk E c s (hh g)))).2.2.2 + 64)))) :=
  (evk_at (r := (if cmpI .ne s0 0 = true then
  (if cmpI .ne x2 11 = true then
    (if cmpI .ne x2 12 = true then
      (if cmpI .ne x2 13 = true then
        (if (2 : Nat) = 2 ∧ rcv ((mk E c s (hh g))) 0 12 = true then
          ((Call prog clsT X d 108 [(2, 0), (0, x1)] ((mk E c s (hh g)))).bind fun r1 => if r1.1.1 = 4 then none else
          Ev prog clsT X d mc141 48 [(2, 0), (0, x1), (0, x2)] (pushR r1.1 []) r1.2) else none)
      else
        ((fget 5658 ((mk E c s (hh g))) 0).bind fun v2 =>
          if (2 : Nat) = 2 ∧ rcv ((mk E c s (hh g))) v2 3 = true then
          ((Call prog clsT X d 19 [(2, v2), (0, x1)] ((mk E c s (hh g)))).bind fun r3 => if r3.1.1 = 4 then none else
          Ev prog clsT X d mc141 40 [(2, 0), (0, x1), (0, x2)] (pushR r3.1 []) r3.2) else none))
    else
      ((fget 5658 ((mk E c s (hh g))) 0).bind fun v4 =>
        (fget 1038 ((mk E c s (hh g))) v4).bind fun v5 =>
        (aget X 100 ((mk E c s (hh g))) v5 x1).bind fun v6 =>
        some ((0, v6), (mk E c s (hh g)))))
  else
    ((fget 5658 ((mk E c s (hh g))) 0).bind fun v7 =>
      (fget 1034 ((mk E c s (hh g))) v7).bind fun v8 =>
      (aget X 100 ((mk E c s (hh g))) v8 x1).bind fun v9 =>
      some ((0, v9), (mk E c s (hh g)))))
else
  (some ((4, 0), ((((mk E c s (hh g)))).1, (((mk E c s (hh g)))).2.1, (((mk E c s (hh g)))).2.2.1 + 8, (((mk E c s (hh g)))).2.2.2 + 64))))) X [0, 4, 9, 40, 48] 15 rfl).trans (by simp (disch := decide) only [A31, A32, F1034_30, F1038_30, F5658_0, R0_12, R30_3, bindI, Option.bind_some, if_true_, and_self, ite_true, true_and, true_or, or_true])
theorem r141_40 (d : Nat) (x1 x2 s0 : Int) : Ev prog clsT X d mc141 40 [(2, 0), (0, x1), (0, x2)] [(0, s0)] (mk E c s (hh g)) =
  (if cmpI .eq s0 0 = true then
  (some ((0, 0), ((mk E c s (hh g)))))
else
  (some ((0, 1), ((mk E c s (hh g)))))) :=
  (evk_at (r := (if cmpI .eq s0 0 = true then
  (some ((0, 0), (mk E c s (hh g))))
else
  (some ((0, 1), (mk E c s (hh g)))))) X [0, 4, 9, 40, 48] 5 rfl).trans (by simp (disch := decide) only [bindI, Option.bind_some, if_true_, and_self, ite_true, true_and, true_or, or_true])
theorem r141_48 (d : Nat) (x1 x2 : Int) : Ev prog clsT X d mc141 48 [(2, 0), (0, x1), (0, x2)] [] (mk E c s (hh g)) =
  (if inb x2 11 = true then
  (some ((0, (g 28 (Int.toNat x2))), ((mk E c s (hh g)))))
else none) :=
  (evk_at (r := ((fget 5654 ((mk E c s (hh g))) 0).bind fun v1 =>
  (fget 4098 ((mk E c s (hh g))) v1).bind fun v2 =>
  (aget X 100 ((mk E c s (hh g))) v2 x2).bind fun v3 =>
  some ((0, v3), (mk E c s (hh g))))) X [0, 4, 9, 40, 48] 7 rfl).trans (by simp (disch := decide) only [A28, F4098_27, F5654_0, bindI, Option.bind_some, if_true_, and_self, ite_true, true_and, true_or, or_true])
theorem r142_0 (d : Nat) (x1 x2 : Int) : Ev prog clsT X d mc142 0 [(2, 0), (0, x1), (0, x2)] [] (mk E c s (hh g)) =
  ((Call prog clsT X d 20 [(2, 30), (0, x1)] ((mk E c s (hh g)))).bind fun r1 => if r1.1.1 = 4 then none else
  Ev prog clsT X d mc142 4 [(2, 0), (0, x1), (0, x2)] (pushR r1.1 []) r1.2) :=
  (evk_at (r := ((fget 5658 ((mk E c s (hh g))) 0).bind fun v1 =>
  if (2 : Nat) = 2 ∧ rcv ((mk E c s (hh g))) v1 3 = true then
  ((Call prog clsT X d 20 [(2, v1), (0, x1)] ((mk E c s (hh g)))).bind fun r2 => if r2.1.1 = 4 then none else
  Ev prog clsT X d mc142 4 [(2, 0), (0, x1), (0, x2)] (pushR r2.1 []) r2.2) else none)) X [0, 4, 9, 18, 27, 28] 5 rfl).trans (by simp (disch := decide) only [F5658_0, R30_3, bindI, Option.bind_some, if_true_, and_self, ite_true, true_and, true_or, or_true])
theorem rc142_ (d : Nat) (x1 x2 : Int) : Call prog clsT X (d + 1) 142 [(2, 0), (0, x1), (0, x2)] (mk E c s (hh g)) =
  ((Call prog clsT X d 20 [(2, 30), (0, x1)] ((mk E c s (hh g)))).bind fun r1 => if r1.1.1 = 4 then none else
  Ev prog clsT X d mc142 4 [(2, 0), (0, x1), (0, x2)] (pushR r1.1 []) r1.2) :=
  (show Call prog clsT X (d + 1) 142 [(2, 0), (0, x1), (0, x2)] (mk E c s (hh g)) = Ev prog clsT X d mc142 0 [(2, 0), (0, x1), (0, x2)] [] (mk E c s (hh g)) from rfl).trans (r142_0 X E c s g d x1 x2 )
theorem r142_4 (d : Nat) (x1 x2 s0 : Int) : Ev prog clsT X d mc142 4 [(2, 0), (0, x1), (0, x2)] [(0, s0)] (mk E c s (hh g)) =
  (if cmpI .eq s0 0 = true then
  (some ((4, 0), ((((mk E c s (hh g)))).1, (((mk E c s (hh g)))).2.1, (((mk E c s (hh g)))).2.2.1 + 8, (((mk E c s (hh g)))).2.2.2 + 64)))
else
  ((Call prog clsT X d 34 [(2, 36), (0, x2)] ((mk E c s (hh g)))).bind fun r1 => if r1.1.1 = 4 then none else
    Ev prog clsT X d mc142 9 [(2, 0), (0, x1), (0, x2)] (pushR r1.1 []) r1.2)) :=
  (evk_at (r := (if cmpI .eq s0 0 = true then
  (some ((4, 0), ((((mk E c s (hh g)))).1, (((mk E c s (hh g)))).2.1, (((mk E c s (hh g)))).2.2.1 + 8, (((mk E c s (hh g)))).2.2.2 + 64)))
else
  ((fget 5662 ((mk E c s (hh g))) 0).bind fun v1 =>
    if (2 : Nat) = 2 ∧ rcv ((mk E c s (hh g))) v1 5 = true then
    ((Call prog clsT X d 34 [(2, v1), (0, x2)] ((mk E c s (hh g)))).bind fun r2 => if r2.1.1 = 4 then none else
    Ev prog clsT X d mc142 9 [(2, 0), (0, x1), (0, x2)] (pushR r2.1 []) r2.2) else none))) X [0, 4, 9, 18, 27, 28] 6 rfl).trans (by simp (disch := decide) only [F5662_0, R36_5, bindI, Option.bind_some, if_true_, and_self, ite_true, true_and, true_or, or_true])
theorem r142_9 (d : Nat) (x1 x2 s0 : Int) : Ev prog clsT X d mc142 9 [(2, 0), (0, x1), (0, x2)] [(0, s0)] (mk E c s (hh g)) =
  (if cmpI .ne s0 0 = true then
  ((Call prog clsT X d 108 [(2, 0), (0, x1)] ((mk E c s (hh g)))).bind fun r1 => if r1.1.1 = 4 then none else
    Ev prog clsT X d mc142 18 [(2, 0), (0, x1), (0, x2)] (pushR r1.1 []) r1.2)
else
  (some ((4, 0), ((((mk E c s (hh g)))).1, (((mk E c s (hh g)))).2.1, (((mk E c s (hh g)))).2.2.1 + 8, (((mk E c s (hh g)))).2.2.2 + 64)))) :=
  (evk_at (r := (if cmpI .ne s0 0 = true then
  (if (2 : Nat) = 2 ∧ rcv ((mk E c s (hh g))) 0 12 = true then
    ((Call prog clsT X d 108 [(2, 0), (0, x1)] ((mk E c s (hh g)))).bind fun r1 => if r1.1.1 = 4 then none else
    Ev prog clsT X d mc142 18 [(2, 0), (0, x1), (0, x2)] (pushR r1.1 []) r1.2) else none)
else
  (some ((4, 0), ((((mk E c s (hh g)))).1, (((mk E c s (hh g)))).2.1, (((mk E c s (hh g)))).2.2.1 + 8, (((mk E c s (hh g)))).2.2.2 + 64))))) X [0, 4, 9, 18, 27, 28] 5 rfl).trans (by simp (disch := decide) only [R0_12, bindI, Option.bind_some, if_true_, and_self, ite_true, true_and, true_or, or_true])
theorem r142_18 (d : Nat) (x1 x2 : Int) : Ev prog clsT X d mc142 18 [(2, 0), (0, x1), (0, x2)] [] (mk E c s (hh g)) =
  (if inb x1 40 = true then
  ((Call prog clsT X d 97 [(2, 0), (0, (g 31 (Int.toNat x1)))] ((mk E c s (hh g)))).bind fun r1 => if r1.1.1 = 4 then none else
  Ev prog clsT X d mc142 27 [(2, 0), (0, x1), (0, x2)] (pushR r1.1 [(0, x2), (2, 0)]) r1.2)
else none) :=
  (evk_at (r := ((fget 5658 ((mk E c s (hh g))) 0).bind fun v1 =>
  (fget 1034 ((mk E c s (hh g))) v1).bind fun v2 =>
  (aget X 100 ((mk E c s (hh g))) v2 x1).bind fun v3 =>
  if (2 : Nat) = 2 ∧ rcv ((mk E c s (hh g))) 0 12 = true then
  ((Call prog clsT X d 97 [(2, 0), (0, v3)] ((mk E c s (hh g)))).bind fun r4 => if r4.1.1 = 4 then none else
  Ev prog clsT X d mc142 27 [(2, 0), (0, x1), (0, x2)] (pushR r4.1 [(0, x2), (2, 0)]) r4.2) else none)) X [0, 4, 9, 18, 27, 28] 10 rfl).trans (by simp (disch := decide) only [A31, F1034_30, F5658_0, R0_12, bindI, Option.bind_some, if_true_, and_self, ite_true, true_and, true_or, or_true])
theorem r142_27 (d : Nat) (x1 x2 s1 s2 : Int) : Ev prog clsT X d mc142 27 [(2, 0), (0, x1), (0, x2)] [(2, s2), (0, s1), (2, 0)] (mk E c s (hh g)) =
  ((Call prog clsT X d 109 [(2, 0), (0, s1), (2, s2)] ((mk E c s (hh g)))).bind fun r1 => if r1.1.1 = 4 then none else
  Ev prog clsT X d mc142 28 [(2, 0), (0, x1), (0, x2)] (pushR r1.1 []) r1.2) :=
  (evk_at (r := (if (2 : Nat) = 2 ∧ rcv ((mk E c s (hh g))) 0 12 = true then
  ((Call prog clsT X d 109 [(2, 0), (0, s1), (2, s2)] ((mk E c s (hh g)))).bind fun r1 => if r1.1.1 = 4 then none else
  Ev prog clsT X d mc142 28 [(2, 0), (0, x1), (0, x2)] (pushR r1.1 []) r1.2) else none)) X [0, 4, 9, 18, 27, 28] 2 rfl).trans (by simp (disch := decide) only [R0_12, bindI, Option.bind_some, if_true_, and_self, ite_true, true_and, true_or, or_true])
theorem r142_28 (d : Nat) (x1 x2 s0 : Int) : Ev prog clsT X d mc142 28 [(2, 0), (0, x1), (0, x2)] [(0, s0)] (mk E c s (hh g)) =
  (some ((0, s0), ((mk E c s (hh g))))) :=
  (evk_at (r := (some ((0, s0), (mk E c s (hh g))))) X [0, 4, 9, 18, 27, 28] 2 rfl).trans (by simp (disch := decide) only [bindI, Option.bind_some, if_true_, and_self, ite_true, true_and, true_or, or_true])
theorem r143_0 (d : Nat) (x1 : Int) : Ev prog clsT X d mc143 0 [(2, 0), (0, x1), (3, 0), (3, 0)] [] (mk E c s (hh g)) =
  ((Call prog clsT X d 84 [(2, 1), (0, x1)] ((mk E c s (hh g)))).bind fun r1 => if r1.1.1 = 4 then none else
  Ev prog clsT X d mc143 4 [(2, 0), (0, x1), (3, 0), (3, 0)] (pushR r1.1 []) r1.2) :=
  (evk_at (r := ((fget 5634 ((mk E c s (hh g))) 0).bind fun v1 =>
  if (2 : Nat) = 2 ∧ rcv ((mk E c s (hh g))) v1 11 = true then
  ((Call prog clsT X d 84 [(2, v1), (0, x1)] ((mk E c s (hh g)))).bind fun r2 => if r2.1.1 = 4 then none else
  Ev prog clsT X d mc143 4 [(2, 0), (0, x1), (3, 0), (3, 0)] (pushR r2.1 []) r2.2) else none)) X [0, 4, 12, 20] 5 rfl).trans (by simp (disch := decide) only [F5634_0, R1_11, bindI, Option.bind_some, if_true_, and_self, ite_true, true_and, true_or, or_true])
theorem rc143_ (d : Nat) (x1 : Int) : Call prog clsT X (d + 1) 143 [(2, 0), (0, x1)] (mk E c s (hh g)) =
  ((Call prog clsT X d 84 [(2, 1), (0, x1)] ((mk E c s (hh g)))).bind fun r1 => if r1.1.1 = 4 then none else
  Ev prog clsT X d mc143 4 [(2, 0), (0, x1), (3, 0), (3, 0)] (pushR r1.1 []) r1.2) :=
  (show Call prog clsT X (d + 1) 143 [(2, 0), (0, x1)] (mk E c s (hh g)) = Ev prog clsT X d mc143 0 [(2, 0), (0, x1), (3, 0), (3, 0)] [] (mk E c s (hh g)) from rfl).trans (r143_0 X E c s g d x1 )
theorem r143_4 (d : Nat) (x1 s0 : Int) : Ev prog clsT X d mc143 4 [(2, 0), (0, x1), (3, 0), (3, 0)] [(0, s0)] (mk E c s (hh g)) =
  (if cmpI .ne s0 0 = true then
  ((Call prog clsT X d 123 [(2, 0)] ((mk E c s (hh g)))).bind fun r1 => if r1.1.1 = 4 then none else
    Ev prog clsT X d mc143 12 [(2, 0), (0, x1), (3, 0), (3, 0)] (pushR r1.1 []) r1.2)
else
  (some ((4, 0), ((((mk E c s (hh g)))).1, (((mk E c s (hh g)))).2.1, (((mk E c s (hh g)))).2.2.1 + 8, (((mk E c s (hh g)))).2.2.2 + 64)))) :=
  (evk_at (r := (if cmpI .ne s0 0 = true then
  (if (2 : Nat) = 2 ∧ rcv ((mk E c s (hh g))) 0 12 = true then
    ((Call prog clsT X d 123 [(2, 0)] ((mk E c s (hh g)))).bind fun r1 => if r1.1.1 = 4 then none else
    Ev prog clsT X d mc143 12 [(2, 0), (0, x1), (3, 0), (3, 0)] (pushR r1.1 []) r1.2) else none)
else
  (some ((4, 0), ((((mk E c s (hh g)))).1, (((mk E c s (hh g)))).2.1, (((mk E c s (hh g)))).2.2.1 + 8, (((mk E c s (hh g)))).2.2.2 + 64))))) X [0, 4, 12, 20] 4 rfl).trans (by simp (disch := decide) only [R0_12, bindI, Option.bind_some, if_true_, and_self, ite_true, true_and, true_or, or_true])
theorem r143_12 (d : Nat) (x1 : Int) : Ev prog clsT X d mc143 12 [(2, 0), (0, x1), (3, 0), (3, 0)] [] (mk E c s (hh g)) =
  (if inb x1 10 = true then
  (Ev prog clsT X d mc143 20 [(2, 0), (0, x1), (0, (g 64 (Int.toNat x1))), (0, 0)] [] (mk E c s (hh g)))
else none) :=
  (evk_at (r := ((fget 5674 ((mk E c s (hh g))) 0).bind fun v1 =>
  (fget 42 ((mk E c s (hh g))) v1).bind fun v2 =>
  (aget X 100 ((mk E c s (hh g))) v2 x1).bind fun v3 =>
  Ev prog clsT X d mc143 20 [(2, 0), (0, x1), (0, v3), (0, 0)] [] (mk E c s (hh g)))) X [0, 4, 12, 20] 10 rfl).trans (by simp (disch := decide) only [A64, F42_55, F5674_0, bindI, Option.bind_some, if_true_, and_self, ite_true, true_and, true_or, or_true])
theorem r143_20 (d : Nat) (x1 x2 x3 : Int) : Ev prog clsT X d mc143 20 [(2, 0), (0, x1), (0, x2), (0, x3)] [] (mk E c s (hh g)) =
  (if cmpI .ge x3 ((g 30 0)) = true then
  (some ((0, x2), ((mk E c s (hh g)))))
else
  (if inb x3 40 = true then
    (if cmpI .ne ((g 32 (Int.toNat x3))) x1 = true then
    (Ev prog clsT X d mc143 20 [(2, 0), (0, x1), (0, x2), (0, (w32 (x3 + 1)))] [] (mk E c s (hh g)))
  else
    (if inb x3 40 = true then
      (Ev prog clsT X d mc143 20 [(2, 0), (0, x1), (0, (w32 (x2 - ((w32 (((g 55 6)) + ((w32 (((g 55 7)) * ((g 35 (Int.toNat x3)))))))))))), (0, (w32 (x3 + 1)))] [] (mk E c s (hh g)))
    else none))
  else none)) :=
  (evk_at (r := ((fget 5658 ((mk E c s (hh g))) 0).bind fun v1 =>
  (fget 1024 ((mk E c s (hh g))) v1).bind fun v2 =>
  if cmpI .ge x3 v2 = true then
  (some ((0, x2), (mk E c s (hh g))))
else
  ((fget 5658 ((mk E c s (hh g))) 0).bind fun v3 =>
    (fget 1038 ((mk E c s (hh g))) v3).bind fun v4 =>
    (aget X 100 ((mk E c s (hh g))) v4 x3).bind fun v5 =>
    if cmpI .ne v5 x1 = true then
    (Ev prog clsT X d mc143 20 [(2, 0), (0, x1), (0, x2), (0, (w32 (x3 + 1)))] [] (mk E c s (hh g)))
  else
    ((fget 5674 ((mk E c s (hh g))) 0).bind fun v6 =>
      (fget 24 ((mk E c s (hh g))) v6).bind fun v7 =>
      (fget 5674 ((mk E c s (hh g))) 0).bind fun v8 =>
      (fget 28 ((mk E c s (hh g))) v8).bind fun v9 =>
      (fget 5658 ((mk E c s (hh g))) 0).bind fun v10 =>
      (fget 1050 ((mk E c s (hh g))) v10).bind fun v11 =>
      (aget X 100 ((mk E c s (hh g))) v11 x3).bind fun v12 =>
      Ev prog clsT X d mc143 20 [(2, 0), (0, x1), (0, (w32 (x2 - ((w32 (v7 + ((w32 (v9 * v12))))))))), (0, (w32 (x3 + 1)))] [] (mk E c s (hh g)))))) X [0, 4, 12, 20] 32 rfl).trans (by simp (disch := decide) only [A32, A35, F1024_30, F1038_30, F1050_30, F24_55, F28_55, F5658_0, F5674_0, bindI, Option.bind_some, if_true_, and_self, ite_true, true_and, true_or, or_true])
theorem r144_0 (d : Nat) (x1 x2 x3 x4 : Int) : Ev prog clsT X d mc144 0 [(2, 0), (0, x1), (0, x2), (0, x3), (0, x4), (3, 0), (3, 0), (3, 0), (3, 0), (3, 0), (3, 0), (3, 0), (3, 0), (3, 0), (3, 0)] [] (mk E c s (hh g)) =
  ((Call prog clsT X d 97 [(2, 0), (0, x2)] ((mk E c s (hh g)))).bind fun r1 => if r1.1.1 = 4 then none else
  Ev prog clsT X d mc144 3 [(2, 0), (0, x1), (0, x2), (0, x3), (0, x4), (3, 0), (3, 0), (3, 0), (3, 0), (3, 0), (3, 0), (3, 0), (3, 0), (3, 0), (3, 0)] (pushR r1.1 []) r1.2) :=
  (evk_at (r := (if (2 : Nat) = 2 ∧ rcv ((mk E c s (hh g))) 0 12 = true then
  ((Call prog clsT X d 97 [(2, 0), (0, x2)] ((mk E c s (hh g)))).bind fun r1 => if r1.1.1 = 4 then none else
  Ev prog clsT X d mc144 3 [(2, 0), (0, x1), (0, x2), (0, x3), (0, x4), (3, 0), (3, 0), (3, 0), (3, 0), (3, 0), (3, 0), (3, 0), (3, 0), (3, 0), (3, 0)] (pushR r1.1 []) r1.2) else none)) X [0, 3, 7, 19, 24, 33, 54, 60, 69, 121] 4 rfl).trans (by simp (disch := decide) only [R0_12, bindI, Option.bind_some, if_true_, and_self, ite_true, true_and, true_or, or_true])
theorem rc144_ (d : Nat) (x1 x2 x3 x4 : Int) : Call prog clsT X (d + 1) 144 [(2, 0), (0, x1), (0, x2), (0, x3), (0, x4)] (mk E c s (hh g)) =
  ((Call prog clsT X d 97 [(2, 0), (0, x2)] ((mk E c s (hh g)))).bind fun r1 => if r1.1.1 = 4 then none else
  Ev prog clsT X d mc144 3 [(2, 0), (0, x1), (0, x2), (0, x3), (0, x4), (3, 0), (3, 0), (3, 0), (3, 0), (3, 0), (3, 0), (3, 0), (3, 0), (3, 0), (3, 0)] (pushR r1.1 []) r1.2) :=
  (show Call prog clsT X (d + 1) 144 [(2, 0), (0, x1), (0, x2), (0, x3), (0, x4)] (mk E c s (hh g)) = Ev prog clsT X d mc144 0 [(2, 0), (0, x1), (0, x2), (0, x3), (0, x4), (3, 0), (3, 0), (3, 0), (3, 0), (3, 0), (3, 0), (3, 0), (3, 0), (3, 0), (3, 0)] [] (mk E c s (hh g)) from rfl).trans (r144_0 X E c s g d x1 x2 x3 x4 )
theorem r144_3 (d : Nat) (x1 x2 x3 x4 s0 : Int) : Ev prog clsT X d mc144 3 [(2, 0), (0, x1), (0, x2), (0, x3), (0, x4), (3, 0), (3, 0), (3, 0), (3, 0), (3, 0), (3, 0), (3, 0), (3, 0), (3, 0), (3, 0)] [(2, s0)] (mk E c s (hh g)) =
  ((Call prog clsT X d 97 [(2, 0), (0, x3)] ((mk E c s (hh g)))).bind fun r1 => if r1.1.1 = 4 then none else
  Ev prog clsT X d mc144 7 [(2, 0), (0, x1), (0, x2), (0, x3), (0, x4), (2, s0), (3, 0), (3, 0), (3, 0), (3, 0), (3, 0), (3, 0), (3, 0), (3, 0), (3, 0)] (pushR r1.1 []) r1.2) :=
  (evk_at (r := (if (2 : Nat) = 2 ∧ rcv ((mk E c s (hh g))) 0 12 = true then
  ((Call prog clsT X d 97 [(2, 0), (0, x3)] ((mk E c s (hh g)))).bind fun r1 => if r1.1.1 = 4 then none else
  Ev prog clsT X d mc144 7 [(2, 0), (0, x1), (0, x2), (0, x3), (0, x4), (2, s0), (3, 0), (3, 0), (3, 0), (3, 0), (3, 0), (3, 0), (3, 0), (3, 0), (3, 0)] (pushR r1.1 []) r1.2) else none)) X [0, 3, 7, 19, 24, 33, 54, 60, 69, 121] 5 rfl).trans (by simp (disch := decide) only [R0_12, bindI, Option.bind_some, if_true_, and_self, ite_true, true_and, true_or, or_true])
theorem r144_7 (d : Nat) (x1 x2 x3 x4 x5 s0 : Int) : Ev prog clsT X d mc144 7 [(2, 0), (0, x1), (0, x2), (0, x3), (0, x4), (2, x5), (3, 0), (3, 0), (3, 0), (3, 0), (3, 0), (3, 0), (3, 0), (3, 0), (3, 0)] [(2, s0)] (mk E c s (hh g)) =
  (if (2 : Nat) = 2 ∧ x5 ≠ -5 then (if (decide (x5 = -1)) = true then
  (some ((4, 0), ((((mk E c s (hh g)))).1, (((mk E c s (hh g)))).2.1, (((mk E c s (hh g)))).2.2.1 + 8, (((mk E c s (hh g)))).2.2.2 + 64)))
else
  (if (2 : Nat) = 2 ∧ s0 ≠ -5 then (if (decide (s0 = -1)) = true then
    (some ((4, 0), ((((mk E c s (hh g)))).1, (((mk E c s (hh g)))).2.1, (((mk E c s (hh g)))).2.2.1 + 8, (((mk E c s (hh g)))).2.2.2 + 64)))
  else
    (if cmpI .eq x2 x3 = true then
      (some ((4, 0), ((((mk E c s (hh g)))).1, (((mk E c s (hh g)))).2.1, (((mk E c s (hh g)))).2.2.1 + 8, (((mk E c s (hh g)))).2.2.2 + 64)))
    else
      ((Call prog clsT X d 90 [(0, x4), (0, 0), (0, 2)] ((mk E c s (hh g)))).bind fun r1 => if r1.1.1 = 4 then none else
        Ev prog clsT X d mc144 19 [(2, 0), (0, x1), (0, x2), (0, x3), (0, x4), (2, x5), (2, s0), (3, 0), (3, 0), (3, 0), (3, 0), (3, 0), (3, 0), (3, 0), (3, 0)] (pushR r1.1 []) r1.2))) else none)) else none) :=
  evk_at X [0, 3, 7, 19, 24, 33, 54, 60, 69, 121] 13 rfl
theorem r144_19 (d : Nat) (x1 x2 x3 x4 x5 x6 s0 : Int) : Ev prog clsT X d mc144 19 [(2, 0), (0, x1), (0, x2), (0, x3), (0, x4), (2, x5), (2, x6), (3, 0), (3, 0), (3, 0), (3, 0), (3, 0), (3, 0), (3, 0), (3, 0)] [(0, s0)] (mk E c s (hh g)) =
  (if cmpI .eq s0 0 = true then
  (some ((4, 0), ((((mk E c s (hh g)))).1, (((mk E c s (hh g)))).2.1, (((mk E c s (hh g)))).2.2.1 + 8, (((mk E c s (hh g)))).2.2.2 + 64)))
else
  ((Call prog clsT X d 84 [(2, 1), (0, x1)] ((mk E c s (hh g)))).bind fun r1 => if r1.1.1 = 4 then none else
    Ev prog clsT X d mc144 24 [(2, 0), (0, x1), (0, x2), (0, x3), (0, x4), (2, x5), (2, x6), (3, 0), (3, 0), (3, 0), (3, 0), (3, 0), (3, 0), (3, 0), (3, 0)] (pushR r1.1 []) r1.2)) :=
  (evk_at (r := (if cmpI .eq s0 0 = true then
  (some ((4, 0), ((((mk E c s (hh g)))).1, (((mk E c s (hh g)))).2.1, (((mk E c s (hh g)))).2.2.1 + 8, (((mk E c s (hh g)))).2.2.2 + 64)))
else
  ((fget 5634 ((mk E c s (hh g))) 0).bind fun v1 =>
    if (2 : Nat) = 2 ∧ rcv ((mk E c s (hh g))) v1 11 = true then
    ((Call prog clsT X d 84 [(2, v1), (0, x1)] ((mk E c s (hh g)))).bind fun r2 => if r2.1.1 = 4 then none else
    Ev prog clsT X d mc144 24 [(2, 0), (0, x1), (0, x2), (0, x3), (0, x4), (2, x5), (2, x6), (3, 0), (3, 0), (3, 0), (3, 0), (3, 0), (3, 0), (3, 0), (3, 0)] (pushR r2.1 []) r2.2) else none))) X [0, 3, 7, 19, 24, 33, 54, 60, 69, 121] 6 rfl).trans (by simp (disch := decide) only [F5634_0, R1_11, bindI, Option.bind_some, if_true_, and_self, ite_true, true_and, true_or, or_true])
theorem r144_24 (d : Nat) (x1 x2 x3 x4 x5 x6 s0 : Int) : Ev prog clsT X d mc144 24 [(2, 0), (0, x1), (0, x2), (0, x3), (0, x4), (2, x5), (2, x6), (3, 0), (3, 0), (3, 0), (3, 0), (3, 0), (3, 0), (3, 0), (3, 0)] [(0, s0)] (mk E c s (hh g)) =
  (if cmpI .ne s0 0 = true then
  ((Call prog clsT X d 145 [(2, 0), (0, x1)] ((mk E c s (hh g)))).bind fun r1 => if r1.1.1 = 4 then none else
    Ev prog clsT X d mc144 33 [(2, 0), (0, x1), (0, x2), (0, x3), (0, x4), (2, x5), (2, x6), (3, 0), (3, 0), (3, 0), (3, 0), (3, 0), (3, 0), (3, 0), (3, 0)] (pushR r1.1 []) r1.2)
else
  (some ((4, 0), ((((mk E c s (hh g)))).1, (((mk E c s (hh g)))).2.1, (((mk E c s (hh g)))).2.2.1 + 8, (((mk E c s (hh g)))).2.2.2 + 64)))) :=
  (evk_at (r := (if cmpI .ne s0 0 = true then
  (if (2 : Nat) = 2 ∧ rcv ((mk E c s (hh g))) 0 12 = true then
    ((Call prog clsT X d 145 [(2, 0), (0, x1)] ((mk E c s (hh g)))).bind fun r1 => if r1.1.1 = 4 then none else
    Ev prog clsT X d mc144 33 [(2, 0), (0, x1), (0, x2), (0, x3), (0, x4), (2, x5), (2, x6), (3, 0), (3, 0), (3, 0), (3, 0), (3, 0), (3, 0), (3, 0), (3, 0)] (pushR r1.1 []) r1.2) else none)
else
  (some ((4, 0), ((((mk E c s (hh g)))).1, (((mk E c s (hh g)))).2.1, (((mk E c s (hh g)))).2.2.1 + 8, (((mk E c s (hh g)))).2.2.2 + 64))))) X [0, 3, 7, 19, 24, 33, 54, 60, 69, 121] 5 rfl).trans (by simp (disch := decide) only [R0_12, bindI, Option.bind_some, if_true_, and_self, ite_true, true_and, true_or, or_true])
theorem r144_33 (d : Nat) (x1 x2 x3 x4 x5 x6 s0 : Int) : Ev prog clsT X d mc144 33 [(2, 0), (0, x1), (0, x2), (0, x3), (0, x4), (2, x5), (2, x6), (3, 0), (3, 0), (3, 0), (3, 0), (3, 0), (3, 0), (3, 0), (3, 0)] [(0, s0)] (mk E c s (hh g)) =
  (if cmpI .le s0 10 = true then
  ((Call prog clsT X d 146 [(2, 0), (0, x1), (0, x3), (2, x6), (0, (w32 (((ishl32 1 s0)) - 1)))] ((mk E c s (hh g)))).bind fun r1 => if r1.1.1 = 4 then none else
    Ev prog clsT X d mc144 54 [(2, 0), (0, x1), (0, x2), (0, x3), (0, x4), (2, x5), (2, x6), (0, s0), (0, (w32 (((ishl32 1 s0)) - 1))), (3, 0), (3, 0), (3, 0), (3, 0), (3, 0), (3, 0)] (pushR r1.1 []) r1.2)
else
  (some ((4, 0), ((((mk E c s (hh g)))).1, (((mk E c s (hh g)))).2.1, (((mk E c s (hh g)))).2.2.1 + 8, (((mk E c s (hh g)))).2.2.2 + 64)))) :=
  (evk_at (r := (if cmpI .le s0 10 = true then
  (if (2 : Nat) = 2 ∧ rcv ((mk E c s (hh g))) 0 12 = true then
    ((Call prog clsT X d 146 [(2, 0), (0, x1), (0, x3), (2, x6), (0, (w32 (((ishl32 1 s0)) - 1)))] ((mk E c s (hh g)))).bind fun r1 => if r1.1.1 = 4 then none else
    Ev prog clsT X d mc144 54 [(2, 0), (0, x1), (0, x2), (0, x3), (0, x4), (2, x5), (2, x6), (0, s0), (0, (w32 (((ishl32 1 s0)) - 1))), (3, 0), (3, 0), (3, 0), (3, 0), (3, 0), (3, 0)] (pushR r1.1 []) r1.2) else none)
else
  (some ((4, 0), ((((mk E c s (hh g)))).1, (((mk E c s (hh g)))).2.1, (((mk E c s (hh g)))).2.2.1 + 8, (((mk E c s (hh g)))).2.2.2 + 64))))) X [0, 3, 7, 19, 24, 33, 54, 60, 69, 121] 17 rfl).trans (by simp (disch := decide) only [R0_12, bindI, Option.bind_some, if_true_, and_self, ite_true, true_and, true_or, or_true])
theorem r144_54 (d : Nat) (x1 x2 x3 x4 x5 x6 x7 x8 : Int) : Ev prog clsT X d mc144 54 [(2, 0), (0, x1), (0, x2), (0, x3), (0, x4), (2, x5), (2, x6), (0, x7), (0, x8), (3, 0), (3, 0), (3, 0), (3, 0), (3, 0), (3, 0)] [] (mk E c s (hh g)) =
  (Ev prog clsT X d mc144 60 [(2, 0), (0, x1), (0, x2), (0, x3), (0, x4), (2, x5), (2, x6), (0, x7), (0, x8), (1, (-4611686018427387904)), (3, 0), (0, 0), (0, 0), (3, 0), (3, 0)] [] (mk E c s (hh g))) :=
  evk_at X [0, 3, 7, 19, 24, 33, 54, 60, 69, 121] 8 rfl
theorem r144_60 (d : Nat) (x1 x2 x4 x5 x8 x9 x11 x12 : Int) (w3 w6 w7 w10 w13 w14 : MV) : Ev prog clsT X d mc144 60 [(2, 0), (0, x1), (0, x2), w3, (0, x4), (2, x5), w6, w7, (0, x8), (1, x9), w10, (0, x11), (0, x12), w13, w14] [] (mk E c s (hh g)) =
  (if cmpI .gt x12 x8 = true then
  (if cmpI .ne x4 0 = true then
    (if cmpI .ne x4 1 = true then
      (if inb ((iand32 x8 ((ixor32 x11 ((-1)))))) 1024 = true then
        ((Call prog clsT X d 148 [(2, 0), (0, (g 88 (Int.toNat ((iand32 x8 ((ixor32 x11 ((-1)))))))))] ((mk E c s (hh g)))).bind fun r1 => if r1.1.1 = 4 then none else
        Ev prog clsT X d mc144 121 [(2, 0), (0, x1), (0, x2), (3, 0), (0, x4), (2, x5), (3, 0), (3, 0), (0, x8), (1, x9), (3, 0), (0, x11), (0, x12), (3, 0), (3, 0)] (pushR r1.1 []) r1.2)
      else none)
    else
      ((Call prog clsT X d 148 [(2, 0), (0, x11)] ((mk E c s (hh g)))).bind fun r2 => if r2.1.1 = 4 then none else
        Ev prog clsT X d mc144 121 [(2, 0), (0, x1), (0, x2), (3, 0), (0, x4), (2, x5), (3, 0), (3, 0), (0, x8), (1, x9), (3, 0), (0, x11), (0, x12), (3, 0), (3, 0)] (pushR r2.1 []) r2.2))
  else
    (some ((1, x9), ((mk E c s (hh g))))))
else
  ((Call prog clsT X d 147 [(2, 0), (0, x1), (0, x2), (2, x5), (0, x12)] ((mk E c s (hh g)))).bind fun r3 => if r3.1.1 = 4 then none else
    Ev prog clsT X d mc144 69 [(2, 0), (0, x1), (0, x2), (3, 0), (0, x4), (2, x5), (3, 0), (3, 0), (0, x8), (1, x9), (3, 0), (0, x11), (0, x12), (3, 0), (3, 0)] (pushR r3.1 []) r3.2)) :=
  (evk_at (r := (if cmpI .gt x12 x8 = true then
  (if cmpI .ne x4 0 = true then
    (if cmpI .ne x4 1 = true then
      ((fget 5694 ((mk E c s (hh g))) 0).bind fun v1 =>
        (aget X 100 ((mk E c s (hh g))) v1 ((iand32 x8 ((ixor32 x11 ((-1))))))).bind fun v2 =>
        if (2 : Nat) = 2 ∧ rcv ((mk E c s (hh g))) 0 12 = true then
        ((Call prog clsT X d 148 [(2, 0), (0, v2)] ((mk E c s (hh g)))).bind fun r3 => if r3.1.1 = 4 then none else
        Ev prog clsT X d mc144 121 [(2, 0), (0, x1), (0, x2), (3, 0), (0, x4), (2, x5), (3, 0), (3, 0), (0, x8), (1, x9), (3, 0), (0, x11), (0, x12), (3, 0), (3, 0)] (pushR r3.1 []) r3.2) else none)
    else
      (if (2 : Nat) = 2 ∧ rcv ((mk E c s (hh g))) 0 12 = true then
        ((Call prog clsT X d 148 [(2, 0), (0, x11)] ((mk E c s (hh g)))).bind fun r4 => if r4.1.1 = 4 then none else
        Ev prog clsT X d mc144 121 [(2, 0), (0, x1), (0, x2), (3, 0), (0, x4), (2, x5), (3, 0), (3, 0), (0, x8), (1, x9), (3, 0), (0, x11), (0, x12), (3, 0), (3, 0)] (pushR r4.1 []) r4.2) else none))
  else
    (some ((1, x9), (mk E c s (hh g)))))
else
  (if (2 : Nat) = 2 ∧ rcv ((mk E c s (hh g))) 0 12 = true then
    ((Call prog clsT X d 147 [(2, 0), (0, x1), (0, x2), (2, x5), (0, x12)] ((mk E c s (hh g)))).bind fun r5 => if r5.1.1 = 4 then none else
    Ev prog clsT X d mc144 69 [(2, 0), (0, x1), (0, x2), (3, 0), (0, x4), (2, x5), (3, 0), (3, 0), (0, x8), (1, x9), (3, 0), (0, x11), (0, x12), (3, 0), (3, 0)] (pushR r5.1 []) r5.2) else none))) X [0, 3, 7, 19, 24, 33, 54, 60, 69, 121] 19 rfl).trans (by simp (disch := decide) only [A88, F5694_0, R0_12, bindI, Option.bind_some, if_true_, and_self, ite_true, true_and, true_or, or_true])
set_option maxRecDepth 100000 in
theorem r144_69 (d : Nat) (x1 x2 x4 x5 x8 x9 x11 x12 s0 : Int) : Ev prog clsT X d mc144 69 [(2, 0), (0, x1), (0, x2), (3, 0), (0, x4), (2, x5), (3, 0), (3, 0), (0, x8), (1, x9), (3, 0), (0, x11), (0, x12), (3, 0), (3, 0)] [(1, s0)] (mk E c s (hh g)) =
  (if cmpI .eq ((lcmpI s0 ((-4611686018427387904)))) 0 = true then
  (Ev prog clsT X d mc144 60 [(2, 0), (0, x1), (0, x2), (3, 0), (0, x4), (2, x5), (3, 0), (3, 0), (0, x8), (1, x9), (3, 0), (0, x11), (0, (w32 (x12 + 1))), (1, s0), (3, 0)] [] (mk E c s (hh g)))
else
  (if inb ((iand32 x8 ((ixor32 x12 ((-1)))))) 1024 = true then
    (if cmpI .le ((lcmpI ((w64 (s0 + ((g 87 (Int.toNat ((iand32 x8 ((ixor32 x12 ((-1)))))))))))) x9)) 0 = true then
    (Ev prog clsT X d mc144 60 [(2, 0), (0, x1), (0, x2), (3, 0), (0, x4), (2, x5), (3, 0), (3, 0), (0, x8), (1, x9), (3, 0), (0, x11), (0, (w32 (x12 + 1))), (1, s0), (3, 0)] [] (mk E c s (hh g)))
  else
    (if inb ((iand32 x8 ((ixor32 x12 ((-1)))))) 1024 = true then
      (Ev prog clsT X d mc144 60 [(2, 0), (0, x1), (0, x2), (3, 0), (0, x4), (2, x5), (3, 0), (3, 0), (0, x8), (1, (w64 (s0 + ((g 87 (Int.toNat ((iand32 x8 ((ixor32 x12 ((-1)))))))))))), (3, 0), (0, x12), (0, (w32 (x12 + 1))), (1, s0), (3, 0)] [] (mk E c s (hh g)))
    else none))
  else none)) :=
  (evk_at (r := (if cmpI .eq ((lcmpI s0 ((-4611686018427387904)))) 0 = true then
  (Ev prog clsT X d mc144 60 [(2, 0), (0, x1), (0, x2), (3, 0), (0, x4), (2, x5), (3, 0), (3, 0), (0, x8), (1, x9), (3, 0), (0, x11), (0, (w32 (x12 + 1))), (1, s0), (3, 0)] [] (mk E c s (hh g)))
else
  ((fget 5690 ((mk E c s (hh g))) 0).bind fun v1 =>
    (aget X 101 ((mk E c s (hh g))) v1 ((iand32 x8 ((ixor32 x12 ((-1))))))).bind fun v2 =>
    if cmpI .le ((lcmpI ((w64 (s0 + v2))) x9)) 0 = true then
    (Ev prog clsT X d mc144 60 [(2, 0), (0, x1), (0, x2), (3, 0), (0, x4), (2, x5), (3, 0), (3, 0), (0, x8), (1, x9), (3, 0), (0, x11), (0, (w32 (x12 + 1))), (1, s0), (3, 0)] [] (mk E c s (hh g)))
  else
    ((fget 5690 ((mk E c s (hh g))) 0).bind fun v3 =>
      (aget X 101 ((mk E c s (hh g))) v3 ((iand32 x8 ((ixor32 x12 ((-1))))))).bind fun v4 =>
      Ev prog clsT X d mc144 60 [(2, 0), (0, x1), (0, x2), (3, 0), (0, x4), (2, x5), (3, 0), (3, 0), (0, x8), (1, (w64 (s0 + v4))), (3, 0), (0, x12), (0, (w32 (x12 + 1))), (1, s0), (3, 0)] [] (mk E c s (hh g)))))) X [0, 3, 7, 19, 24, 33, 54, 60, 69, 121] 35 rfl).trans (by simp (disch := decide) only [A87, F5690_0, bindI, Option.bind_some, if_true_, and_self, ite_true, true_and, true_or, or_true])
theorem r144_121 (d : Nat) (x1 x2 x4 x5 x8 x9 x11 x12 s0 : Int) : Ev prog clsT X d mc144 121 [(2, 0), (0, x1), (0, x2), (3, 0), (0, x4), (2, x5), (3, 0), (3, 0), (0, x8), (1, x9), (3, 0), (0, x11), (0, x12), (3, 0), (3, 0)] [(1, s0)] (mk E c s (hh g)) =
  (some ((1, s0), ((mk E c s (hh g))))) :=
  (evk_at (r := (some ((1, s0), (mk E c s (hh g))))) X [0, 3, 7, 19, 24, 33, 54, 60, 69, 121] 2 rfl).trans (by simp (disch := decide) only [bindI, Option.bind_some, if_true_, and_self, ite_true, true_and, true_or, or_true])
theorem r145_0 (d : Nat) (x1 : Int) : Ev prog clsT X d mc145 0 [(2, 0), (0, x1), (3, 0), (3, 0), (3, 0), (3, 0)] [] (mk E c s (hh g)) =
  ((Call prog clsT X d 85 [(2, 1), (0, x1)] ((mk E c s (hh g)))).bind fun r1 => if r1.1.1 = 4 then none else
  Ev prog clsT X d mc145 4 [(2, 0), (0, x1), (3, 0), (3, 0), (3, 0), (3, 0)] (pushR r1.1 []) r1.2) :=
  (evk_at (r := ((fget 5634 ((mk E c s (hh g))) 0).bind fun v1 =>
  if (2 : Nat) = 2 ∧ rcv ((mk E c s (hh g))) v1 11 = true then
  ((Call prog clsT X d 85 [(2, v1), (0, x1)] ((mk E c s (hh g)))).bind fun r2 => if r2.1.1 = 4 then none else
  Ev prog clsT X d mc145 4 [(2, 0), (0, x1), (3, 0), (3, 0), (3, 0), (3, 0)] (pushR r2.1 []) r2.2) else none)) X [0, 4, 7, 15] 5 rfl).trans (by simp (disch := decide) only [F5634_0, R1_11, bindI, Option.bind_some, if_true_, and_self, ite_true, true_and, true_or, or_true])
theorem rc145_ (d : Nat) (x1 : Int) : Call prog clsT X (d + 1) 145 [(2, 0), (0, x1)] (mk E c s (hh g)) =
  ((Call prog clsT X d 85 [(2, 1), (0, x1)] ((mk E c s (hh g)))).bind fun r1 => if r1.1.1 = 4 then none else
  Ev prog clsT X d mc145 4 [(2, 0), (0, x1), (3, 0), (3, 0), (3, 0), (3, 0)] (pushR r1.1 []) r1.2) :=
  (show Call prog clsT X (d + 1) 145 [(2, 0), (0, x1)] (mk E c s (hh g)) = Ev prog clsT X d mc145 0 [(2, 0), (0, x1), (3, 0), (3, 0), (3, 0), (3, 0)] [] (mk E c s (hh g)) from rfl).trans (r145_0 X E c s g d x1 )
theorem r145_4 (d : Nat) (x1 s0 : Int) : Ev prog clsT X d mc145 4 [(2, 0), (0, x1), (3, 0), (3, 0), (3, 0), (3, 0)] [(1, s0)] (mk E c s (hh g)) =
  ((Call prog clsT X d 18 [(2, 30)] ((mk E c s (hh g)))).bind fun r1 => if r1.1.1 = 4 then none else
  Ev prog clsT X d mc145 7 [(2, 0), (0, x1), (3, 0), (3, 0), (3, 0), (3, 0)] (pushR r1.1 [(1, s0)]) r1.2) :=
  (evk_at (r := ((fget 5658 ((mk E c s (hh g))) 0).bind fun v1 =>
  if (2 : Nat) = 2 ∧ rcv ((mk E c s (hh g))) v1 3 = true then
  ((Call prog clsT X d 18 [(2, v1)] ((mk E c s (hh g)))).bind fun r2 => if r2.1.1 = 4 then none else
  Ev prog clsT X d mc145 7 [(2, 0), (0, x1), (3, 0), (3, 0), (3, 0), (3, 0)] (pushR r2.1 [(1, s0)]) r2.2) else none)) X [0, 4, 7, 15] 4 rfl).trans (by simp (disch := decide) only [F5658_0, R30_3, bindI, Option.bind_some, if_true_, and_self, ite_true, true_and, true_or, or_true])
theorem r145_7 (d : Nat) (x1 s0 s1 : Int) : Ev prog clsT X d mc145 7 [(2, 0), (0, x1), (3, 0), (3, 0), (3, 0), (3, 0)] [(1, s1), (1, s0)] (mk E c s (hh g)) =
  (Ev prog clsT X d mc145 15 [(2, 0), (0, x1), (1, (land64 s0 ((lxor64 s1 ((-1)))))), (3, 0), (0, 0), (0, 0)] [] (mk E c s (hh g))) :=
  evk_at X [0, 4, 7, 15] 10 rfl
end
