/-! Part 51.r03: printed by wip/whole/emit6.py: equations with the fixed cells put in. -/
section
variable (X : MExt) (E : List (Nat × Nat)) (c s : Nat) (g : Nat → Nat → Int)
set_option maxRecDepth 100000 in
theorem r101_0 (d : Nat) (x1 x2 : Int) : Ev prog clsT X d mc101 0 [(2, 0), (0, x1), (0, x2)] [] (mk E c s (hh g)) =
  ((Call prog clsT X d 90 [(0, x1), (0, 0), (0, 3)] ((mk E c s (hh g)))).bind fun r1 => if r1.1.1 = 4 then none else
  Ev prog clsT X d mc101 4 [(2, 0), (0, x1), (0, x2)] (pushR r1.1 []) r1.2) :=
  evk_at X [0, 4, 9] 5 rfl
set_option maxRecDepth 100000 in
theorem rc101_ (d : Nat) (x1 x2 : Int) : Call prog clsT X (d + 1) 101 [(2, 0), (0, x1), (0, x2)] (mk E c s (hh g)) =
  ((Call prog clsT X d 90 [(0, x1), (0, 0), (0, 3)] ((mk E c s (hh g)))).bind fun r1 => if r1.1.1 = 4 then none else
  Ev prog clsT X d mc101 4 [(2, 0), (0, x1), (0, x2)] (pushR r1.1 []) r1.2) :=
  (show Call prog clsT X (d + 1) 101 [(2, 0), (0, x1), (0, x2)] (mk E c s (hh g)) = Ev prog clsT X d mc101 0 [(2, 0), (0, x1), (0, x2)] [] (mk E c s (hh g)) from rfl).trans (r101_0 X E c s g d x1 x2 )
set_option maxRecDepth 100000 in
theorem r101_4 (d : Nat) (x1 x2 s0 : Int) : Ev prog clsT X d mc101 4 [(2, 0), (0, x1), (0, x2)] [(0, s0)] (mk E c s (hh g)) =
  (if cmpI .eq s0 0 = true then
  (some ((0, 0), ((mk E c s (hh g)))))
else
  ((Call prog clsT X d 90 [(0, x2), (0, 0), (0, 5)] ((mk E c s (hh g)))).bind fun r1 => if r1.1.1 = 4 then none else
    Ev prog clsT X d mc101 9 [(2, 0), (0, x1), (0, x2)] (pushR r1.1 []) r1.2)) :=
  (evk_at (r := (if cmpI .eq s0 0 = true then
  (some ((0, 0), (mk E c s (hh g))))
else
  ((Call prog clsT X d 90 [(0, x2), (0, 0), (0, 5)] ((mk E c s (hh g)))).bind fun r1 => if r1.1.1 = 4 then none else
    Ev prog clsT X d mc101 9 [(2, 0), (0, x1), (0, x2)] (pushR r1.1 []) r1.2))) X [0, 4, 9] 6 rfl).trans (by simp (maxSteps := 10000000) only [bindI, Option.bind_some, if_true_, and_self, ite_true, true_and, true_or, or_true])
set_option maxRecDepth 100000 in
theorem r101_9 (d : Nat) (x1 x2 s0 : Int) : Ev prog clsT X d mc101 9 [(2, 0), (0, x1), (0, x2)] [(0, s0)] (mk E c s (hh g)) =
  (if cmpI .ne s0 0 = true then
  (if inb x1 4 = true then
    (some ((0, 1), ((mk E c s (hh (up g 37 (Int.toNat x1) x2))))))
  else none)
else
  (some ((0, 0), ((mk E c s (hh g)))))) :=
  (evk_at (r := (if cmpI .ne s0 0 = true then
  ((fget 5662 ((mk E c s (hh g))) 0).bind fun v1 =>
    (fget 2050 ((mk E c s (hh g))) v1).bind fun v2 =>
    (aput 100 ((mk E c s (hh g))) v2 x1 (x2)).bind fun M3 =>
    some ((0, 1), M3))
else
  (some ((0, 0), (mk E c s (hh g)))))) X [0, 4, 9] 10 rfl).trans (by simp (maxSteps := 10000000) only [↓F2050_36, ↓F5662_0, ↓S37, bindI, Option.bind_some, if_true_, and_self, ite_true, true_and, true_or, or_true])
set_option maxRecDepth 100000 in
theorem r102_0 (d : Nat) (x1 x2 x3 : Int) : Ev prog clsT X d mc102 0 [(2, 0), (0, x1), (0, x2), (0, x3)] [] (mk E c s (hh g)) =
  ((Call prog clsT X d 34 [(2, 36), (0, x1)] ((mk E c s (hh g)))).bind fun r1 => if r1.1.1 = 4 then none else
  Ev prog clsT X d mc102 4 [(2, 0), (0, x1), (0, x2), (0, x3)] (pushR r1.1 []) r1.2) :=
  (evk_at (r := ((fget 5662 ((mk E c s (hh g))) 0).bind fun v1 =>
  if (2 : Nat) = 2 ∧ rcv ((mk E c s (hh g))) v1 5 = true then
  ((Call prog clsT X d 34 [(2, v1), (0, x1)] ((mk E c s (hh g)))).bind fun r2 => if r2.1.1 = 4 then none else
  Ev prog clsT X d mc102 4 [(2, 0), (0, x1), (0, x2), (0, x3)] (pushR r2.1 []) r2.2) else none)) X [0, 4, 9, 14] 5 rfl).trans (by simp (maxSteps := 10000000) only [R36_5, ↓F5662_0, bindI, Option.bind_some, if_true_, and_self, ite_true, true_and, true_or, or_true])
set_option maxRecDepth 100000 in
theorem rc102_ (d : Nat) (x1 x2 x3 : Int) : Call prog clsT X (d + 1) 102 [(2, 0), (0, x1), (0, x2), (0, x3)] (mk E c s (hh g)) =
  ((Call prog clsT X d 34 [(2, 36), (0, x1)] ((mk E c s (hh g)))).bind fun r1 => if r1.1.1 = 4 then none else
  Ev prog clsT X d mc102 4 [(2, 0), (0, x1), (0, x2), (0, x3)] (pushR r1.1 []) r1.2) :=
  (show Call prog clsT X (d + 1) 102 [(2, 0), (0, x1), (0, x2), (0, x3)] (mk E c s (hh g)) = Ev prog clsT X d mc102 0 [(2, 0), (0, x1), (0, x2), (0, x3)] [] (mk E c s (hh g)) from rfl).trans (r102_0 X E c s g d x1 x2 x3 )
set_option maxRecDepth 100000 in
theorem r102_4 (d : Nat) (x1 x2 x3 s0 : Int) : Ev prog clsT X d mc102 4 [(2, 0), (0, x1), (0, x2), (0, x3)] [(0, s0)] (mk E c s (hh g)) =
  (if cmpI .eq s0 0 = true then
  (some ((0, 0), ((mk E c s (hh g)))))
else
  ((Call prog clsT X d 90 [(0, x2), (0, 0), (0, 5)] ((mk E c s (hh g)))).bind fun r1 => if r1.1.1 = 4 then none else
    Ev prog clsT X d mc102 9 [(2, 0), (0, x1), (0, x2), (0, x3)] (pushR r1.1 []) r1.2)) :=
  (evk_at (r := (if cmpI .eq s0 0 = true then
  (some ((0, 0), (mk E c s (hh g))))
else
  ((Call prog clsT X d 90 [(0, x2), (0, 0), (0, 5)] ((mk E c s (hh g)))).bind fun r1 => if r1.1.1 = 4 then none else
    Ev prog clsT X d mc102 9 [(2, 0), (0, x1), (0, x2), (0, x3)] (pushR r1.1 []) r1.2))) X [0, 4, 9, 14] 6 rfl).trans (by simp (maxSteps := 10000000) only [bindI, Option.bind_some, if_true_, and_self, ite_true, true_and, true_or, or_true])
set_option maxRecDepth 100000 in
theorem r102_9 (d : Nat) (x1 x2 x3 s0 : Int) : Ev prog clsT X d mc102 9 [(2, 0), (0, x1), (0, x2), (0, x3)] [(0, s0)] (mk E c s (hh g)) =
  (if cmpI .eq s0 0 = true then
  (some ((0, 0), ((mk E c s (hh g)))))
else
  ((Call prog clsT X d 90 [(0, x3), (0, (-9)), (0, 9)] ((mk E c s (hh g)))).bind fun r1 => if r1.1.1 = 4 then none else
    Ev prog clsT X d mc102 14 [(2, 0), (0, x1), (0, x2), (0, x3)] (pushR r1.1 []) r1.2)) :=
  (evk_at (r := (if cmpI .eq s0 0 = true then
  (some ((0, 0), (mk E c s (hh g))))
else
  ((Call prog clsT X d 90 [(0, x3), (0, (-9)), (0, 9)] ((mk E c s (hh g)))).bind fun r1 => if r1.1.1 = 4 then none else
    Ev prog clsT X d mc102 14 [(2, 0), (0, x1), (0, x2), (0, x3)] (pushR r1.1 []) r1.2))) X [0, 4, 9, 14] 6 rfl).trans (by simp (maxSteps := 10000000) only [bindI, Option.bind_some, if_true_, and_self, ite_true, true_and, true_or, or_true])
set_option maxRecDepth 100000 in
theorem r102_14 (d : Nat) (x1 x2 x3 s0 : Int) : Ev prog clsT X d mc102 14 [(2, 0), (0, x1), (0, x2), (0, x3)] [(0, s0)] (mk E c s (hh g)) =
  (if cmpI .ne s0 0 = true then
  (if inb ((w32 (((w32 (x1 * 6))) + x2))) 24 = true then
    (some ((0, 1), ((mk E c s (hh (up g 38 (Int.toNat ((w32 (((w32 (x1 * 6))) + x2)))) x3))))))
  else none)
else
  (some ((0, 0), ((mk E c s (hh g)))))) :=
  (evk_at (r := (if cmpI .ne s0 0 = true then
  ((fget 5662 ((mk E c s (hh g))) 0).bind fun v1 =>
    (fget 2054 ((mk E c s (hh g))) v1).bind fun v2 =>
    (aput 100 ((mk E c s (hh g))) v2 ((w32 (((w32 (x1 * 6))) + x2))) (x3)).bind fun M3 =>
    some ((0, 1), M3))
else
  (some ((0, 0), (mk E c s (hh g)))))) X [0, 4, 9, 14] 14 rfl).trans (by simp (maxSteps := 10000000) only [↓F2054_36, ↓F5662_0, ↓S38, bindI, Option.bind_some, if_true_, and_self, ite_true, true_and, true_or, or_true])
set_option maxRecDepth 100000 in
theorem r103_0 (d : Nat) (x1 x2 : Int) : Ev prog clsT X d mc103 0 [(2, 0), (0, x1), (0, x2)] [] (mk E c s (hh g)) =
  ((Call prog clsT X d 34 [(2, 36), (0, x1)] ((mk E c s (hh g)))).bind fun r1 => if r1.1.1 = 4 then none else
  Ev prog clsT X d mc103 4 [(2, 0), (0, x1), (0, x2)] (pushR r1.1 []) r1.2) :=
  (evk_at (r := ((fget 5662 ((mk E c s (hh g))) 0).bind fun v1 =>
  if (2 : Nat) = 2 ∧ rcv ((mk E c s (hh g))) v1 5 = true then
  ((Call prog clsT X d 34 [(2, v1), (0, x1)] ((mk E c s (hh g)))).bind fun r2 => if r2.1.1 = 4 then none else
  Ev prog clsT X d mc103 4 [(2, 0), (0, x1), (0, x2)] (pushR r2.1 []) r2.2) else none)) X [0, 4, 8, 15] 5 rfl).trans (by simp (maxSteps := 10000000) only [R36_5, ↓F5662_0, bindI, Option.bind_some, if_true_, and_self, ite_true, true_and, true_or, or_true])
set_option maxRecDepth 100000 in
theorem rc103_ (d : Nat) (x1 x2 : Int) : Call prog clsT X (d + 1) 103 [(2, 0), (0, x1), (0, x2)] (mk E c s (hh g)) =
  ((Call prog clsT X d 34 [(2, 36), (0, x1)] ((mk E c s (hh g)))).bind fun r1 => if r1.1.1 = 4 then none else
  Ev prog clsT X d mc103 4 [(2, 0), (0, x1), (0, x2)] (pushR r1.1 []) r1.2) :=
  (show Call prog clsT X (d + 1) 103 [(2, 0), (0, x1), (0, x2)] (mk E c s (hh g)) = Ev prog clsT X d mc103 0 [(2, 0), (0, x1), (0, x2)] [] (mk E c s (hh g)) from rfl).trans (r103_0 X E c s g d x1 x2 )
set_option maxRecDepth 100000 in
theorem r103_4 (d : Nat) (x1 x2 s0 : Int) : Ev prog clsT X d mc103 4 [(2, 0), (0, x1), (0, x2)] [(0, s0)] (mk E c s (hh g)) =
  (if cmpI .eq s0 0 = true then
  (some ((0, (-1)), ((mk E c s (hh g)))))
else
  ((Call prog clsT X d 97 [(2, 0), (0, x2)] ((mk E c s (hh g)))).bind fun r1 => if r1.1.1 = 4 then none else
    Ev prog clsT X d mc103 8 [(2, 0), (0, x1), (0, x2)] (pushR r1.1 []) r1.2)) :=
  (evk_at (r := (if cmpI .eq s0 0 = true then
  (some ((0, (-1)), (mk E c s (hh g))))
else
  (if (2 : Nat) = 2 ∧ rcv ((mk E c s (hh g))) 0 12 = true then
    ((Call prog clsT X d 97 [(2, 0), (0, x2)] ((mk E c s (hh g)))).bind fun r1 => if r1.1.1 = 4 then none else
    Ev prog clsT X d mc103 8 [(2, 0), (0, x1), (0, x2)] (pushR r1.1 []) r1.2) else none))) X [0, 4, 8, 15] 5 rfl).trans (by simp (maxSteps := 10000000) only [R0_12, bindI, Option.bind_some, if_true_, and_self, ite_true, true_and, true_or, or_true])
set_option maxRecDepth 100000 in
theorem r103_8 (d : Nat) (x1 x2 s0 : Int) : Ev prog clsT X d mc103 8 [(2, 0), (0, x1), (0, x2)] [(2, s0)] (mk E c s (hh g)) =
  (if (2 : Nat) = 2 ∧ s0 ≠ -5 then (if (!decide (s0 = -1)) = true then
  ((Call prog clsT X d 104 [(2, 0), (0, x1), (0, x2)] ((mk E c s (hh g)))).bind fun r1 => if r1.1.1 = 4 then none else
    Ev prog clsT X d mc103 15 [(2, 0), (0, x1), (0, x2)] (pushR r1.1 []) r1.2)
else
  (some ((0, (-1)), ((mk E c s (hh g)))))) else none) :=
  (evk_at (r := (if (2 : Nat) = 2 ∧ s0 ≠ -5 then (if (!decide (s0 = -1)) = true then
  (if (2 : Nat) = 2 ∧ rcv ((mk E c s (hh g))) 0 12 = true then
    ((Call prog clsT X d 104 [(2, 0), (0, x1), (0, x2)] ((mk E c s (hh g)))).bind fun r1 => if r1.1.1 = 4 then none else
    Ev prog clsT X d mc103 15 [(2, 0), (0, x1), (0, x2)] (pushR r1.1 []) r1.2) else none)
else
  (some ((0, (-1)), (mk E c s (hh g))))) else none)) X [0, 4, 8, 15] 6 rfl).trans (by simp (maxSteps := 10000000) only [R0_12, bindI, Option.bind_some, if_true_, and_self, ite_true, true_and, true_or, or_true])
set_option maxRecDepth 100000 in
theorem r103_15 (d : Nat) (x1 x2 s0 : Int) : Ev prog clsT X d mc103 15 [(2, 0), (0, x1), (0, x2)] [(0, s0)] (mk E c s (hh g)) =
  (if cmpI .eq s0 0 = true then
  (some ((0, 0), ((mk E c s (hh g)))))
else
  (some ((0, 1), ((mk E c s (hh g)))))) :=
  (evk_at (r := (if cmpI .eq s0 0 = true then
  (some ((0, 0), (mk E c s (hh g))))
else
  (some ((0, 1), (mk E c s (hh g)))))) X [0, 4, 8, 15] 5 rfl).trans (by simp (maxSteps := 10000000) only [bindI, Option.bind_some, if_true_, and_self, ite_true, true_and, true_or, or_true])
set_option maxRecDepth 100000 in
theorem r104_0 (d : Nat) (x1 x2 : Int) : Ev prog clsT X d mc104 0 [(2, 0), (0, x1), (0, x2), (3, 0)] [] (mk E c s (hh g)) =
  (Ev prog clsT X d mc104 2 [(2, 0), (0, x1), (0, x2), (0, 0)] [] (mk E c s (hh g))) :=
  evk_at X [0, 2, 12] 4 rfl
set_option maxRecDepth 100000 in
theorem rc104_ (d : Nat) (x1 x2 : Int) : Call prog clsT X (d + 1) 104 [(2, 0), (0, x1), (0, x2)] (mk E c s (hh g)) =
  (Ev prog clsT X d mc104 2 [(2, 0), (0, x1), (0, x2), (0, 0)] [] (mk E c s (hh g))) :=
  (show Call prog clsT X (d + 1) 104 [(2, 0), (0, x1), (0, x2)] (mk E c s (hh g)) = Ev prog clsT X d mc104 0 [(2, 0), (0, x1), (0, x2), (3, 0)] [] (mk E c s (hh g)) from rfl).trans (r104_0 X E c s g d x1 x2 )
set_option maxRecDepth 100000 in
theorem r104_2 (d : Nat) (x1 x2 x3 : Int) : Ev prog clsT X d mc104 2 [(2, 0), (0, x1), (0, x2), (0, x3)] [] (mk E c s (hh g)) =
  (if cmpI .ge x3 ((g 30 0)) = true then
  (some ((0, 0), ((mk E c s (hh g)))))
else
  ((Call prog clsT X d 22 [(2, 30), (0, x3), (0, x2)] ((mk E c s (hh g)))).bind fun r1 => if r1.1.1 = 4 then none else
    Ev prog clsT X d mc104 12 [(2, 0), (0, x1), (0, x2), (0, x3)] (pushR r1.1 []) r1.2)) :=
  (evk_at (r := ((fget 5658 ((mk E c s (hh g))) 0).bind fun v1 =>
  (fget 1024 ((mk E c s (hh g))) v1).bind fun v2 =>
  if cmpI .ge x3 v2 = true then
  (some ((0, 0), (mk E c s (hh g))))
else
  ((fget 5658 ((mk E c s (hh g))) 0).bind fun v3 =>
    if (2 : Nat) = 2 ∧ rcv ((mk E c s (hh g))) v3 3 = true then
    ((Call prog clsT X d 22 [(2, v3), (0, x3), (0, x2)] ((mk E c s (hh g)))).bind fun r4 => if r4.1.1 = 4 then none else
    Ev prog clsT X d mc104 12 [(2, 0), (0, x1), (0, x2), (0, x3)] (pushR r4.1 []) r4.2) else none))) X [0, 2, 12] 11 rfl).trans (by simp (maxSteps := 10000000) only [R30_3, ↓F1024_30, ↓F5658_0, bindI, Option.bind_some, if_true_, and_self, ite_true, true_and, true_or, or_true])
set_option maxRecDepth 100000 in
theorem r104_12 (d : Nat) (x1 x2 x3 s0 : Int) : Ev prog clsT X d mc104 12 [(2, 0), (0, x1), (0, x2), (0, x3)] [(0, s0)] (mk E c s (hh g)) =
  (if cmpI .eq s0 0 = true then
  (Ev prog clsT X d mc104 2 [(2, 0), (0, x1), (0, x2), (0, (w32 (x3 + 1)))] [] (mk E c s (hh g)))
else
  (if inb x3 40 = true then
    (if inb ((g 32 (Int.toNat x3))) 10 = true then
    (if inb x1 4 = true then
    (if cmpI .ne ((g 2 (Int.toNat ((g 32 (Int.toNat x3)))))) ((g 37 (Int.toNat x1))) = true then
    (Ev prog clsT X d mc104 2 [(2, 0), (0, x1), (0, x2), (0, (w32 (x3 + 1)))] [] (mk E c s (hh g)))
  else
    (some ((0, 1), ((mk E c s (hh g))))))
  else none)
  else none)
  else none)) :=
  (evk_at (r := (if cmpI .eq s0 0 = true then
  (Ev prog clsT X d mc104 2 [(2, 0), (0, x1), (0, x2), (0, (w32 (x3 + 1)))] [] (mk E c s (hh g)))
else
  ((fget 5634 ((mk E c s (hh g))) 0).bind fun v1 =>
    (fget 5122 ((mk E c s (hh g))) v1).bind fun v2 =>
    (fget 5658 ((mk E c s (hh g))) 0).bind fun v3 =>
    (fget 1038 ((mk E c s (hh g))) v3).bind fun v4 =>
    (aget X 100 ((mk E c s (hh g))) v4 x3).bind fun v5 =>
    (aget X 100 ((mk E c s (hh g))) v2 v5).bind fun v6 =>
    (fget 5662 ((mk E c s (hh g))) 0).bind fun v7 =>
    (fget 2050 ((mk E c s (hh g))) v7).bind fun v8 =>
    (aget X 100 ((mk E c s (hh g))) v8 x1).bind fun v9 =>
    if cmpI .ne v6 v9 = true then
    (Ev prog clsT X d mc104 2 [(2, 0), (0, x1), (0, x2), (0, (w32 (x3 + 1)))] [] (mk E c s (hh g)))
  else
    (some ((0, 1), (mk E c s (hh g))))))) X [0, 2, 12] 20 rfl).trans (by simp (maxSteps := 10000000) only [↓A2, ↓A32, ↓A37, ↓F1038_30, ↓F2050_36, ↓F5122_1, ↓F5634_0, ↓F5658_0, ↓F5662_0, bindI, Option.bind_some, if_true_, and_self, ite_true, true_and, true_or, or_true])
set_option maxRecDepth 100000 in
theorem r105_0 (d : Nat) (x1 x2 : Int) : Ev prog clsT X d mc105 0 [(2, 0), (0, x1), (0, x2), (3, 0), (3, 0)] [] (mk E c s (hh g)) =
  ((Call prog clsT X d 19 [(2, 30), (0, x1)] ((mk E c s (hh g)))).bind fun r1 => if r1.1.1 = 4 then none else
  Ev prog clsT X d mc105 4 [(2, 0), (0, x1), (0, x2), (3, 0), (3, 0)] (pushR r1.1 []) r1.2) :=
  (evk_at (r := ((fget 5658 ((mk E c s (hh g))) 0).bind fun v1 =>
  if (2 : Nat) = 2 ∧ rcv ((mk E c s (hh g))) v1 3 = true then
  ((Call prog clsT X d 19 [(2, v1), (0, x1)] ((mk E c s (hh g)))).bind fun r2 => if r2.1.1 = 4 then none else
  Ev prog clsT X d mc105 4 [(2, 0), (0, x1), (0, x2), (3, 0), (3, 0)] (pushR r2.1 []) r2.2) else none)) X [0, 4, 28, 33] 5 rfl).trans (by simp (maxSteps := 10000000) only [R30_3, ↓F5658_0, bindI, Option.bind_some, if_true_, and_self, ite_true, true_and, true_or, or_true])
set_option maxRecDepth 100000 in
theorem rc105_ (d : Nat) (x1 x2 : Int) : Call prog clsT X (d + 1) 105 [(2, 0), (0, x1), (0, x2)] (mk E c s (hh g)) =
  ((Call prog clsT X d 19 [(2, 30), (0, x1)] ((mk E c s (hh g)))).bind fun r1 => if r1.1.1 = 4 then none else
  Ev prog clsT X d mc105 4 [(2, 0), (0, x1), (0, x2), (3, 0), (3, 0)] (pushR r1.1 []) r1.2) :=
  (show Call prog clsT X (d + 1) 105 [(2, 0), (0, x1), (0, x2)] (mk E c s (hh g)) = Ev prog clsT X d mc105 0 [(2, 0), (0, x1), (0, x2), (3, 0), (3, 0)] [] (mk E c s (hh g)) from rfl).trans (r105_0 X E c s g d x1 x2 )
set_option maxRecDepth 100000 in
theorem r105_4 (d : Nat) (x1 x2 s0 : Int) : Ev prog clsT X d mc105 4 [(2, 0), (0, x1), (0, x2), (3, 0), (3, 0)] [(0, s0)] (mk E c s (hh g)) =
  (if cmpI .ne s0 0 = true then
  (if inb x1 40 = true then
    (if cmpI .ne x2 ((-1)) = true then
    ((Call prog clsT X d 34 [(2, 36), (0, x2)] ((mk E c s (hh g)))).bind fun r1 => if r1.1.1 = 4 then none else
      Ev prog clsT X d mc105 28 [(2, 0), (0, x1), (0, x2), (0, (g 31 (Int.toNat x1))), (0, x2)] (pushR r1.1 []) r1.2)
  else
    (if inb ((g 31 (Int.toNat x1))) 10 = true then
      ((Call prog clsT X d 34 [(2, 36), (0, (g 39 (Int.toNat ((g 31 (Int.toNat x1))))))] ((mk E c s (hh g)))).bind fun r2 => if r2.1.1 = 4 then none else
      Ev prog clsT X d mc105 28 [(2, 0), (0, x1), (0, x2), (0, (g 31 (Int.toNat x1))), (0, (g 39 (Int.toNat ((g 31 (Int.toNat x1))))))] (pushR r2.1 []) r2.2)
    else none))
  else none)
else
  (some ((0, (-1)), ((mk E c s (hh g)))))) :=
  (evk_at (r := (if cmpI .ne s0 0 = true then
  ((fget 5658 ((mk E c s (hh g))) 0).bind fun v1 =>
    (fget 1034 ((mk E c s (hh g))) v1).bind fun v2 =>
    (aget X 100 ((mk E c s (hh g))) v2 x1).bind fun v3 =>
    if cmpI .ne x2 ((-1)) = true then
    ((fget 5662 ((mk E c s (hh g))) 0).bind fun v4 =>
      if (2 : Nat) = 2 ∧ rcv ((mk E c s (hh g))) v4 5 = true then
      ((Call prog clsT X d 34 [(2, v4), (0, x2)] ((mk E c s (hh g)))).bind fun r5 => if r5.1.1 = 4 then none else
      Ev prog clsT X d mc105 28 [(2, 0), (0, x1), (0, x2), (0, v3), (0, x2)] (pushR r5.1 []) r5.2) else none)
  else
    ((fget 5662 ((mk E c s (hh g))) 0).bind fun v6 =>
      (fget 2058 ((mk E c s (hh g))) v6).bind fun v7 =>
      (aget X 100 ((mk E c s (hh g))) v7 v3).bind fun v8 =>
      (fget 5662 ((mk E c s (hh g))) 0).bind fun v9 =>
      if (2 : Nat) = 2 ∧ rcv ((mk E c s (hh g))) v9 5 = true then
      ((Call prog clsT X d 34 [(2, v9), (0, v8)] ((mk E c s (hh g)))).bind fun r10 => if r10.1.1 = 4 then none else
      Ev prog clsT X d mc105 28 [(2, 0), (0, x1), (0, x2), (0, v3), (0, v8)] (pushR r10.1 []) r10.2) else none))
else
  (some ((0, (-1)), (mk E c s (hh g)))))) X [0, 4, 28, 33] 22 rfl).trans (by simp (maxSteps := 10000000) only [R36_5, ↓A31, ↓A39, ↓F1034_30, ↓F2058_36, ↓F5658_0, ↓F5662_0, bindI, Option.bind_some, if_true_, and_self, ite_true, true_and, true_or, or_true])
set_option maxRecDepth 100000 in
theorem r105_28 (d : Nat) (x1 x2 x3 x4 s0 : Int) : Ev prog clsT X d mc105 28 [(2, 0), (0, x1), (0, x2), (0, x3), (0, x4)] [(0, s0)] (mk E c s (hh g)) =
  (if cmpI .eq s0 0 = true then
  (some ((0, (-1)), ((mk E c s (hh g)))))
else
  ((Call prog clsT X d 106 [(2, 0), (0, x1), (0, x4)] ((mk E c s (hh g)))).bind fun r1 => if r1.1.1 = 4 then none else
    Ev prog clsT X d mc105 33 [(2, 0), (0, x1), (0, x2), (0, x3), (0, x4)] (pushR r1.1 []) r1.2)) :=
  (evk_at (r := (if cmpI .eq s0 0 = true then
  (some ((0, (-1)), (mk E c s (hh g))))
else
  (if (2 : Nat) = 2 ∧ rcv ((mk E c s (hh g))) 0 12 = true then
    ((Call prog clsT X d 106 [(2, 0), (0, x1), (0, x4)] ((mk E c s (hh g)))).bind fun r1 => if r1.1.1 = 4 then none else
    Ev prog clsT X d mc105 33 [(2, 0), (0, x1), (0, x2), (0, x3), (0, x4)] (pushR r1.1 []) r1.2) else none))) X [0, 4, 28, 33] 6 rfl).trans (by simp (maxSteps := 10000000) only [R0_12, bindI, Option.bind_some, if_true_, and_self, ite_true, true_and, true_or, or_true])
set_option maxRecDepth 100000 in
theorem r105_33 (d : Nat) (x1 x2 x3 x4 s0 : Int) : Ev prog clsT X d mc105 33 [(2, 0), (0, x1), (0, x2), (0, x3), (0, x4)] [(0, s0)] (mk E c s (hh g)) =
  (some ((0, s0), ((mk E c s (hh g))))) :=
  (evk_at (r := (some ((0, s0), (mk E c s (hh g))))) X [0, 4, 28, 33] 3 rfl).trans (by simp (maxSteps := 10000000) only [bindI, Option.bind_some, if_true_, and_self, ite_true, true_and, true_or, or_true])
set_option maxRecDepth 100000 in
theorem r106_0 (d : Nat) (x1 x2 : Int) : Ev prog clsT X d mc106 0 [(2, 0), (0, x1), (0, x2)] [] (mk E c s (hh g)) =
  (if inb x1 40 = true then
  ((Call prog clsT X d 107 [(2, 0), (0, (g 31 (Int.toNat x1))), (0, x2)] ((mk E c s (hh g)))).bind fun r1 => if r1.1.1 = 4 then none else
  Ev prog clsT X d mc106 8 [(2, 0), (0, x1), (0, x2)] (pushR r1.1 []) r1.2)
else none) :=
  (evk_at (r := ((fget 5658 ((mk E c s (hh g))) 0).bind fun v1 =>
  (fget 1034 ((mk E c s (hh g))) v1).bind fun v2 =>
  (aget X 100 ((mk E c s (hh g))) v2 x1).bind fun v3 =>
  if (2 : Nat) = 2 ∧ rcv ((mk E c s (hh g))) 0 12 = true then
  ((Call prog clsT X d 107 [(2, 0), (0, v3), (0, x2)] ((mk E c s (hh g)))).bind fun r4 => if r4.1.1 = 4 then none else
  Ev prog clsT X d mc106 8 [(2, 0), (0, x1), (0, x2)] (pushR r4.1 []) r4.2) else none)) X [0, 8] 9 rfl).trans (by simp (maxSteps := 10000000) only [R0_12, ↓A31, ↓F1034_30, ↓F5658_0, bindI, Option.bind_some, if_true_, and_self, ite_true, true_and, true_or, or_true])
set_option maxRecDepth 100000 in
theorem rc106_ (d : Nat) (x1 x2 : Int) : Call prog clsT X (d + 1) 106 [(2, 0), (0, x1), (0, x2)] (mk E c s (hh g)) =
  (if inb x1 40 = true then
  ((Call prog clsT X d 107 [(2, 0), (0, (g 31 (Int.toNat x1))), (0, x2)] ((mk E c s (hh g)))).bind fun r1 => if r1.1.1 = 4 then none else
  Ev prog clsT X d mc106 8 [(2, 0), (0, x1), (0, x2)] (pushR r1.1 []) r1.2)
else none) :=
  (show Call prog clsT X (d + 1) 106 [(2, 0), (0, x1), (0, x2)] (mk E c s (hh g)) = Ev prog clsT X d mc106 0 [(2, 0), (0, x1), (0, x2)] [] (mk E c s (hh g)) from rfl).trans (r106_0 X E c s g d x1 x2 )
set_option maxRecDepth 100000 in
theorem r106_8 (d : Nat) (x1 x2 : Int) : Ev prog clsT X d mc106 8 [(2, 0), (0, x1), (0, x2)] [] (mk E c s (hh g)) =
  (if inb x1 40 = true then
  (if cmpI .le ((g 56 (Int.toNat x1))) 0 = true then
  (some ((0, (-1)), ((mk E c s (hh g)))))
else
  (if inb x1 40 = true then
    (some ((0, (g 56 (Int.toNat x1))), ((mk E c s (hh g)))))
  else none))
else none) :=
  (evk_at (r := ((fget 5674 ((mk E c s (hh g))) 0).bind fun v1 =>
  (fget 2 ((mk E c s (hh g))) v1).bind fun v2 =>
  (aget X 100 ((mk E c s (hh g))) v2 x1).bind fun v3 =>
  if cmpI .le v3 0 = true then
  (some ((0, (-1)), (mk E c s (hh g))))
else
  ((fget 5674 ((mk E c s (hh g))) 0).bind fun v4 =>
    (fget 2 ((mk E c s (hh g))) v4).bind fun v5 =>
    (aget X 100 ((mk E c s (hh g))) v5 x1).bind fun v6 =>
    some ((0, v6), (mk E c s (hh g)))))) X [0, 8] 14 rfl).trans (by simp (maxSteps := 10000000) only [↓A56, ↓F2_55, ↓F5674_0, bindI, Option.bind_some, if_true_, and_self, ite_true, true_and, true_or, or_true])
set_option maxRecDepth 100000 in
theorem r107_0 (d : Nat) (x1 x2 : Int) : Ev prog clsT X d mc107 0 [(2, 0), (0, x1), (0, x2), (3, 0), (3, 0)] [] (mk E c s (hh g)) =
  ((Call prog clsT X d 97 [(2, 0), (0, x1)] ((mk E c s (hh g)))).bind fun r1 => if r1.1.1 = 4 then none else
  Ev prog clsT X d mc107 3 [(2, 0), (0, x1), (0, x2), (3, 0), (3, 0)] (pushR r1.1 []) r1.2) :=
  (evk_at (r := (if (2 : Nat) = 2 ∧ rcv ((mk E c s (hh g))) 0 12 = true then
  ((Call prog clsT X d 97 [(2, 0), (0, x1)] ((mk E c s (hh g)))).bind fun r1 => if r1.1.1 = 4 then none else
  Ev prog clsT X d mc107 3 [(2, 0), (0, x1), (0, x2), (3, 0), (3, 0)] (pushR r1.1 []) r1.2) else none)) X [0, 3, 7, 9, 19, 24, 30, 39, 44, 45, 53] 4 rfl).trans (by simp (maxSteps := 10000000) only [R0_12, bindI, Option.bind_some, if_true_, and_self, ite_true, true_and, true_or, or_true])
set_option maxRecDepth 100000 in
theorem rc107_ (d : Nat) (x1 x2 : Int) : Call prog clsT X (d + 1) 107 [(2, 0), (0, x1), (0, x2)] (mk E c s (hh g)) =
  ((Call prog clsT X d 97 [(2, 0), (0, x1)] ((mk E c s (hh g)))).bind fun r1 => if r1.1.1 = 4 then none else
  Ev prog clsT X d mc107 3 [(2, 0), (0, x1), (0, x2), (3, 0), (3, 0)] (pushR r1.1 []) r1.2) :=
  (show Call prog clsT X (d + 1) 107 [(2, 0), (0, x1), (0, x2)] (mk E c s (hh g)) = Ev prog clsT X d mc107 0 [(2, 0), (0, x1), (0, x2), (3, 0), (3, 0)] [] (mk E c s (hh g)) from rfl).trans (r107_0 X E c s g d x1 x2 )
set_option maxRecDepth 100000 in
theorem r107_3 (d : Nat) (x1 x2 s0 : Int) : Ev prog clsT X d mc107 3 [(2, 0), (0, x1), (0, x2), (3, 0), (3, 0)] [(2, s0)] (mk E c s (hh g)) =
  ((Call prog clsT X d 1 [(2, 55)] ((mk E c s (hh g)))).bind fun r1 => if r1.1.1 = 4 then none else
  Ev prog clsT X d mc107 7 [(2, 0), (0, x1), (0, x2), (2, s0), (3, 0)] (pushR r1.1 []) r1.2) :=
  (evk_at (r := ((fget 5674 ((mk E c s (hh g))) 0).bind fun v1 =>
  if (2 : Nat) = 2 ∧ rcv ((mk E c s (hh g))) v1 1 = true then
  ((Call prog clsT X d 1 [(2, v1)] ((mk E c s (hh g)))).bind fun r2 => if r2.1.1 = 4 then none else
  Ev prog clsT X d mc107 7 [(2, 0), (0, x1), (0, x2), (2, s0), (3, 0)] (pushR r2.1 []) r2.2) else none)) X [0, 3, 7, 9, 19, 24, 30, 39, 44, 45, 53] 5 rfl).trans (by simp (maxSteps := 10000000) only [R55_1, ↓F5674_0, bindI, Option.bind_some, if_true_, and_self, ite_true, true_and, true_or, or_true])
set_option maxRecDepth 100000 in
theorem r107_7 (d : Nat) (x1 x2 x3 : Int) : Ev prog clsT X d mc107 7 [(2, 0), (0, x1), (0, x2), (2, x3), (3, 0)] [] (mk E c s (hh g)) =
  (Ev prog clsT X d mc107 9 [(2, 0), (0, x1), (0, x2), (2, x3), (0, 0)] [] (mk E c s (hh g))) :=
  evk_at X [0, 3, 7, 9, 19, 24, 30, 39, 44, 45, 53] 4 rfl
set_option maxRecDepth 100000 in
theorem r107_9 (d : Nat) (x1 x2 x3 x4 : Int) : Ev prog clsT X d mc107 9 [(2, 0), (0, x1), (0, x2), (2, x3), (0, x4)] [] (mk E c s (hh g)) =
  (if cmpI .ge x4 ((g 30 0)) = true then
  ((Call prog clsT X d 3 [(2, 55), (0, (g 30 0))] ((mk E c s (hh g)))).bind fun r1 => if r1.1.1 = 4 then none else
    Ev prog clsT X d mc107 53 [(2, 0), (0, x1), (0, x2), (2, x3), (0, x4)] (pushR r1.1 []) r1.2)
else
  ((Call prog clsT X d 22 [(2, 30), (0, x4), (0, x1)] ((mk E c s (hh g)))).bind fun r2 => if r2.1.1 = 4 then none else
    Ev prog clsT X d mc107 19 [(2, 0), (0, x1), (0, x2), (2, x3), (0, x4)] (pushR r2.1 []) r2.2)) :=
  (evk_at (r := ((fget 5658 ((mk E c s (hh g))) 0).bind fun v1 =>
  (fget 1024 ((mk E c s (hh g))) v1).bind fun v2 =>
  if cmpI .ge x4 v2 = true then
  ((fget 5674 ((mk E c s (hh g))) 0).bind fun v3 =>
    (fget 5658 ((mk E c s (hh g))) 0).bind fun v4 =>
    (fget 1024 ((mk E c s (hh g))) v4).bind fun v5 =>
    if (2 : Nat) = 2 ∧ rcv ((mk E c s (hh g))) v3 1 = true then
    ((Call prog clsT X d 3 [(2, v3), (0, v5)] ((mk E c s (hh g)))).bind fun r6 => if r6.1.1 = 4 then none else
    Ev prog clsT X d mc107 53 [(2, 0), (0, x1), (0, x2), (2, x3), (0, x4)] (pushR r6.1 []) r6.2) else none)
else
  ((fget 5658 ((mk E c s (hh g))) 0).bind fun v7 =>
    if (2 : Nat) = 2 ∧ rcv ((mk E c s (hh g))) v7 3 = true then
    ((Call prog clsT X d 22 [(2, v7), (0, x4), (0, x1)] ((mk E c s (hh g)))).bind fun r8 => if r8.1.1 = 4 then none else
    Ev prog clsT X d mc107 19 [(2, 0), (0, x1), (0, x2), (2, x3), (0, x4)] (pushR r8.1 []) r8.2) else none))) X [0, 3, 7, 9, 19, 24, 30, 39, 44, 45, 53] 12 rfl).trans (by simp (maxSteps := 10000000) only [R30_3, R55_1, ↓F1024_30, ↓F5658_0, ↓F5674_0, bindI, Option.bind_some, if_true_, and_self, ite_true, true_and, true_or, or_true])
set_option maxRecDepth 100000 in
theorem r107_19 (d : Nat) (x1 x2 x3 x4 s0 : Int) : Ev prog clsT X d mc107 19 [(2, 0), (0, x1), (0, x2), (2, x3), (0, x4)] [(0, s0)] (mk E c s (hh g)) =
  (if cmpI .ne s0 0 = true then
  ((Call prog clsT X d 108 [(2, 0), (0, x4)] ((mk E c s (hh g)))).bind fun r1 => if r1.1.1 = 4 then none else
    Ev prog clsT X d mc107 24 [(2, 0), (0, x1), (0, x2), (2, x3), (0, x4)] (pushR r1.1 []) r1.2)
else
  (Ev prog clsT X d mc107 45 [(2, 0), (0, x1), (0, x2), (2, x3), (0, x4)] [] (mk E c s (hh g)))) :=
  (evk_at (r := (if cmpI .ne s0 0 = true then
  (if (2 : Nat) = 2 ∧ rcv ((mk E c s (hh g))) 0 12 = true then
    ((Call prog clsT X d 108 [(2, 0), (0, x4)] ((mk E c s (hh g)))).bind fun r1 => if r1.1.1 = 4 then none else
    Ev prog clsT X d mc107 24 [(2, 0), (0, x1), (0, x2), (2, x3), (0, x4)] (pushR r1.1 []) r1.2) else none)
else
  (Ev prog clsT X d mc107 45 [(2, 0), (0, x1), (0, x2), (2, x3), (0, x4)] [] (mk E c s (hh g))))) X [0, 3, 7, 9, 19, 24, 30, 39, 44, 45, 53] 5 rfl).trans (by simp (maxSteps := 10000000) only [R0_12, bindI, Option.bind_some, if_true_, and_self, ite_true, true_and, true_or, or_true])
set_option maxRecDepth 100000 in
theorem r107_24 (d : Nat) (x1 x2 x3 x4 : Int) : Ev prog clsT X d mc107 24 [(2, 0), (0, x1), (0, x2), (2, x3), (0, x4)] [] (mk E c s (hh g)) =
  ((Call prog clsT X d 72 [(2, 27), (2, x3), (2, (g 0 3))] ((mk E c s (hh g)))).bind fun r1 => if r1.1.1 = 4 then none else
  Ev prog clsT X d mc107 30 [(2, 0), (0, x1), (0, x2), (2, x3), (0, x4)] (pushR r1.1 []) r1.2) :=
  (evk_at (r := ((fget 5654 ((mk E c s (hh g))) 0).bind fun v1 =>
  (fget 5646 ((mk E c s (hh g))) 0).bind fun v2 =>
  if (2 : Nat) = 2 ∧ rcv ((mk E c s (hh g))) v1 9 = true then
  ((Call prog clsT X d 72 [(2, v1), (2, x3), (2, v2)] ((mk E c s (hh g)))).bind fun r3 => if r3.1.1 = 4 then none else
  Ev prog clsT X d mc107 30 [(2, 0), (0, x1), (0, x2), (2, x3), (0, x4)] (pushR r3.1 []) r3.2) else none)) X [0, 3, 7, 9, 19, 24, 30, 39, 44, 45, 53] 7 rfl).trans (by simp (maxSteps := 10000000) only [R27_9, ↓F5646_0, ↓F5654_0, bindI, Option.bind_some, if_true_, and_self, ite_true, true_and, true_or, or_true])
set_option maxRecDepth 100000 in
theorem r107_30 (d : Nat) (x1 x2 x3 x4 s0 : Int) : Ev prog clsT X d mc107 30 [(2, 0), (0, x1), (0, x2), (2, x3), (0, x4)] [(0, s0)] (mk E c s (hh g)) =
  (if cmpI .ne s0 ((-1)) = true then
  (Ev prog clsT X d mc107 45 [(2, 0), (0, x1), (0, x2), (2, x3), (0, x4)] [] (mk E c s (hh g)))
else
  ((Call prog clsT X d 109 [(2, 0), (0, x2), (2, x3)] ((mk E c s (hh g)))).bind fun r1 => if r1.1.1 = 4 then none else
    Ev prog clsT X d mc107 39 [(2, 0), (0, x1), (0, x2), (2, x3), (0, x4)] (pushR r1.1 [(0, x4), (2, 55)]) r1.2)) :=
  (evk_at (r := (if cmpI .ne s0 ((-1)) = true then
  (Ev prog clsT X d mc107 45 [(2, 0), (0, x1), (0, x2), (2, x3), (0, x4)] [] (mk E c s (hh g)))
else
  ((fget 5674 ((mk E c s (hh g))) 0).bind fun v1 =>
    if (2 : Nat) = 2 ∧ rcv ((mk E c s (hh g))) 0 12 = true then
    ((Call prog clsT X d 109 [(2, 0), (0, x2), (2, x3)] ((mk E c s (hh g)))).bind fun r2 => if r2.1.1 = 4 then none else
    Ev prog clsT X d mc107 39 [(2, 0), (0, x1), (0, x2), (2, x3), (0, x4)] (pushR r2.1 [(0, x4), (2, v1)]) r2.2) else none))) X [0, 3, 7, 9, 19, 24, 30, 39, 44, 45, 53] 10 rfl).trans (by simp (maxSteps := 10000000) only [R0_12, ↓F5674_0, bindI, Option.bind_some, if_true_, and_self, ite_true, true_and, true_or, or_true])
set_option maxRecDepth 100000 in
theorem r107_39 (d : Nat) (x1 x2 x3 x4 s1 s2 : Int) : Ev prog clsT X d mc107 39 [(2, 0), (0, x1), (0, x2), (2, x3), (0, x4)] [(0, s2), (0, s1), (2, 55)] (mk E c s (hh g)) =
  ((Call prog clsT X d 74 [(2, 27), (2, x3), (0, 7)] ((mk E c s (hh g)))).bind fun r1 => if r1.1.1 = 4 then none else
  Ev prog clsT X d mc107 44 [(2, 0), (0, x1), (0, x2), (2, x3), (0, x4)] (pushR r1.1 [(0, s2), (0, s1), (2, 55)]) r1.2) :=
  (evk_at (r := ((fget 5654 ((mk E c s (hh g))) 0).bind fun v1 =>
  if (2 : Nat) = 2 ∧ rcv ((mk E c s (hh g))) v1 9 = true then
  ((Call prog clsT X d 74 [(2, v1), (2, x3), (0, 7)] ((mk E c s (hh g)))).bind fun r2 => if r2.1.1 = 4 then none else
  Ev prog clsT X d mc107 44 [(2, 0), (0, x1), (0, x2), (2, x3), (0, x4)] (pushR r2.1 [(0, s2), (0, s1), (2, 55)]) r2.2) else none)) X [0, 3, 7, 9, 19, 24, 30, 39, 44, 45, 53] 6 rfl).trans (by simp (maxSteps := 10000000) only [R27_9, ↓F5654_0, bindI, Option.bind_some, if_true_, and_self, ite_true, true_and, true_or, or_true])
set_option maxRecDepth 100000 in
theorem r107_44 (d : Nat) (x1 x2 x3 x4 s1 s2 s3 : Int) : Ev prog clsT X d mc107 44 [(2, 0), (0, x1), (0, x2), (2, x3), (0, x4)] [(0, s3), (0, s2), (0, s1), (2, 55)] (mk E c s (hh g)) =
  ((Call prog clsT X d 2 [(2, 55), (0, s1), (0, s2), (0, s3)] ((mk E c s (hh g)))).bind fun r1 => if r1.1.1 = 4 then none else
  Ev prog clsT X d mc107 45 [(2, 0), (0, x1), (0, x2), (2, x3), (0, x4)] (pushR r1.1 []) r1.2) :=
  (evk_at (r := (if (2 : Nat) = 2 ∧ rcv ((mk E c s (hh g))) 55 1 = true then
  ((Call prog clsT X d 2 [(2, 55), (0, s1), (0, s2), (0, s3)] ((mk E c s (hh g)))).bind fun r1 => if r1.1.1 = 4 then none else
  Ev prog clsT X d mc107 45 [(2, 0), (0, x1), (0, x2), (2, x3), (0, x4)] (pushR r1.1 []) r1.2) else none)) X [0, 3, 7, 9, 19, 24, 30, 39, 44, 45, 53] 2 rfl).trans (by simp (maxSteps := 10000000) only [R55_1, bindI, Option.bind_some, if_true_, and_self, ite_true, true_and, true_or, or_true])
set_option maxRecDepth 100000 in
theorem r107_45 (d : Nat) (x1 x2 x3 x4 : Int) : Ev prog clsT X d mc107 45 [(2, 0), (0, x1), (0, x2), (2, x3), (0, x4)] [] (mk E c s (hh g)) =
  (Ev prog clsT X d mc107 9 [(2, 0), (0, x1), (0, x2), (2, x3), (0, (w32 (x4 + 1)))] [] (mk E c s (hh g))) :=
  evk_at X [0, 3, 7, 9, 19, 24, 30, 39, 44, 45, 53] 4 rfl
set_option maxRecDepth 100000 in
theorem r107_53 (d : Nat) (x1 x2 x3 x4 : Int) : Ev prog clsT X d mc107 53 [(2, 0), (0, x1), (0, x2), (2, x3), (0, x4)] [] (mk E c s (hh g)) =
  (some ((3, 0), ((mk E c s (hh g))))) :=
  (evk_at (r := (some ((3, 0), (mk E c s (hh g))))) X [0, 3, 7, 9, 19, 24, 30, 39, 44, 45, 53] 2 rfl).trans (by simp (maxSteps := 10000000) only [bindI, Option.bind_some, if_true_, and_self, ite_true, true_and, true_or, or_true])
set_option maxRecDepth 100000 in
theorem r108_0 (d : Nat) (x1 : Int) : Ev prog clsT X d mc108 0 [(2, 0), (0, x1), (3, 0), (3, 0)] [] (mk E c s (hh g)) =
  (if inb x1 40 = true then
  (if inb x1 40 = true then
  (if inb x1 40 = true then
  ((Call prog clsT X d 97 [(2, 0), (0, (g 31 (Int.toNat x1)))] ((mk E c s (hh g)))).bind fun r1 => if r1.1.1 = 4 then none else
  Ev prog clsT X d mc108 24 [(2, 0), (0, x1), (0, (g 31 (Int.toNat x1))), (0, (g 32 (Int.toNat x1)))] (pushR r1.1 [(1, (g 33 (Int.toNat x1))), (2, 1), (2, 27)]) r1.2)
else none)
else none)
else none) :=
  (evk_at (r := ((fget 5658 ((mk E c s (hh g))) 0).bind fun v1 =>
  (fget 1034 ((mk E c s (hh g))) v1).bind fun v2 =>
  (aget X 100 ((mk E c s (hh g))) v2 x1).bind fun v3 =>
  (fget 5658 ((mk E c s (hh g))) 0).bind fun v4 =>
  (fget 1038 ((mk E c s (hh g))) v4).bind fun v5 =>
  (aget X 100 ((mk E c s (hh g))) v5 x1).bind fun v6 =>
  (fget 5654 ((mk E c s (hh g))) 0).bind fun v7 =>
  (fget 5634 ((mk E c s (hh g))) 0).bind fun v8 =>
  (fget 5658 ((mk E c s (hh g))) 0).bind fun v9 =>
  (fget 1042 ((mk E c s (hh g))) v9).bind fun v10 =>
  (aget X 101 ((mk E c s (hh g))) v10 x1).bind fun v11 =>
  if (2 : Nat) = 2 ∧ rcv ((mk E c s (hh g))) 0 12 = true then
  ((Call prog clsT X d 97 [(2, 0), (0, v3)] ((mk E c s (hh g)))).bind fun r12 => if r12.1.1 = 4 then none else
  Ev prog clsT X d mc108 24 [(2, 0), (0, x1), (0, v3), (0, v6)] (pushR r12.1 [(1, v11), (2, v8), (2, v7)]) r12.2) else none)) X [0, 24, 25, 35, 36] 25 rfl).trans (by simp (maxSteps := 10000000) only [R0_12, ↓A31, ↓A32, ↓A33, ↓F1034_30, ↓F1038_30, ↓F1042_30, ↓F5634_0, ↓F5654_0, ↓F5658_0, bindI, Option.bind_some, if_true_, and_self, ite_true, true_and, true_or, or_true])
set_option maxRecDepth 100000 in
theorem rc108_ (d : Nat) (x1 : Int) : Call prog clsT X (d + 1) 108 [(2, 0), (0, x1)] (mk E c s (hh g)) =
  (if inb x1 40 = true then
  (if inb x1 40 = true then
  (if inb x1 40 = true then
  ((Call prog clsT X d 97 [(2, 0), (0, (g 31 (Int.toNat x1)))] ((mk E c s (hh g)))).bind fun r1 => if r1.1.1 = 4 then none else
  Ev prog clsT X d mc108 24 [(2, 0), (0, x1), (0, (g 31 (Int.toNat x1))), (0, (g 32 (Int.toNat x1)))] (pushR r1.1 [(1, (g 33 (Int.toNat x1))), (2, 1), (2, 27)]) r1.2)
else none)
else none)
else none) :=
  (show Call prog clsT X (d + 1) 108 [(2, 0), (0, x1)] (mk E c s (hh g)) = Ev prog clsT X d mc108 0 [(2, 0), (0, x1), (3, 0), (3, 0)] [] (mk E c s (hh g)) from rfl).trans (r108_0 X E c s g d x1 )
set_option maxRecDepth 100000 in
theorem r108_24 (d : Nat) (x1 x2 x3 s2 s3 : Int) : Ev prog clsT X d mc108 24 [(2, 0), (0, x1), (0, x2), (0, x3)] [(2, s3), (1, s2), (2, 1), (2, 27)] (mk E c s (hh g)) =
  ((Call prog clsT X d 76 [(2, 27), (2, 1), (1, s2), (2, s3)] ((mk E c s (hh g)))).bind fun r1 => if r1.1.1 = 4 then none else
  Ev prog clsT X d mc108 25 [(2, 0), (0, x1), (0, x2), (0, x3)] (pushR r1.1 []) r1.2) :=
  (evk_at (r := (if (2 : Nat) = 2 ∧ rcv ((mk E c s (hh g))) 27 9 = true then
  ((Call prog clsT X d 76 [(2, 27), (2, 1), (1, s2), (2, s3)] ((mk E c s (hh g)))).bind fun r1 => if r1.1.1 = 4 then none else
  Ev prog clsT X d mc108 25 [(2, 0), (0, x1), (0, x2), (0, x3)] (pushR r1.1 []) r1.2) else none)) X [0, 24, 25, 35, 36] 2 rfl).trans (by simp (maxSteps := 10000000) only [R27_9, bindI, Option.bind_some, if_true_, and_self, ite_true, true_and, true_or, or_true])
set_option maxRecDepth 100000 in
theorem r108_25 (d : Nat) (x1 x2 x3 : Int) : Ev prog clsT X d mc108 25 [(2, 0), (0, x1), (0, x2), (0, x3)] [] (mk E c s (hh g)) =
  ((Call prog clsT X d 23 [(2, 30), (0, x3), (0, x2)] ((mk E c s (hh g)))).bind fun r1 => if r1.1.1 = 4 then none else
  Ev prog clsT X d mc108 35 [(2, 0), (0, x1), (0, x2), (0, x3)] (pushR r1.1 [(0, x3), (2, 1), (2, 27)]) r1.2) :=
  (evk_at (r := ((fget 5654 ((mk E c s (hh g))) 0).bind fun v1 =>
  (fget 5634 ((mk E c s (hh g))) 0).bind fun v2 =>
  (fget 5658 ((mk E c s (hh g))) 0).bind fun v3 =>
  if (2 : Nat) = 2 ∧ rcv ((mk E c s (hh g))) v3 3 = true then
  ((Call prog clsT X d 23 [(2, v3), (0, x3), (0, x2)] ((mk E c s (hh g)))).bind fun r4 => if r4.1.1 = 4 then none else
  Ev prog clsT X d mc108 35 [(2, 0), (0, x1), (0, x2), (0, x3)] (pushR r4.1 [(0, x3), (2, v2), (2, v1)]) r4.2) else none)) X [0, 24, 25, 35, 36] 11 rfl).trans (by simp (maxSteps := 10000000) only [R30_3, ↓F5634_0, ↓F5654_0, ↓F5658_0, bindI, Option.bind_some, if_true_, and_self, ite_true, true_and, true_or, or_true])
set_option maxRecDepth 100000 in
theorem r108_35 (d : Nat) (x1 x2 x3 s2 s3 : Int) : Ev prog clsT X d mc108 35 [(2, 0), (0, x1), (0, x2), (0, x3)] [(0, s3), (0, s2), (2, 1), (2, 27)] (mk E c s (hh g)) =
  ((Call prog clsT X d 77 [(2, 27), (2, 1), (0, s2), (0, s3)] ((mk E c s (hh g)))).bind fun r1 => if r1.1.1 = 4 then none else
  Ev prog clsT X d mc108 36 [(2, 0), (0, x1), (0, x2), (0, x3)] (pushR r1.1 []) r1.2) :=
  (evk_at (r := (if (2 : Nat) = 2 ∧ rcv ((mk E c s (hh g))) 27 9 = true then
  ((Call prog clsT X d 77 [(2, 27), (2, 1), (0, s2), (0, s3)] ((mk E c s (hh g)))).bind fun r1 => if r1.1.1 = 4 then none else
  Ev prog clsT X d mc108 36 [(2, 0), (0, x1), (0, x2), (0, x3)] (pushR r1.1 []) r1.2) else none)) X [0, 24, 25, 35, 36] 2 rfl).trans (by simp (maxSteps := 10000000) only [R27_9, bindI, Option.bind_some, if_true_, and_self, ite_true, true_and, true_or, or_true])
set_option maxRecDepth 100000 in
theorem r108_36 (d : Nat) (x1 x2 x3 : Int) : Ev prog clsT X d mc108 36 [(2, 0), (0, x1), (0, x2), (0, x3)] [] (mk E c s (hh g)) =
  (some ((3, 0), ((mk E c s (hh g))))) :=
  (evk_at (r := (some ((3, 0), (mk E c s (hh g))))) X [0, 24, 25, 35, 36] 2 rfl).trans (by simp (maxSteps := 10000000) only [bindI, Option.bind_some, if_true_, and_self, ite_true, true_and, true_or, or_true])
set_option maxRecDepth 100000 in
theorem r109_0 (d : Nat) (x1 x2 : Int) : Ev prog clsT X d mc109 0 [(2, 0), (0, x1), (2, x2)] [] (mk E c s (hh g)) =
  ((Call prog clsT X d 74 [(2, 27), (2, x2), (0, 6)] ((mk E c s (hh g)))).bind fun r1 => if r1.1.1 = 4 then none else
  Ev prog clsT X d mc109 5 [(2, 0), (0, x1), (2, x2)] (pushR r1.1 []) r1.2) :=
  (evk_at (r := ((fget 5654 ((mk E c s (hh g))) 0).bind fun v1 =>
  if (2 : Nat) = 2 ∧ rcv ((mk E c s (hh g))) v1 9 = true then
  ((Call prog clsT X d 74 [(2, v1), (2, x2), (0, 6)] ((mk E c s (hh g)))).bind fun r2 => if r2.1.1 = 4 then none else
  Ev prog clsT X d mc109 5 [(2, 0), (0, x1), (2, x2)] (pushR r2.1 []) r2.2) else none)) X [0, 5] 6 rfl).trans (by simp (maxSteps := 10000000) only [R27_9, ↓F5654_0, bindI, Option.bind_some, if_true_, and_self, ite_true, true_and, true_or, or_true])
set_option maxRecDepth 100000 in
theorem rc109_ (d : Nat) (x1 x2 : Int) : Call prog clsT X (d + 1) 109 [(2, 0), (0, x1), (2, x2)] (mk E c s (hh g)) =
  ((Call prog clsT X d 74 [(2, 27), (2, x2), (0, 6)] ((mk E c s (hh g)))).bind fun r1 => if r1.1.1 = 4 then none else
  Ev prog clsT X d mc109 5 [(2, 0), (0, x1), (2, x2)] (pushR r1.1 []) r1.2) :=
  (show Call prog clsT X (d + 1) 109 [(2, 0), (0, x1), (2, x2)] (mk E c s (hh g)) = Ev prog clsT X d mc109 0 [(2, 0), (0, x1), (2, x2)] [] (mk E c s (hh g)) from rfl).trans (r109_0 X E c s g d x1 x2 )
set_option maxRecDepth 100000 in
theorem r109_5 (d : Nat) (x1 x2 s0 : Int) : Ev prog clsT X d mc109 5 [(2, 0), (0, x1), (2, x2)] [(0, s0)] (mk E c s (hh g)) =
  (if inb ((w32 (((w32 (x1 * 6))) + ((g 28 8))))) 24 = true then
  (some ((0, (w32 (s0 + ((g 38 (Int.toNat ((w32 (((w32 (x1 * 6))) + ((g 28 8))))))))))), ((mk E c s (hh g)))))
else none) :=
  (evk_at (r := ((fget 5662 ((mk E c s (hh g))) 0).bind fun v1 =>
  (fget 2054 ((mk E c s (hh g))) v1).bind fun v2 =>
  (fget 5654 ((mk E c s (hh g))) 0).bind fun v3 =>
  (fget 4098 ((mk E c s (hh g))) v3).bind fun v4 =>
  (aget X 100 ((mk E c s (hh g))) v4 8).bind fun v5 =>
  (aget X 100 ((mk E c s (hh g))) v2 ((w32 (((w32 (x1 * 6))) + v5)))).bind fun v6 =>
  some ((0, (w32 (s0 + v6))), (mk E c s (hh g))))) X [0, 5] 16 rfl).trans (by simp (maxSteps := 10000000) only [inbL 8 11 rfl, tn8, ↓A28, ↓A38, ↓F2054_36, ↓F4098_27, ↓F5654_0, ↓F5662_0, bindI, Option.bind_some, if_true_, and_self, ite_true, true_and, true_or, or_true])
set_option maxRecDepth 100000 in
theorem r110_0 (d : Nat) (x1 x2 : Int) : Ev prog clsT X d mc110 0 [(2, 0), (0, x1), (0, x2)] [] (mk E c s (hh g)) =
  ((Call prog clsT X d 97 [(2, 0), (0, x1)] ((mk E c s (hh g)))).bind fun r1 => if r1.1.1 = 4 then none else
  Ev prog clsT X d mc110 3 [(2, 0), (0, x1), (0, x2)] (pushR r1.1 []) r1.2) :=
  (evk_at (r := (if (2 : Nat) = 2 ∧ rcv ((mk E c s (hh g))) 0 12 = true then
  ((Call prog clsT X d 97 [(2, 0), (0, x1)] ((mk E c s (hh g)))).bind fun r1 => if r1.1.1 = 4 then none else
  Ev prog clsT X d mc110 3 [(2, 0), (0, x1), (0, x2)] (pushR r1.1 []) r1.2) else none)) X [0, 3, 13, 18] 4 rfl).trans (by simp (maxSteps := 10000000) only [R0_12, bindI, Option.bind_some, if_true_, and_self, ite_true, true_and, true_or, or_true])
set_option maxRecDepth 100000 in
theorem rc110_ (d : Nat) (x1 x2 : Int) : Call prog clsT X (d + 1) 110 [(2, 0), (0, x1), (0, x2)] (mk E c s (hh g)) =
  ((Call prog clsT X d 97 [(2, 0), (0, x1)] ((mk E c s (hh g)))).bind fun r1 => if r1.1.1 = 4 then none else
  Ev prog clsT X d mc110 3 [(2, 0), (0, x1), (0, x2)] (pushR r1.1 []) r1.2) :=
  (show Call prog clsT X (d + 1) 110 [(2, 0), (0, x1), (0, x2)] (mk E c s (hh g)) = Ev prog clsT X d mc110 0 [(2, 0), (0, x1), (0, x2)] [] (mk E c s (hh g)) from rfl).trans (r110_0 X E c s g d x1 x2 )
set_option maxRecDepth 100000 in
theorem r110_3 (d : Nat) (x1 x2 s0 : Int) : Ev prog clsT X d mc110 3 [(2, 0), (0, x1), (0, x2)] [(2, s0)] (mk E c s (hh g)) =
  (if (2 : Nat) = 2 ∧ s0 ≠ -5 then (if (!decide (s0 = -1)) = true then
  (if cmpI .eq x2 ((-1)) = true then
    (if inb x1 10 = true then
      (some ((0, 1), ((mk E c s (hh (up g 39 (Int.toNat x1) x2))))))
    else none)
  else
    ((Call prog clsT X d 34 [(2, 36), (0, x2)] ((mk E c s (hh g)))).bind fun r1 => if r1.1.1 = 4 then none else
      Ev prog clsT X d mc110 13 [(2, 0), (0, x1), (0, x2)] (pushR r1.1 []) r1.2))
else
  (some ((0, 0), ((mk E c s (hh g)))))) else none) :=
  (evk_at (r := (if (2 : Nat) = 2 ∧ s0 ≠ -5 then (if (!decide (s0 = -1)) = true then
  (if cmpI .eq x2 ((-1)) = true then
    ((fget 5662 ((mk E c s (hh g))) 0).bind fun v1 =>
      (fget 2058 ((mk E c s (hh g))) v1).bind fun v2 =>
      (aput 100 ((mk E c s (hh g))) v2 x1 (x2)).bind fun M3 =>
      some ((0, 1), M3))
  else
    ((fget 5662 ((mk E c s (hh g))) 0).bind fun v4 =>
      if (2 : Nat) = 2 ∧ rcv ((mk E c s (hh g))) v4 5 = true then
      ((Call prog clsT X d 34 [(2, v4), (0, x2)] ((mk E c s (hh g)))).bind fun r5 => if r5.1.1 = 4 then none else
      Ev prog clsT X d mc110 13 [(2, 0), (0, x1), (0, x2)] (pushR r5.1 []) r5.2) else none))
else
  (some ((0, 0), (mk E c s (hh g))))) else none)) X [0, 3, 13, 18] 13 rfl).trans (by simp (maxSteps := 10000000) only [R36_5, ↓F2058_36, ↓F5662_0, ↓S39, bindI, Option.bind_some, if_true_, and_self, ite_true, true_and, true_or, or_true])
set_option maxRecDepth 100000 in
theorem r110_13 (d : Nat) (x1 x2 s0 : Int) : Ev prog clsT X d mc110 13 [(2, 0), (0, x1), (0, x2)] [(0, s0)] (mk E c s (hh g)) =
  (if cmpI .eq s0 0 = true then
  (some ((0, 0), ((mk E c s (hh g)))))
else
  ((Call prog clsT X d 104 [(2, 0), (0, x2), (0, x1)] ((mk E c s (hh g)))).bind fun r1 => if r1.1.1 = 4 then none else
    Ev prog clsT X d mc110 18 [(2, 0), (0, x1), (0, x2)] (pushR r1.1 []) r1.2)) :=
  (evk_at (r := (if cmpI .eq s0 0 = true then
  (some ((0, 0), (mk E c s (hh g))))
else
  (if (2 : Nat) = 2 ∧ rcv ((mk E c s (hh g))) 0 12 = true then
    ((Call prog clsT X d 104 [(2, 0), (0, x2), (0, x1)] ((mk E c s (hh g)))).bind fun r1 => if r1.1.1 = 4 then none else
    Ev prog clsT X d mc110 18 [(2, 0), (0, x1), (0, x2)] (pushR r1.1 []) r1.2) else none))) X [0, 3, 13, 18] 6 rfl).trans (by simp (maxSteps := 10000000) only [R0_12, bindI, Option.bind_some, if_true_, and_self, ite_true, true_and, true_or, or_true])
set_option maxRecDepth 100000 in
theorem r110_18 (d : Nat) (x1 x2 s0 : Int) : Ev prog clsT X d mc110 18 [(2, 0), (0, x1), (0, x2)] [(0, s0)] (mk E c s (hh g)) =
  (if cmpI .eq s0 0 = true then
  (if inb x1 10 = true then
    (some ((0, 1), ((mk E c s (hh (up g 39 (Int.toNat x1) x2))))))
  else none)
else
  (some ((0, 0), ((mk E c s (hh g)))))) :=
  (evk_at (r := (if cmpI .eq s0 0 = true then
  ((fget 5662 ((mk E c s (hh g))) 0).bind fun v1 =>
    (fget 2058 ((mk E c s (hh g))) v1).bind fun v2 =>
    (aput 100 ((mk E c s (hh g))) v2 x1 (x2)).bind fun M3 =>
    some ((0, 1), M3))
else
  (some ((0, 0), (mk E c s (hh g)))))) X [0, 3, 13, 18] 10 rfl).trans (by simp (maxSteps := 10000000) only [↓F2058_36, ↓F5662_0, ↓S39, bindI, Option.bind_some, if_true_, and_self, ite_true, true_and, true_or, or_true])
set_option maxRecDepth 100000 in
theorem r111_0 (d : Nat) (x1 x2 : Int) : Ev prog clsT X d mc111 0 [(2, 0), (0, x1), (0, x2), (3, 0), (3, 0), (3, 0)] [] (mk E c s (hh g)) =
  ((Call prog clsT X d 19 [(2, 30), (0, x1)] ((mk E c s (hh g)))).bind fun r1 => if r1.1.1 = 4 then none else
  Ev prog clsT X d mc111 4 [(2, 0), (0, x1), (0, x2), (3, 0), (3, 0), (3, 0)] (pushR r1.1 []) r1.2) :=
  (evk_at (r := ((fget 5658 ((mk E c s (hh g))) 0).bind fun v1 =>
  if (2 : Nat) = 2 ∧ rcv ((mk E c s (hh g))) v1 3 = true then
  ((Call prog clsT X d 19 [(2, v1), (0, x1)] ((mk E c s (hh g)))).bind fun r2 => if r2.1.1 = 4 then none else
  Ev prog clsT X d mc111 4 [(2, 0), (0, x1), (0, x2), (3, 0), (3, 0), (3, 0)] (pushR r2.1 []) r2.2) else none)) X [0, 4, 9, 16, 23, 32, 38] 5 rfl).trans (by simp (maxSteps := 10000000) only [R30_3, ↓F5658_0, bindI, Option.bind_some, if_true_, and_self, ite_true, true_and, true_or, or_true])
set_option maxRecDepth 100000 in
theorem rc111_ (d : Nat) (x1 x2 : Int) : Call prog clsT X (d + 1) 111 [(2, 0), (0, x1), (0, x2)] (mk E c s (hh g)) =
  ((Call prog clsT X d 19 [(2, 30), (0, x1)] ((mk E c s (hh g)))).bind fun r1 => if r1.1.1 = 4 then none else
  Ev prog clsT X d mc111 4 [(2, 0), (0, x1), (0, x2), (3, 0), (3, 0), (3, 0)] (pushR r1.1 []) r1.2) :=
  (show Call prog clsT X (d + 1) 111 [(2, 0), (0, x1), (0, x2)] (mk E c s (hh g)) = Ev prog clsT X d mc111 0 [(2, 0), (0, x1), (0, x2), (3, 0), (3, 0), (3, 0)] [] (mk E c s (hh g)) from rfl).trans (r111_0 X E c s g d x1 x2 )
set_option maxRecDepth 100000 in
theorem r111_4 (d : Nat) (x1 x2 s0 : Int) : Ev prog clsT X d mc111 4 [(2, 0), (0, x1), (0, x2), (3, 0), (3, 0), (3, 0)] [(0, s0)] (mk E c s (hh g)) =
  (if cmpI .eq s0 0 = true then
  (some ((0, (-1)), ((mk E c s (hh g)))))
else
  ((Call prog clsT X d 90 [(0, x2), (0, 0), (0, 1)] ((mk E c s (hh g)))).bind fun r1 => if r1.1.1 = 4 then none else
    Ev prog clsT X d mc111 9 [(2, 0), (0, x1), (0, x2), (3, 0), (3, 0), (3, 0)] (pushR r1.1 []) r1.2)) :=
  (evk_at (r := (if cmpI .eq s0 0 = true then
  (some ((0, (-1)), (mk E c s (hh g))))
else
  ((Call prog clsT X d 90 [(0, x2), (0, 0), (0, 1)] ((mk E c s (hh g)))).bind fun r1 => if r1.1.1 = 4 then none else
    Ev prog clsT X d mc111 9 [(2, 0), (0, x1), (0, x2), (3, 0), (3, 0), (3, 0)] (pushR r1.1 []) r1.2))) X [0, 4, 9, 16, 23, 32, 38] 6 rfl).trans (by simp (maxSteps := 10000000) only [bindI, Option.bind_some, if_true_, and_self, ite_true, true_and, true_or, or_true])
set_option maxRecDepth 100000 in
theorem r111_9 (d : Nat) (x1 x2 s0 : Int) : Ev prog clsT X d mc111 9 [(2, 0), (0, x1), (0, x2), (3, 0), (3, 0), (3, 0)] [(0, s0)] (mk E c s (hh g)) =
  (if cmpI .ne s0 0 = true then
  (Ev prog clsT X d mc111 16 [(2, 0), (0, x1), (0, x2), (0, (-1)), (0, 0), (3, 0)] [] (mk E c s (hh g)))
else
  (some ((0, (-1)), ((mk E c s (hh g)))))) :=
  (evk_at (r := (if cmpI .ne s0 0 = true then
  (Ev prog clsT X d mc111 16 [(2, 0), (0, x1), (0, x2), (0, (-1)), (0, 0), (3, 0)] [] (mk E c s (hh g)))
else
  (some ((0, (-1)), (mk E c s (hh g)))))) X [0, 4, 9, 16, 23, 32, 38] 7 rfl).trans (by simp (maxSteps := 10000000) only [bindI, Option.bind_some, if_true_, and_self, ite_true, true_and, true_or, or_true])
set_option maxRecDepth 100000 in
theorem r111_16 (d : Nat) (x1 x2 x3 x4 : Int) (w5 : MV) : Ev prog clsT X d mc111 16 [(2, 0), (0, x1), (0, x2), (0, x3), (0, x4), w5] [] (mk E c s (hh g)) =
  (if cmpI .ge x4 4 = true then
  (some ((0, x3), ((mk E c s (hh g)))))
else
  ((Call prog clsT X d 34 [(2, 36), (0, x4)] ((mk E c s (hh g)))).bind fun r1 => if r1.1.1 = 4 then none else
    Ev prog clsT X d mc111 23 [(2, 0), (0, x1), (0, x2), (0, x3), (0, x4), (3, 0)] (pushR r1.1 []) r1.2)) :=
  (evk_at (r := (if cmpI .ge x4 4 = true then
  (some ((0, x3), (mk E c s (hh g))))
else
  ((fget 5662 ((mk E c s (hh g))) 0).bind fun v1 =>
    if (2 : Nat) = 2 ∧ rcv ((mk E c s (hh g))) v1 5 = true then
    ((Call prog clsT X d 34 [(2, v1), (0, x4)] ((mk E c s (hh g)))).bind fun r2 => if r2.1.1 = 4 then none else
    Ev prog clsT X d mc111 23 [(2, 0), (0, x1), (0, x2), (0, x3), (0, x4), (3, 0)] (pushR r2.1 []) r2.2) else none))) X [0, 4, 9, 16, 23, 32, 38] 8 rfl).trans (by simp (maxSteps := 10000000) only [R36_5, ↓F5662_0, bindI, Option.bind_some, if_true_, and_self, ite_true, true_and, true_or, or_true])
set_option maxRecDepth 100000 in
theorem r111_23 (d : Nat) (x1 x2 x3 x4 s0 : Int) : Ev prog clsT X d mc111 23 [(2, 0), (0, x1), (0, x2), (0, x3), (0, x4), (3, 0)] [(0, s0)] (mk E c s (hh g)) =
  (if cmpI .eq s0 0 = true then
  (Ev prog clsT X d mc111 16 [(2, 0), (0, x1), (0, x2), (0, x3), (0, (w32 (x4 + 1))), (3, 0)] [] (mk E c s (hh g)))
else
  (if inb x1 40 = true then
    ((Call prog clsT X d 104 [(2, 0), (0, x4), (0, (g 31 (Int.toNat x1)))] ((mk E c s (hh g)))).bind fun r1 => if r1.1.1 = 4 then none else
    Ev prog clsT X d mc111 32 [(2, 0), (0, x1), (0, x2), (0, x3), (0, x4), (3, 0)] (pushR r1.1 []) r1.2)
  else none)) :=
  (evk_at (r := (if cmpI .eq s0 0 = true then
  (Ev prog clsT X d mc111 16 [(2, 0), (0, x1), (0, x2), (0, x3), (0, (w32 (x4 + 1))), (3, 0)] [] (mk E c s (hh g)))
else
  ((fget 5658 ((mk E c s (hh g))) 0).bind fun v1 =>
    (fget 1034 ((mk E c s (hh g))) v1).bind fun v2 =>
    (aget X 100 ((mk E c s (hh g))) v2 x1).bind fun v3 =>
    if (2 : Nat) = 2 ∧ rcv ((mk E c s (hh g))) 0 12 = true then
    ((Call prog clsT X d 104 [(2, 0), (0, x4), (0, v3)] ((mk E c s (hh g)))).bind fun r4 => if r4.1.1 = 4 then none else
    Ev prog clsT X d mc111 32 [(2, 0), (0, x1), (0, x2), (0, x3), (0, x4), (3, 0)] (pushR r4.1 []) r4.2) else none))) X [0, 4, 9, 16, 23, 32, 38] 10 rfl).trans (by simp (maxSteps := 10000000) only [R0_12, ↓A31, ↓F1034_30, ↓F5658_0, bindI, Option.bind_some, if_true_, and_self, ite_true, true_and, true_or, or_true])
set_option maxRecDepth 100000 in
theorem r111_32 (d : Nat) (x1 x2 x3 x4 s0 : Int) : Ev prog clsT X d mc111 32 [(2, 0), (0, x1), (0, x2), (0, x3), (0, x4), (3, 0)] [(0, s0)] (mk E c s (hh g)) =
  (if cmpI .eq s0 0 = true then
  ((Call prog clsT X d 106 [(2, 0), (0, x1), (0, x4)] ((mk E c s (hh g)))).bind fun r1 => if r1.1.1 = 4 then none else
    Ev prog clsT X d mc111 38 [(2, 0), (0, x1), (0, x2), (0, x3), (0, x4), (3, 0)] (pushR r1.1 []) r1.2)
else
  (Ev prog clsT X d mc111 16 [(2, 0), (0, x1), (0, x2), (0, x3), (0, (w32 (x4 + 1))), (3, 0)] [] (mk E c s (hh g)))) :=
  (evk_at (r := (if cmpI .eq s0 0 = true then
  (if (2 : Nat) = 2 ∧ rcv ((mk E c s (hh g))) 0 12 = true then
    ((Call prog clsT X d 106 [(2, 0), (0, x1), (0, x4)] ((mk E c s (hh g)))).bind fun r1 => if r1.1.1 = 4 then none else
    Ev prog clsT X d mc111 38 [(2, 0), (0, x1), (0, x2), (0, x3), (0, x4), (3, 0)] (pushR r1.1 []) r1.2) else none)
else
  (Ev prog clsT X d mc111 16 [(2, 0), (0, x1), (0, x2), (0, x3), (0, (w32 (x4 + 1))), (3, 0)] [] (mk E c s (hh g))))) X [0, 4, 9, 16, 23, 32, 38] 6 rfl).trans (by simp (maxSteps := 10000000) only [R0_12, bindI, Option.bind_some, if_true_, and_self, ite_true, true_and, true_or, or_true])
set_option maxRecDepth 100000 in
theorem r111_38 (d : Nat) (x1 x2 x3 x4 s0 : Int) : Ev prog clsT X d mc111 38 [(2, 0), (0, x1), (0, x2), (0, x3), (0, x4), (3, 0)] [(0, s0)] (mk E c s (hh g)) =
  (if cmpI .eq x3 ((-1)) = true then
  (Ev prog clsT X d mc111 16 [(2, 0), (0, x1), (0, x2), (0, s0), (0, (w32 (x4 + 1))), (0, s0)] [] (mk E c s (hh g)))
else
  (if cmpI .ne x2 0 = true then
    (if cmpI .le s0 x3 = true then
      (Ev prog clsT X d mc111 16 [(2, 0), (0, x1), (0, x2), (0, x3), (0, (w32 (x4 + 1))), (0, s0)] [] (mk E c s (hh g)))
    else
      (Ev prog clsT X d mc111 16 [(2, 0), (0, x1), (0, x2), (0, s0), (0, (w32 (x4 + 1))), (0, s0)] [] (mk E c s (hh g))))
  else
    (if cmpI .ge s0 x3 = true then
      (Ev prog clsT X d mc111 16 [(2, 0), (0, x1), (0, x2), (0, x3), (0, (w32 (x4 + 1))), (0, s0)] [] (mk E c s (hh g)))
    else
      (Ev prog clsT X d mc111 16 [(2, 0), (0, x1), (0, x2), (0, s0), (0, (w32 (x4 + 1))), (0, s0)] [] (mk E c s (hh g)))))) :=
  evk_at X [0, 4, 9, 16, 23, 32, 38] 16 rfl
set_option maxRecDepth 100000 in
theorem r112_0 (d : Nat) (x1 x2 : Int) : Ev prog clsT X d mc112 0 [(2, 0), (0, x1), (0, x2)] [] (mk E c s (hh g)) =
  ((Call prog clsT X d 90 [(0, x1), (0, 0), (0, 2)] ((mk E c s (hh g)))).bind fun r1 => if r1.1.1 = 4 then none else
  Ev prog clsT X d mc112 4 [(2, 0), (0, x1), (0, x2)] (pushR r1.1 []) r1.2) :=
  evk_at X [0, 4, 9] 5 rfl
set_option maxRecDepth 100000 in
theorem rc112_ (d : Nat) (x1 x2 : Int) : Call prog clsT X (d + 1) 112 [(2, 0), (0, x1), (0, x2)] (mk E c s (hh g)) =
  ((Call prog clsT X d 90 [(0, x1), (0, 0), (0, 2)] ((mk E c s (hh g)))).bind fun r1 => if r1.1.1 = 4 then none else
  Ev prog clsT X d mc112 4 [(2, 0), (0, x1), (0, x2)] (pushR r1.1 []) r1.2) :=
  (show Call prog clsT X (d + 1) 112 [(2, 0), (0, x1), (0, x2)] (mk E c s (hh g)) = Ev prog clsT X d mc112 0 [(2, 0), (0, x1), (0, x2)] [] (mk E c s (hh g)) from rfl).trans (r112_0 X E c s g d x1 x2 )
set_option maxRecDepth 100000 in
theorem r112_4 (d : Nat) (x1 x2 s0 : Int) : Ev prog clsT X d mc112 4 [(2, 0), (0, x1), (0, x2)] [(0, s0)] (mk E c s (hh g)) =
  (if cmpI .eq s0 0 = true then
  (some ((0, 0), ((mk E c s (hh g)))))
else
  ((Call prog clsT X d 90 [(0, x2), (0, 0), (0, 99)] ((mk E c s (hh g)))).bind fun r1 => if r1.1.1 = 4 then none else
    Ev prog clsT X d mc112 9 [(2, 0), (0, x1), (0, x2)] (pushR r1.1 []) r1.2)) :=
  (evk_at (r := (if cmpI .eq s0 0 = true then
  (some ((0, 0), (mk E c s (hh g))))
else
  ((Call prog clsT X d 90 [(0, x2), (0, 0), (0, 99)] ((mk E c s (hh g)))).bind fun r1 => if r1.1.1 = 4 then none else
    Ev prog clsT X d mc112 9 [(2, 0), (0, x1), (0, x2)] (pushR r1.1 []) r1.2))) X [0, 4, 9] 6 rfl).trans (by simp (maxSteps := 10000000) only [bindI, Option.bind_some, if_true_, and_self, ite_true, true_and, true_or, or_true])
set_option maxRecDepth 100000 in
theorem r112_9 (d : Nat) (x1 x2 s0 : Int) : Ev prog clsT X d mc112 9 [(2, 0), (0, x1), (0, x2)] [(0, s0)] (mk E c s (hh g)) =
  (if cmpI .ne s0 0 = true then
  (if inb x1 3 = true then
    (some ((0, 1), ((mk E c s (hh (up g 41 (Int.toNat x1) x2))))))
  else none)
else
  (some ((0, 0), ((mk E c s (hh g)))))) :=
  (evk_at (r := (if cmpI .ne s0 0 = true then
  ((fget 5666 ((mk E c s (hh g))) 0).bind fun v1 =>
    (fget 1538 ((mk E c s (hh g))) v1).bind fun v2 =>
    (aput 100 ((mk E c s (hh g))) v2 x1 (x2)).bind fun M3 =>
    some ((0, 1), M3))
else
  (some ((0, 0), (mk E c s (hh g)))))) X [0, 4, 9] 10 rfl).trans (by simp (maxSteps := 10000000) only [↓F1538_40, ↓F5666_0, ↓S41, bindI, Option.bind_some, if_true_, and_self, ite_true, true_and, true_or, or_true])
set_option maxRecDepth 100000 in
theorem r113_0 (d : Nat) (x1 x2 x3 : Int) : Ev prog clsT X d mc113 0 [(2, 0), (0, x1), (0, x2), (0, x3)] [] (mk E c s (hh g)) =
  ((Call prog clsT X d 97 [(2, 0), (0, x1)] ((mk E c s (hh g)))).bind fun r1 => if r1.1.1 = 4 then none else
  Ev prog clsT X d mc113 3 [(2, 0), (0, x1), (0, x2), (0, x3)] (pushR r1.1 []) r1.2) :=
  (evk_at (r := (if (2 : Nat) = 2 ∧ rcv ((mk E c s (hh g))) 0 12 = true then
  ((Call prog clsT X d 97 [(2, 0), (0, x1)] ((mk E c s (hh g)))).bind fun r1 => if r1.1.1 = 4 then none else
  Ev prog clsT X d mc113 3 [(2, 0), (0, x1), (0, x2), (0, x3)] (pushR r1.1 []) r1.2) else none)) X [0, 3, 8, 13] 4 rfl).trans (by simp (maxSteps := 10000000) only [R0_12, bindI, Option.bind_some, if_true_, and_self, ite_true, true_and, true_or, or_true])
set_option maxRecDepth 100000 in
theorem rc113_ (d : Nat) (x1 x2 x3 : Int) : Call prog clsT X (d + 1) 113 [(2, 0), (0, x1), (0, x2), (0, x3)] (mk E c s (hh g)) =
  ((Call prog clsT X d 97 [(2, 0), (0, x1)] ((mk E c s (hh g)))).bind fun r1 => if r1.1.1 = 4 then none else
  Ev prog clsT X d mc113 3 [(2, 0), (0, x1), (0, x2), (0, x3)] (pushR r1.1 []) r1.2) :=
  (show Call prog clsT X (d + 1) 113 [(2, 0), (0, x1), (0, x2), (0, x3)] (mk E c s (hh g)) = Ev prog clsT X d mc113 0 [(2, 0), (0, x1), (0, x2), (0, x3)] [] (mk E c s (hh g)) from rfl).trans (r113_0 X E c s g d x1 x2 x3 )
set_option maxRecDepth 100000 in
theorem r113_3 (d : Nat) (x1 x2 x3 s0 : Int) : Ev prog clsT X d mc113 3 [(2, 0), (0, x1), (0, x2), (0, x3)] [(2, s0)] (mk E c s (hh g)) =
  (if (2 : Nat) = 2 ∧ s0 ≠ -5 then (if (decide (s0 = -1)) = true then
  (some ((0, 0), ((mk E c s (hh g)))))
else
  ((Call prog clsT X d 90 [(0, x2), (0, 0), (0, 2)] ((mk E c s (hh g)))).bind fun r1 => if r1.1.1 = 4 then none else
    Ev prog clsT X d mc113 8 [(2, 0), (0, x1), (0, x2), (0, x3)] (pushR r1.1 []) r1.2)) else none) :=
  (evk_at (r := (if (2 : Nat) = 2 ∧ s0 ≠ -5 then (if (decide (s0 = -1)) = true then
  (some ((0, 0), (mk E c s (hh g))))
else
  ((Call prog clsT X d 90 [(0, x2), (0, 0), (0, 2)] ((mk E c s (hh g)))).bind fun r1 => if r1.1.1 = 4 then none else
    Ev prog clsT X d mc113 8 [(2, 0), (0, x1), (0, x2), (0, x3)] (pushR r1.1 []) r1.2)) else none)) X [0, 3, 8, 13] 6 rfl).trans (by simp (maxSteps := 10000000) only [bindI, Option.bind_some, if_true_, and_self, ite_true, true_and, true_or, or_true])
set_option maxRecDepth 100000 in
theorem r113_8 (d : Nat) (x1 x2 x3 s0 : Int) : Ev prog clsT X d mc113 8 [(2, 0), (0, x1), (0, x2), (0, x3)] [(0, s0)] (mk E c s (hh g)) =
  (if cmpI .eq s0 0 = true then
  (some ((0, 0), ((mk E c s (hh g)))))
else
  ((Call prog clsT X d 90 [(0, x3), (0, 0), (0, 9)] ((mk E c s (hh g)))).bind fun r1 => if r1.1.1 = 4 then none else
    Ev prog clsT X d mc113 13 [(2, 0), (0, x1), (0, x2), (0, x3)] (pushR r1.1 []) r1.2)) :=
  (evk_at (r := (if cmpI .eq s0 0 = true then
  (some ((0, 0), (mk E c s (hh g))))
else
  ((Call prog clsT X d 90 [(0, x3), (0, 0), (0, 9)] ((mk E c s (hh g)))).bind fun r1 => if r1.1.1 = 4 then none else
    Ev prog clsT X d mc113 13 [(2, 0), (0, x1), (0, x2), (0, x3)] (pushR r1.1 []) r1.2))) X [0, 3, 8, 13] 6 rfl).trans (by simp (maxSteps := 10000000) only [bindI, Option.bind_some, if_true_, and_self, ite_true, true_and, true_or, or_true])
set_option maxRecDepth 100000 in
theorem r113_13 (d : Nat) (x1 x2 x3 s0 : Int) : Ev prog clsT X d mc113 13 [(2, 0), (0, x1), (0, x2), (0, x3)] [(0, s0)] (mk E c s (hh g)) =
  (if cmpI .ne s0 0 = true then
  (if inb x1 10 = true then
    (if inb x1 10 = true then
    (some ((0, 1), ((mk E c s (hh (up (up g 42 (Int.toNat x1) x2) 43 (Int.toNat x1) x3))))))
  else none)
  else none)
else
  (some ((0, 0), ((mk E c s (hh g)))))) :=
  (evk_at (r := (if cmpI .ne s0 0 = true then
  ((fget 5666 ((mk E c s (hh g))) 0).bind fun v1 =>
    (fget 1542 ((mk E c s (hh g))) v1).bind fun v2 =>
    (aput 100 ((mk E c s (hh g))) v2 x1 (x2)).bind fun M3 =>
    (fget 5666 M3 0).bind fun v4 =>
    (fget 1546 M3 v4).bind fun v5 =>
    (aput 100 M3 v5 x1 (x3)).bind fun M6 =>
    some ((0, 1), M6))
else
  (some ((0, 0), (mk E c s (hh g)))))) X [0, 3, 8, 13] 16 rfl).trans (by simp (maxSteps := 10000000) only [↓F1542_40, ↓F1546_40, ↓F5666_0, ↓S42, ↓S43, bindI, Option.bind_some, if_true_, and_self, ite_true, true_and, true_or, or_true])
set_option maxRecDepth 100000 in
theorem r114_0 (d : Nat) (x1 x2 : Int) : Ev prog clsT X d mc114 0 [(2, 0), (0, x1), (0, x2), (3, 0), (3, 0)] [] (mk E c s (hh g)) =
  ((Call prog clsT X d 90 [(0, x1), (0, 0), (0, 2)] ((mk E c s (hh g)))).bind fun r1 => if r1.1.1 = 4 then none else
  Ev prog clsT X d mc114 4 [(2, 0), (0, x1), (0, x2), (3, 0), (3, 0)] (pushR r1.1 []) r1.2) :=
  evk_at X [0, 4, 10, 14] 5 rfl
set_option maxRecDepth 100000 in
theorem rc114_ (d : Nat) (x1 x2 : Int) : Call prog clsT X (d + 1) 114 [(2, 0), (0, x1), (0, x2)] (mk E c s (hh g)) =
  ((Call prog clsT X d 90 [(0, x1), (0, 0), (0, 2)] ((mk E c s (hh g)))).bind fun r1 => if r1.1.1 = 4 then none else
  Ev prog clsT X d mc114 4 [(2, 0), (0, x1), (0, x2), (3, 0), (3, 0)] (pushR r1.1 []) r1.2) :=
  (show Call prog clsT X (d + 1) 114 [(2, 0), (0, x1), (0, x2)] (mk E c s (hh g)) = Ev prog clsT X d mc114 0 [(2, 0), (0, x1), (0, x2), (3, 0), (3, 0)] [] (mk E c s (hh g)) from rfl).trans (r114_0 X E c s g d x1 x2 )
set_option maxRecDepth 100000 in
theorem r114_4 (d : Nat) (x1 x2 s0 : Int) : Ev prog clsT X d mc114 4 [(2, 0), (0, x1), (0, x2), (3, 0), (3, 0)] [(0, s0)] (mk E c s (hh g)) =
  (if cmpI .ne s0 0 = true then
  ((Call prog clsT X d 115 [(2, 0), (0, x2)] ((mk E c s (hh g)))).bind fun r1 => if r1.1.1 = 4 then none else
    Ev prog clsT X d mc114 10 [(2, 0), (0, x1), (0, x2), (3, 0), (3, 0)] (pushR r1.1 []) r1.2)
else
  (some ((0, (-1)), ((mk E c s (hh g)))))) :=
  (evk_at (r := (if cmpI .ne s0 0 = true then
  (if (2 : Nat) = 2 ∧ rcv ((mk E c s (hh g))) 0 12 = true then
    ((Call prog clsT X d 115 [(2, 0), (0, x2)] ((mk E c s (hh g)))).bind fun r1 => if r1.1.1 = 4 then none else
    Ev prog clsT X d mc114 10 [(2, 0), (0, x1), (0, x2), (3, 0), (3, 0)] (pushR r1.1 []) r1.2) else none)
else
  (some ((0, (-1)), (mk E c s (hh g)))))) X [0, 4, 10, 14] 5 rfl).trans (by simp (maxSteps := 10000000) only [R0_12, bindI, Option.bind_some, if_true_, and_self, ite_true, true_and, true_or, or_true])
set_option maxRecDepth 100000 in
theorem r114_10 (d : Nat) (x1 x2 : Int) : Ev prog clsT X d mc114 10 [(2, 0), (0, x1), (0, x2), (3, 0), (3, 0)] [] (mk E c s (hh g)) =
  (Ev prog clsT X d mc114 14 [(2, 0), (0, x1), (0, x2), (0, 0), (0, 0)] [] (mk E c s (hh g))) :=
  evk_at X [0, 4, 10, 14] 6 rfl
set_option maxRecDepth 100000 in
theorem r114_14 (d : Nat) (x1 x3 x4 : Int) (w2 : MV) : Ev prog clsT X d mc114 14 [(2, 0), (0, x1), w2, (0, x3), (0, x4)] [] (mk E c s (hh g)) =
  (if cmpI .ge x4 10 = true then
  (some ((0, x3), ((mk E c s (hh g)))))
else
  (if inb x4 10 = true then
    (if cmpI .ne ((g 42 (Int.toNat x4))) x1 = true then
    (Ev prog clsT X d mc114 14 [(2, 0), (0, x1), (3, 0), (0, x3), (0, (w32 (x4 + 1)))] [] (mk E c s (hh g)))
  else
    (if inb x4 10 = true then
      (if cmpI .le ((g 45 (Int.toNat x4))) 0 = true then
      (Ev prog clsT X d mc114 14 [(2, 0), (0, x1), (3, 0), (0, x3), (0, (w32 (x4 + 1)))] [] (mk E c s (hh g)))
    else
      (if inb x4 10 = true then
        (Ev prog clsT X d mc114 14 [(2, 0), (0, x1), (3, 0), (0, (w32 (x3 + ((g 45 (Int.toNat x4)))))), (0, (w32 (x4 + 1)))] [] (mk E c s (hh g)))
      else none))
    else none))
  else none)) :=
  (evk_at (r := (if cmpI .ge x4 10 = true then
  (some ((0, x3), (mk E c s (hh g))))
else
  ((fget 5666 ((mk E c s (hh g))) 0).bind fun v1 =>
    (fget 1542 ((mk E c s (hh g))) v1).bind fun v2 =>
    (aget X 100 ((mk E c s (hh g))) v2 x4).bind fun v3 =>
    if cmpI .ne v3 x1 = true then
    (Ev prog clsT X d mc114 14 [(2, 0), (0, x1), (3, 0), (0, x3), (0, (w32 (x4 + 1)))] [] (mk E c s (hh g)))
  else
    ((fget 5666 ((mk E c s (hh g))) 0).bind fun v4 =>
      (fget 1554 ((mk E c s (hh g))) v4).bind fun v5 =>
      (aget X 100 ((mk E c s (hh g))) v5 x4).bind fun v6 =>
      if cmpI .le v6 0 = true then
      (Ev prog clsT X d mc114 14 [(2, 0), (0, x1), (3, 0), (0, x3), (0, (w32 (x4 + 1)))] [] (mk E c s (hh g)))
    else
      ((fget 5666 ((mk E c s (hh g))) 0).bind fun v7 =>
        (fget 1554 ((mk E c s (hh g))) v7).bind fun v8 =>
        (aget X 100 ((mk E c s (hh g))) v8 x4).bind fun v9 =>
        Ev prog clsT X d mc114 14 [(2, 0), (0, x1), (3, 0), (0, (w32 (x3 + v9))), (0, (w32 (x4 + 1)))] [] (mk E c s (hh g))))))) X [0, 4, 10, 14] 28 rfl).trans (by simp (maxSteps := 10000000) only [↓A42, ↓A45, ↓F1542_40, ↓F1554_40, ↓F5666_0, bindI, Option.bind_some, if_true_, and_self, ite_true, true_and, true_or, or_true])
set_option maxRecDepth 100000 in
theorem r115_0 (d : Nat) (x1 : Int) : Ev prog clsT X d mc115 0 [(2, 0), (0, x1), (3, 0), (3, 0)] [] (mk E c s (hh g)) =
  (Ev prog clsT X d mc115 2 [(2, 0), (0, x1), (0, 0), (3, 0)] [] (mk E c s (hh g))) :=
  evk_at X [0, 2, 11, 16, 24] 4 rfl
set_option maxRecDepth 100000 in
theorem rc115_ (d : Nat) (x1 : Int) : Call prog clsT X (d + 1) 115 [(2, 0), (0, x1)] (mk E c s (hh g)) =
  (Ev prog clsT X d mc115 2 [(2, 0), (0, x1), (0, 0), (3, 0)] [] (mk E c s (hh g))) :=
  (show Call prog clsT X (d + 1) 115 [(2, 0), (0, x1)] (mk E c s (hh g)) = Ev prog clsT X d mc115 0 [(2, 0), (0, x1), (3, 0), (3, 0)] [] (mk E c s (hh g)) from rfl).trans (r115_0 X E c s g d x1 )
set_option maxRecDepth 100000 in
theorem r115_2 (d : Nat) (x1 x2 : Int) (w3 : MV) : Ev prog clsT X d mc115 2 [(2, 0), (0, x1), (0, x2), w3] [] (mk E c s (hh g)) =
  (if cmpI .ge x2 10 = true then
  (some ((3, 0), ((mk E c s (hh g)))))
else
  (if cmpI .eq x1 0 = true then
    ((Call prog clsT X d 24 [(2, 30), (0, x2)] ((mk E c s (hh g)))).bind fun r1 => if r1.1.1 = 4 then none else
      Ev prog clsT X d mc115 16 [(2, 0), (0, x1), (0, x2), (3, 0)] (pushR r1.1 []) r1.2)
  else
    ((Call prog clsT X d 27 [(2, 40), (0, x2)] ((mk E c s (hh g)))).bind fun r2 => if r2.1.1 = 4 then none else
      Ev prog clsT X d mc115 11 [(2, 0), (0, x1), (0, x2), (3, 0)] (pushR r2.1 []) r2.2))) :=
  (evk_at (r := (if cmpI .ge x2 10 = true then
  (some ((3, 0), (mk E c s (hh g))))
else
  (if cmpI .eq x1 0 = true then
    ((fget 5658 ((mk E c s (hh g))) 0).bind fun v1 =>
      if (2 : Nat) = 2 ∧ rcv ((mk E c s (hh g))) v1 3 = true then
      ((Call prog clsT X d 24 [(2, v1), (0, x2)] ((mk E c s (hh g)))).bind fun r2 => if r2.1.1 = 4 then none else
      Ev prog clsT X d mc115 16 [(2, 0), (0, x1), (0, x2), (3, 0)] (pushR r2.1 []) r2.2) else none)
  else
    ((fget 5666 ((mk E c s (hh g))) 0).bind fun v3 =>
      if (2 : Nat) = 2 ∧ rcv ((mk E c s (hh g))) v3 4 = true then
      ((Call prog clsT X d 27 [(2, v3), (0, x2)] ((mk E c s (hh g)))).bind fun r4 => if r4.1.1 = 4 then none else
      Ev prog clsT X d mc115 11 [(2, 0), (0, x1), (0, x2), (3, 0)] (pushR r4.1 []) r4.2) else none)))) X [0, 2, 11, 16, 24] 10 rfl).trans (by simp (maxSteps := 10000000) only [R30_3, R40_4, ↓F5658_0, ↓F5666_0, bindI, Option.bind_some, if_true_, and_self, ite_true, true_and, true_or, or_true])
set_option maxRecDepth 100000 in
theorem r115_11 (d : Nat) (x1 x2 s0 : Int) : Ev prog clsT X d mc115 11 [(2, 0), (0, x1), (0, x2), (3, 0)] [(0, s0)] (mk E c s (hh g)) =
  (Ev prog clsT X d mc115 16 [(2, 0), (0, x1), (0, x2), (3, 0)] [(0, s0)] (mk E c s (hh g))) :=
  evk_at X [0, 2, 11, 16, 24] 3 rfl
set_option maxRecDepth 100000 in
theorem r115_16 (d : Nat) (x1 x2 s0 : Int) : Ev prog clsT X d mc115 16 [(2, 0), (0, x1), (0, x2), (3, 0)] [(0, s0)] (mk E c s (hh g)) =
  ((Call prog clsT X d 97 [(2, 0), (0, x2)] ((mk E c s (hh g)))).bind fun r1 => if r1.1.1 = 4 then none else
  Ev prog clsT X d mc115 24 [(2, 0), (0, x1), (0, x2), (0, s0)] (pushR r1.1 [(0, x2), (2, 45)]) r1.2) :=
  (evk_at (r := ((fget 5666 ((mk E c s (hh g))) 0).bind fun v1 =>
  (fget 1554 ((mk E c s (hh g))) v1).bind fun v2 =>
  if (2 : Nat) = 2 ∧ rcv ((mk E c s (hh g))) 0 12 = true then
  ((Call prog clsT X d 97 [(2, 0), (0, x2)] ((mk E c s (hh g)))).bind fun r3 => if r3.1.1 = 4 then none else
  Ev prog clsT X d mc115 24 [(2, 0), (0, x1), (0, x2), (0, s0)] (pushR r3.1 [(0, x2), (2, v2)]) r3.2) else none)) X [0, 2, 11, 16, 24] 9 rfl).trans (by simp (maxSteps := 10000000) only [R0_12, ↓F1554_40, ↓F5666_0, bindI, Option.bind_some, if_true_, and_self, ite_true, true_and, true_or, or_true])
set_option maxRecDepth 100000 in
theorem r115_24 (d : Nat) (x1 x2 x3 s1 s2 : Int) : Ev prog clsT X d mc115 24 [(2, 0), (0, x1), (0, x2), (0, x3)] [(2, s2), (0, s1), (2, 45)] (mk E c s (hh g)) =
  (if (2 : Nat) = 2 ∧ s2 ≠ -5 then (if (!decide (s2 = -1)) = true then
  (if inb x2 10 = true then
    (if inb s1 10 = true then
    (Ev prog clsT X d mc115 2 [(2, 0), (0, x1), (0, (w32 (x2 + 1))), (0, x3)] [] (mk E c s (hh (up g 45 (Int.toNat s1) ((w32 (((g 43 (Int.toNat x2))) * x3)))))))
  else none)
  else none)
else
  (if inb s1 10 = true then
    (Ev prog clsT X d mc115 2 [(2, 0), (0, x1), (0, (w32 (x2 + 1))), (0, x3)] [] (mk E c s (hh (up g 45 (Int.toNat s1) ((-1))))))
  else none)) else none) :=
  (evk_at (r := (if (2 : Nat) = 2 ∧ s2 ≠ -5 then (if (!decide (s2 = -1)) = true then
  ((fget 5666 ((mk E c s (hh g))) 0).bind fun v1 =>
    (fget 1546 ((mk E c s (hh g))) v1).bind fun v2 =>
    (aget X 100 ((mk E c s (hh g))) v2 x2).bind fun v3 =>
    (aput 100 ((mk E c s (hh g))) 45 s1 ((w32 (v3 * x3)))).bind fun M4 =>
    Ev prog clsT X d mc115 2 [(2, 0), (0, x1), (0, (w32 (x2 + 1))), (0, x3)] [] M4)
else
  ((aput 100 ((mk E c s (hh g))) 45 s1 ((-1))).bind fun M5 =>
    Ev prog clsT X d mc115 2 [(2, 0), (0, x1), (0, (w32 (x2 + 1))), (0, x3)] [] M5)) else none)) X [0, 2, 11, 16, 24] 13 rfl).trans (by simp (maxSteps := 10000000) only [↓A43, ↓F1546_40, ↓F5666_0, ↓S45, bindI, Option.bind_some, if_true_, and_self, ite_true, true_and, true_or, or_true])
set_option maxRecDepth 100000 in
theorem r116_0 (d : Nat) (x1 x2 : Int) : Ev prog clsT X d mc116 0 [(2, 0), (0, x1), (0, x2), (3, 0)] [] (mk E c s (hh g)) =
  ((Call prog clsT X d 90 [(0, x2), (0, 0), (0, 10)] ((mk E c s (hh g)))).bind fun r1 => if r1.1.1 = 4 then none else
  Ev prog clsT X d mc116 4 [(2, 0), (0, x1), (0, x2), (3, 0)] (pushR r1.1 []) r1.2) :=
  evk_at X [0, 4, 12, 18, 21] 5 rfl
set_option maxRecDepth 100000 in
theorem rc116_ (d : Nat) (x1 x2 : Int) : Call prog clsT X (d + 1) 116 [(2, 0), (0, x1), (0, x2)] (mk E c s (hh g)) =
  ((Call prog clsT X d 90 [(0, x2), (0, 0), (0, 10)] ((mk E c s (hh g)))).bind fun r1 => if r1.1.1 = 4 then none else
  Ev prog clsT X d mc116 4 [(2, 0), (0, x1), (0, x2), (3, 0)] (pushR r1.1 []) r1.2) :=
  (show Call prog clsT X (d + 1) 116 [(2, 0), (0, x1), (0, x2)] (mk E c s (hh g)) = Ev prog clsT X d mc116 0 [(2, 0), (0, x1), (0, x2), (3, 0)] [] (mk E c s (hh g)) from rfl).trans (r116_0 X E c s g d x1 x2 )
set_option maxRecDepth 100000 in
theorem r116_4 (d : Nat) (x1 x2 s0 : Int) : Ev prog clsT X d mc116 4 [(2, 0), (0, x1), (0, x2), (3, 0)] [(0, s0)] (mk E c s (hh g)) =
  (if cmpI .eq s0 0 = true then
  (some ((0, (-1)), ((mk E c s (hh g)))))
else
  (if cmpI .le x2 0 = true then
    ((Call prog clsT X d 115 [(2, 0), (0, x1)] ((mk E c s (hh g)))).bind fun r1 => if r1.1.1 = 4 then none else
      Ev prog clsT X d mc116 18 [(2, 0), (0, x1), (0, x2), (3, 0)] (pushR r1.1 []) r1.2)
  else
    ((Call prog clsT X d 97 [(2, 0), (0, (w32 (x2 - 1)))] ((mk E c s (hh g)))).bind fun r2 => if r2.1.1 = 4 then none else
      Ev prog clsT X d mc116 12 [(2, 0), (0, x1), (0, x2), (3, 0)] (pushR r2.1 []) r2.2))) :=
  (evk_at (r := (if cmpI .eq s0 0 = true then
  (some ((0, (-1)), (mk E c s (hh g))))
else
  (if cmpI .le x2 0 = true then
    (if (2 : Nat) = 2 ∧ rcv ((mk E c s (hh g))) 0 12 = true then
      ((Call prog clsT X d 115 [(2, 0), (0, x1)] ((mk E c s (hh g)))).bind fun r1 => if r1.1.1 = 4 then none else
      Ev prog clsT X d mc116 18 [(2, 0), (0, x1), (0, x2), (3, 0)] (pushR r1.1 []) r1.2) else none)
  else
    (if (2 : Nat) = 2 ∧ rcv ((mk E c s (hh g))) 0 12 = true then
      ((Call prog clsT X d 97 [(2, 0), (0, (w32 (x2 - 1)))] ((mk E c s (hh g)))).bind fun r2 => if r2.1.1 = 4 then none else
      Ev prog clsT X d mc116 12 [(2, 0), (0, x1), (0, x2), (3, 0)] (pushR r2.1 []) r2.2) else none)))) X [0, 4, 12, 18, 21] 9 rfl).trans (by simp (maxSteps := 10000000) only [R0_12, bindI, Option.bind_some, if_true_, and_self, ite_true, true_and, true_or, or_true])
set_option maxRecDepth 100000 in
theorem r116_12 (d : Nat) (x1 x2 s0 : Int) : Ev prog clsT X d mc116 12 [(2, 0), (0, x1), (0, x2), (3, 0)] [(2, s0)] (mk E c s (hh g)) =
  (if (2 : Nat) = 2 ∧ s0 ≠ -5 then (if (!decide (s0 = -1)) = true then
  ((Call prog clsT X d 115 [(2, 0), (0, x1)] ((mk E c s (hh g)))).bind fun r1 => if r1.1.1 = 4 then none else
    Ev prog clsT X d mc116 18 [(2, 0), (0, x1), (0, x2), (3, 0)] (pushR r1.1 []) r1.2)
else
  (some ((0, (-1)), ((mk E c s (hh g)))))) else none) :=
  (evk_at (r := (if (2 : Nat) = 2 ∧ s0 ≠ -5 then (if (!decide (s0 = -1)) = true then
  (if (2 : Nat) = 2 ∧ rcv ((mk E c s (hh g))) 0 12 = true then
    ((Call prog clsT X d 115 [(2, 0), (0, x1)] ((mk E c s (hh g)))).bind fun r1 => if r1.1.1 = 4 then none else
    Ev prog clsT X d mc116 18 [(2, 0), (0, x1), (0, x2), (3, 0)] (pushR r1.1 []) r1.2) else none)
else
  (some ((0, (-1)), (mk E c s (hh g))))) else none)) X [0, 4, 12, 18, 21] 5 rfl).trans (by simp (maxSteps := 10000000) only [R0_12, bindI, Option.bind_some, if_true_, and_self, ite_true, true_and, true_or, or_true])
set_option maxRecDepth 100000 in
theorem r116_18 (d : Nat) (x1 x2 : Int) : Ev prog clsT X d mc116 18 [(2, 0), (0, x1), (0, x2), (3, 0)] [] (mk E c s (hh g)) =
  ((Call prog clsT X d 28 [(2, 40)] ((mk E c s (hh g)))).bind fun r1 => if r1.1.1 = 4 then none else
  Ev prog clsT X d mc116 21 [(2, 0), (0, x1), (0, x2), (3, 0)] (pushR r1.1 []) r1.2) :=
  (evk_at (r := ((fget 5666 ((mk E c s (hh g))) 0).bind fun v1 =>
  if (2 : Nat) = 2 ∧ rcv ((mk E c s (hh g))) v1 4 = true then
  ((Call prog clsT X d 28 [(2, v1)] ((mk E c s (hh g)))).bind fun r2 => if r2.1.1 = 4 then none else
  Ev prog clsT X d mc116 21 [(2, 0), (0, x1), (0, x2), (3, 0)] (pushR r2.1 []) r2.2) else none)) X [0, 4, 12, 18, 21] 4 rfl).trans (by simp (maxSteps := 10000000) only [R40_4, ↓F5666_0, bindI, Option.bind_some, if_true_, and_self, ite_true, true_and, true_or, or_true])
set_option maxRecDepth 100000 in
theorem r116_21 (d : Nat) (x1 x2 s0 : Int) : Ev prog clsT X d mc116 21 [(2, 0), (0, x1), (0, x2), (3, 0)] [(0, s0)] (mk E c s (hh g)) =
  (if cmpI .eq x2 0 = true then
  (some ((0, s0), ((mk E c s (hh g)))))
else
  (if cmpI .ne s0 ((-1)) = true then
    (if inb ((w32 (x2 - 1))) 10 = true then
      (some ((0, (g 46 (Int.toNat ((w32 (x2 - 1)))))), ((mk E c s (hh g)))))
    else none)
  else
    (some ((0, s0), ((mk E c s (hh g))))))) :=
  (evk_at (r := (if cmpI .eq x2 0 = true then
  (some ((0, s0), (mk E c s (hh g))))
else
  (if cmpI .ne s0 ((-1)) = true then
    ((fget 5666 ((mk E c s (hh g))) 0).bind fun v1 =>
      (fget 1558 ((mk E c s (hh g))) v1).bind fun v2 =>
      (aget X 100 ((mk E c s (hh g))) v2 ((w32 (x2 - 1)))).bind fun v3 =>
      some ((0, v3), (mk E c s (hh g))))
  else
    (some ((0, s0), (mk E c s (hh g))))))) X [0, 4, 12, 18, 21] 15 rfl).trans (by simp (maxSteps := 10000000) only [↓A46, ↓F1558_40, ↓F5666_0, bindI, Option.bind_some, if_true_, and_self, ite_true, true_and, true_or, or_true])
set_option maxRecDepth 100000 in
theorem r117_0 (d : Nat) (x1 : Int) : Ev prog clsT X d mc117 0 [(2, 0), (0, x1)] [] (mk E c s (hh g)) =
  ((Call prog clsT X d 90 [(0, x1), (0, 1), (0, 10)] ((mk E c s (hh g)))).bind fun r1 => if r1.1.1 = 4 then none else
  Ev prog clsT X d mc117 4 [(2, 0), (0, x1)] (pushR r1.1 []) r1.2) :=
  evk_at X [0, 4] 5 rfl
set_option maxRecDepth 100000 in
theorem rc117_ (d : Nat) (x1 : Int) : Call prog clsT X (d + 1) 117 [(2, 0), (0, x1)] (mk E c s (hh g)) =
  ((Call prog clsT X d 90 [(0, x1), (0, 1), (0, 10)] ((mk E c s (hh g)))).bind fun r1 => if r1.1.1 = 4 then none else
  Ev prog clsT X d mc117 4 [(2, 0), (0, x1)] (pushR r1.1 []) r1.2) :=
  (show Call prog clsT X (d + 1) 117 [(2, 0), (0, x1)] (mk E c s (hh g)) = Ev prog clsT X d mc117 0 [(2, 0), (0, x1)] [] (mk E c s (hh g)) from rfl).trans (r117_0 X E c s g d x1 )
set_option maxRecDepth 100000 in
theorem r117_4 (d : Nat) (x1 s0 : Int) : Ev prog clsT X d mc117 4 [(2, 0), (0, x1)] [(0, s0)] (mk E c s (hh g)) =
  (if cmpI .ne s0 0 = true then
  (some ((0, 1), ((mk E c s (hh (up g 36 3 x1))))))
else
  (some ((0, 0), ((mk E c s (hh g)))))) :=
  (evk_at (r := (if cmpI .ne s0 0 = true then
  ((fget 5662 ((mk E c s (hh g))) 0).bind fun v1 =>
    (fput 2060 ((mk E c s (hh g))) v1 x1).bind fun M2 =>
    some ((0, 1), M2))
else
  (some ((0, 0), (mk E c s (hh g)))))) X [0, 4] 8 rfl).trans (by simp (maxSteps := 10000000) only [↓F5662_0, ↓W2060_36, bindI, Option.bind_some, if_true_, and_self, ite_true, true_and, true_or, or_true])
set_option maxRecDepth 100000 in
theorem r118_0 (d : Nat) (x1 : Int) : Ev prog clsT X d mc118 0 [(2, 0), (0, x1), (3, 0), (3, 0)] [] (mk E c s (hh g)) =
  ((Call prog clsT X d 90 [(0, x1), (0, 0), (0, 10)] ((mk E c s (hh g)))).bind fun r1 => if r1.1.1 = 4 then none else
  Ev prog clsT X d mc118 4 [(2, 0), (0, x1), (3, 0), (3, 0)] (pushR r1.1 []) r1.2) :=
  evk_at X [0, 4, 9, 15, 20, 23, 34, 55] 5 rfl
set_option maxRecDepth 100000 in
theorem rc118_ (d : Nat) (x1 : Int) : Call prog clsT X (d + 1) 118 [(2, 0), (0, x1)] (mk E c s (hh g)) =
  ((Call prog clsT X d 90 [(0, x1), (0, 0), (0, 10)] ((mk E c s (hh g)))).bind fun r1 => if r1.1.1 = 4 then none else
  Ev prog clsT X d mc118 4 [(2, 0), (0, x1), (3, 0), (3, 0)] (pushR r1.1 []) r1.2) :=
  (show Call prog clsT X (d + 1) 118 [(2, 0), (0, x1)] (mk E c s (hh g)) = Ev prog clsT X d mc118 0 [(2, 0), (0, x1), (3, 0), (3, 0)] [] (mk E c s (hh g)) from rfl).trans (r118_0 X E c s g d x1 )
set_option maxRecDepth 100000 in
theorem r118_4 (d : Nat) (x1 s0 : Int) : Ev prog clsT X d mc118 4 [(2, 0), (0, x1), (3, 0), (3, 0)] [(0, s0)] (mk E c s (hh g)) =
  (if cmpI .ne s0 0 = true then
  (Ev prog clsT X d mc118 9 [(2, 0), (0, x1), (0, 0), (3, 0)] [] (mk E c s (hh g)))
else
  (some ((0, (-1)), ((mk E c s (hh g)))))) :=
  (evk_at (r := (if cmpI .ne s0 0 = true then
  (Ev prog clsT X d mc118 9 [(2, 0), (0, x1), (0, 0), (3, 0)] [] (mk E c s (hh g)))
else
  (some ((0, (-1)), (mk E c s (hh g)))))) X [0, 4, 9, 15, 20, 23, 34, 55] 5 rfl).trans (by simp (maxSteps := 10000000) only [bindI, Option.bind_some, if_true_, and_self, ite_true, true_and, true_or, or_true])
set_option maxRecDepth 100000 in
theorem r118_9 (d : Nat) (x1 x2 : Int) (w3 : MV) : Ev prog clsT X d mc118 9 [(2, 0), (0, x1), (0, x2), w3] [] (mk E c s (hh g)) =
  (if cmpI .ge x2 10 = true then
  ((Call prog clsT X d 61 [(2, 48), (0, (g 36 3))] ((mk E c s (hh g)))).bind fun r1 => if r1.1.1 = 4 then none else
    Ev prog clsT X d mc118 55 [(2, 0), (0, x1), (0, x2), (3, 0)] (pushR r1.1 []) r1.2)
else
  ((Call prog clsT X d 97 [(2, 0), (0, x2)] ((mk E c s (hh g)))).bind fun r2 => if r2.1.1 = 4 then none else
    Ev prog clsT X d mc118 15 [(2, 0), (0, x1), (0, x2), (3, 0)] (pushR r2.1 []) r2.2)) :=
  (evk_at (r := (if cmpI .ge x2 10 = true then
  ((fget 5670 ((mk E c s (hh g))) 0).bind fun v1 =>
    (fget 5662 ((mk E c s (hh g))) 0).bind fun v2 =>
    (fget 2060 ((mk E c s (hh g))) v2).bind fun v3 =>
    if (2 : Nat) = 2 ∧ rcv ((mk E c s (hh g))) v1 7 = true then
    ((Call prog clsT X d 61 [(2, v1), (0, v3)] ((mk E c s (hh g)))).bind fun r4 => if r4.1.1 = 4 then none else
    Ev prog clsT X d mc118 55 [(2, 0), (0, x1), (0, x2), (3, 0)] (pushR r4.1 []) r4.2) else none)
else
  (if (2 : Nat) = 2 ∧ rcv ((mk E c s (hh g))) 0 12 = true then
    ((Call prog clsT X d 97 [(2, 0), (0, x2)] ((mk E c s (hh g)))).bind fun r5 => if r5.1.1 = 4 then none else
    Ev prog clsT X d mc118 15 [(2, 0), (0, x1), (0, x2), (3, 0)] (pushR r5.1 []) r5.2) else none))) X [0, 4, 9, 15, 20, 23, 34, 55] 10 rfl).trans (by simp (maxSteps := 10000000) only [R0_12, R48_7, ↓F2060_36, ↓F5662_0, ↓F5670_0, bindI, Option.bind_some, if_true_, and_self, ite_true, true_and, true_or, or_true])
set_option maxRecDepth 100000 in
theorem r118_15 (d : Nat) (x1 x2 s0 : Int) : Ev prog clsT X d mc118 15 [(2, 0), (0, x1), (0, x2), (3, 0)] [(2, s0)] (mk E c s (hh g)) =
  (if (2 : Nat) = 2 ∧ s0 ≠ -5 then (if (decide (s0 = -1)) = true then
  (Ev prog clsT X d mc118 23 [(2, 0), (0, x1), (0, x2), (3, 0)] [] (mk E c s (hh g)))
else
  ((Call prog clsT X d 24 [(2, 30), (0, x2)] ((mk E c s (hh g)))).bind fun r1 => if r1.1.1 = 4 then none else
    Ev prog clsT X d mc118 20 [(2, 0), (0, x1), (0, x2), (3, 0)] (pushR r1.1 []) r1.2)) else none) :=
  (evk_at (r := (if (2 : Nat) = 2 ∧ s0 ≠ -5 then (if (decide (s0 = -1)) = true then
  (Ev prog clsT X d mc118 23 [(2, 0), (0, x1), (0, x2), (3, 0)] [] (mk E c s (hh g)))
else
  ((fget 5658 ((mk E c s (hh g))) 0).bind fun v1 =>
    if (2 : Nat) = 2 ∧ rcv ((mk E c s (hh g))) v1 3 = true then
    ((Call prog clsT X d 24 [(2, v1), (0, x2)] ((mk E c s (hh g)))).bind fun r2 => if r2.1.1 = 4 then none else
    Ev prog clsT X d mc118 20 [(2, 0), (0, x1), (0, x2), (3, 0)] (pushR r2.1 []) r2.2) else none)) else none)) X [0, 4, 9, 15, 20, 23, 34, 55] 6 rfl).trans (by simp (maxSteps := 10000000) only [R30_3, ↓F5658_0, bindI, Option.bind_some, if_true_, and_self, ite_true, true_and, true_or, or_true])
set_option maxRecDepth 100000 in
theorem r118_20 (d : Nat) (x1 x2 s0 : Int) : Ev prog clsT X d mc118 20 [(2, 0), (0, x1), (0, x2), (3, 0)] [(0, s0)] (mk E c s (hh g)) =
  (if cmpI .le s0 0 = true then
  (Ev prog clsT X d mc118 23 [(2, 0), (0, x1), (0, x2), (3, 0)] [] (mk E c s (hh g)))
else
  (if cmpI .eq 1 0 = true then
    (if inb x2 10 = true then
      (if inb x2 10 = true then
      (if inb x2 10 = true then
      (Ev prog clsT X d mc118 9 [(2, 0), (0, x1), (0, (w32 (x2 + 1))), (0, 1)] [] (mk E c s (hh (up (up g 49 (Int.toNat x2) ((-1))) 50 (Int.toNat x2) ((g 42 (Int.toNat x2)))))))
    else none)
    else none)
    else none)
  else
    ((Call prog clsT X d 119 [(2, 0), (0, x2)] ((mk E c s (hh g)))).bind fun r1 => if r1.1.1 = 4 then none else
      Ev prog clsT X d mc118 34 [(2, 0), (0, x1), (0, x2), (0, 1)] (pushR r1.1 [(0, x2), (2, 49)]) r1.2))) :=
  (evk_at (r := (if cmpI .le s0 0 = true then
  (Ev prog clsT X d mc118 23 [(2, 0), (0, x1), (0, x2), (3, 0)] [] (mk E c s (hh g)))
else
  ((fget 5670 ((mk E c s (hh g))) 0).bind fun v1 =>
    (fget 3074 ((mk E c s (hh g))) v1).bind fun v2 =>
    if cmpI .eq 1 0 = true then
    ((aput 100 ((mk E c s (hh g))) v2 x2 ((-1))).bind fun M3 =>
      (fget 5670 M3 0).bind fun v4 =>
      (fget 3078 M3 v4).bind fun v5 =>
      (fget 5666 M3 0).bind fun v6 =>
      (fget 1542 M3 v6).bind fun v7 =>
      (aget X 100 M3 v7 x2).bind fun v8 =>
      (aput 100 M3 v5 x2 (v8)).bind fun M9 =>
      Ev prog clsT X d mc118 9 [(2, 0), (0, x1), (0, (w32 (x2 + 1))), (0, 1)] [] M9)
  else
    (if (2 : Nat) = 2 ∧ rcv ((mk E c s (hh g))) 0 12 = true then
      ((Call prog clsT X d 119 [(2, 0), (0, x2)] ((mk E c s (hh g)))).bind fun r10 => if r10.1.1 = 4 then none else
      Ev prog clsT X d mc118 34 [(2, 0), (0, x1), (0, x2), (0, 1)] (pushR r10.1 [(0, x2), (2, v2)]) r10.2) else none)))) X [0, 4, 9, 15, 20, 23, 34, 55] 26 rfl).trans (by simp (maxSteps := 10000000) only [R0_12, uc_49_42, ↓A42, ↓F1542_40, ↓F3074_48, ↓F3078_48, ↓F5666_0, ↓F5670_0, ↓S49, ↓S50, bindI, Option.bind_some, if_true_, and_self, ite_true, true_and, true_or, or_true])
set_option maxRecDepth 100000 in
theorem r118_23 (d : Nat) (x1 x2 : Int) : Ev prog clsT X d mc118 23 [(2, 0), (0, x1), (0, x2), (3, 0)] [] (mk E c s (hh g)) =
  (if cmpI .eq 0 0 = true then
  (if inb x2 10 = true then
    (if inb x2 10 = true then
    (if inb x2 10 = true then
    (Ev prog clsT X d mc118 9 [(2, 0), (0, x1), (0, (w32 (x2 + 1))), (0, 0)] [] (mk E c s (hh (up (up g 49 (Int.toNat x2) ((-1))) 50 (Int.toNat x2) ((g 42 (Int.toNat x2)))))))
  else none)
  else none)
  else none)
else
  ((Call prog clsT X d 119 [(2, 0), (0, x2)] ((mk E c s (hh g)))).bind fun r1 => if r1.1.1 = 4 then none else
    Ev prog clsT X d mc118 34 [(2, 0), (0, x1), (0, x2), (0, 0)] (pushR r1.1 [(0, x2), (2, 49)]) r1.2)) :=
  (evk_at (r := ((fget 5670 ((mk E c s (hh g))) 0).bind fun v1 =>
  (fget 3074 ((mk E c s (hh g))) v1).bind fun v2 =>
  if cmpI .eq 0 0 = true then
  ((aput 100 ((mk E c s (hh g))) v2 x2 ((-1))).bind fun M3 =>
    (fget 5670 M3 0).bind fun v4 =>
    (fget 3078 M3 v4).bind fun v5 =>
    (fget 5666 M3 0).bind fun v6 =>
    (fget 1542 M3 v6).bind fun v7 =>
    (aget X 100 M3 v7 x2).bind fun v8 =>
    (aput 100 M3 v5 x2 (v8)).bind fun M9 =>
    Ev prog clsT X d mc118 9 [(2, 0), (0, x1), (0, (w32 (x2 + 1))), (0, 0)] [] M9)
else
  (if (2 : Nat) = 2 ∧ rcv ((mk E c s (hh g))) 0 12 = true then
    ((Call prog clsT X d 119 [(2, 0), (0, x2)] ((mk E c s (hh g)))).bind fun r10 => if r10.1.1 = 4 then none else
    Ev prog clsT X d mc118 34 [(2, 0), (0, x1), (0, x2), (0, 0)] (pushR r10.1 [(0, x2), (2, v2)]) r10.2) else none))) X [0, 4, 9, 15, 20, 23, 34, 55] 24 rfl).trans (by simp (maxSteps := 10000000) only [R0_12, uc_49_42, ↓A42, ↓F1542_40, ↓F3074_48, ↓F3078_48, ↓F5666_0, ↓F5670_0, ↓S49, ↓S50, bindI, Option.bind_some, if_true_, and_self, ite_true, true_and, true_or, or_true])
set_option maxRecDepth 100000 in
theorem r118_34 (d : Nat) (x1 x2 x3 s1 s2 : Int) : Ev prog clsT X d mc118 34 [(2, 0), (0, x1), (0, x2), (0, x3)] [(0, s2), (0, s1), (2, 49)] (mk E c s (hh g)) =
  (if inb s1 10 = true then
  (if inb x2 10 = true then
  (if inb x2 10 = true then
  (Ev prog clsT X d mc118 9 [(2, 0), (0, x1), (0, (w32 (x2 + 1))), (0, x3)] [] (mk E c s (hh (up (up g 49 (Int.toNat s1) s2) 50 (Int.toNat x2) ((g 42 (Int.toNat x2)))))))
else none)
else none)
else none) :=
  (evk_at (r := ((aput 100 ((mk E c s (hh g))) 49 s1 (s2)).bind fun M1 =>
  (fget 5670 M1 0).bind fun v2 =>
  (fget 3078 M1 v2).bind fun v3 =>
  (fget 5666 M1 0).bind fun v4 =>
  (fget 1542 M1 v4).bind fun v5 =>
  (aget X 100 M1 v5 x2).bind fun v6 =>
  (aput 100 M1 v3 x2 (v6)).bind fun M7 =>
  Ev prog clsT X d mc118 9 [(2, 0), (0, x1), (0, (w32 (x2 + 1))), (0, x3)] [] M7)) X [0, 4, 9, 15, 20, 23, 34, 55] 16 rfl).trans (by simp (maxSteps := 10000000) only [uc_49_42, ↓A42, ↓F1542_40, ↓F3078_48, ↓F5666_0, ↓F5670_0, ↓S49, ↓S50, bindI, Option.bind_some, if_true_, and_self, ite_true, true_and, true_or, or_true])
set_option maxRecDepth 100000 in
theorem r118_55 (d : Nat) (x1 x2 s0 : Int) : Ev prog clsT X d mc118 55 [(2, 0), (0, x1), (0, x2), (3, 0)] [(0, s0)] (mk E c s (hh g)) =
  (if cmpI .eq x1 0 = true then
  (some ((0, s0), ((mk E c s (hh g)))))
else
  (if cmpI .ne s0 ((-1)) = true then
    (if inb ((w32 (x1 - 1))) 10 = true then
      (some ((0, (g 51 (Int.toNat ((w32 (x1 - 1)))))), ((mk E c s (hh g)))))
    else none)
  else
    (some ((0, s0), ((mk E c s (hh g))))))) :=
  (evk_at (r := (if cmpI .eq x1 0 = true then
  (some ((0, s0), (mk E c s (hh g))))
else
  (if cmpI .ne s0 ((-1)) = true then
    ((fget 5670 ((mk E c s (hh g))) 0).bind fun v1 =>
      (fget 3082 ((mk E c s (hh g))) v1).bind fun v2 =>
      (aget X 100 ((mk E c s (hh g))) v2 ((w32 (x1 - 1)))).bind fun v3 =>
      some ((0, v3), (mk E c s (hh g))))
  else
    (some ((0, s0), (mk E c s (hh g))))))) X [0, 4, 9, 15, 20, 23, 34, 55] 15 rfl).trans (by simp (maxSteps := 10000000) only [↓A51, ↓F3082_48, ↓F5670_0, bindI, Option.bind_some, if_true_, and_self, ite_true, true_and, true_or, or_true])
set_option maxRecDepth 100000 in
theorem r119_0 (d : Nat) (x1 : Int) : Ev prog clsT X d mc119 0 [(2, 0), (0, x1), (3, 0), (3, 0)] [] (mk E c s (hh g)) =
  (Ev prog clsT X d mc119 4 [(2, 0), (0, x1), (0, 0), (0, 0)] [] (mk E c s (hh g))) :=
  evk_at X [0, 4, 12, 17] 6 rfl
set_option maxRecDepth 100000 in
theorem rc119_ (d : Nat) (x1 : Int) : Call prog clsT X (d + 1) 119 [(2, 0), (0, x1)] (mk E c s (hh g)) =
  (Ev prog clsT X d mc119 4 [(2, 0), (0, x1), (0, 0), (0, 0)] [] (mk E c s (hh g))) :=
  (show Call prog clsT X (d + 1) 119 [(2, 0), (0, x1)] (mk E c s (hh g)) = Ev prog clsT X d mc119 0 [(2, 0), (0, x1), (3, 0), (3, 0)] [] (mk E c s (hh g)) from rfl).trans (r119_0 X E c s g d x1 )
set_option maxRecDepth 100000 in
theorem r119_4 (d : Nat) (x1 x2 x3 : Int) : Ev prog clsT X d mc119 4 [(2, 0), (0, x1), (0, x2), (0, x3)] [] (mk E c s (hh g)) =
  (if cmpI .ge x3 4 = true then
  (some ((0, x2), ((mk E c s (hh g)))))
else
  ((Call prog clsT X d 34 [(2, 36), (0, x3)] ((mk E c s (hh g)))).bind fun r1 => if r1.1.1 = 4 then none else
    Ev prog clsT X d mc119 12 [(2, 0), (0, x1), (0, x2), (0, x3)] (pushR r1.1 [(0, x2)]) r1.2)) :=
  (evk_at (r := (if cmpI .ge x3 4 = true then
  (some ((0, x2), (mk E c s (hh g))))
else
  ((fget 5662 ((mk E c s (hh g))) 0).bind fun v1 =>
    if (2 : Nat) = 2 ∧ rcv ((mk E c s (hh g))) v1 5 = true then
    ((Call prog clsT X d 34 [(2, v1), (0, x3)] ((mk E c s (hh g)))).bind fun r2 => if r2.1.1 = 4 then none else
    Ev prog clsT X d mc119 12 [(2, 0), (0, x1), (0, x2), (0, x3)] (pushR r2.1 [(0, x2)]) r2.2) else none))) X [0, 4, 12, 17] 9 rfl).trans (by simp (maxSteps := 10000000) only [R36_5, ↓F5662_0, bindI, Option.bind_some, if_true_, and_self, ite_true, true_and, true_or, or_true])
set_option maxRecDepth 100000 in
theorem r119_12 (d : Nat) (x1 x2 x3 s0 s1 : Int) : Ev prog clsT X d mc119 12 [(2, 0), (0, x1), (0, x2), (0, x3)] [(0, s1), (0, s0)] (mk E c s (hh g)) =
  (if cmpI .eq s1 0 = true then
  (Ev prog clsT X d mc119 4 [(2, 0), (0, x1), (0, (ior32 s0 0)), (0, (w32 (x3 + 1)))] [] (mk E c s (hh g)))
else
  ((Call prog clsT X d 104 [(2, 0), (0, x3), (0, x1)] ((mk E c s (hh g)))).bind fun r1 => if r1.1.1 = 4 then none else
    Ev prog clsT X d mc119 17 [(2, 0), (0, x1), (0, x2), (0, x3)] (pushR r1.1 [(0, s0)]) r1.2)) :=
  (evk_at (r := (if cmpI .eq s1 0 = true then
  (Ev prog clsT X d mc119 4 [(2, 0), (0, x1), (0, (ior32 s0 0)), (0, (w32 (x3 + 1)))] [] (mk E c s (hh g)))
else
  (if (2 : Nat) = 2 ∧ rcv ((mk E c s (hh g))) 0 12 = true then
    ((Call prog clsT X d 104 [(2, 0), (0, x3), (0, x1)] ((mk E c s (hh g)))).bind fun r1 => if r1.1.1 = 4 then none else
    Ev prog clsT X d mc119 17 [(2, 0), (0, x1), (0, x2), (0, x3)] (pushR r1.1 [(0, s0)]) r1.2) else none))) X [0, 4, 12, 17] 8 rfl).trans (by simp (maxSteps := 10000000) only [R0_12, bindI, Option.bind_some, if_true_, and_self, ite_true, true_and, true_or, or_true])
set_option maxRecDepth 100000 in
theorem r119_17 (d : Nat) (x1 x2 x3 s0 s1 : Int) : Ev prog clsT X d mc119 17 [(2, 0), (0, x1), (0, x2), (0, x3)] [(0, s1), (0, s0)] (mk E c s (hh g)) =
  (if cmpI .ne s1 0 = true then
  (Ev prog clsT X d mc119 4 [(2, 0), (0, x1), (0, (ior32 s0 0)), (0, (w32 (x3 + 1)))] [] (mk E c s (hh g)))
else
  (Ev prog clsT X d mc119 4 [(2, 0), (0, x1), (0, (ior32 s0 ((ishl32 1 x3)))), (0, (w32 (x3 + 1)))] [] (mk E c s (hh g)))) :=
  evk_at X [0, 4, 12, 17] 11 rfl
set_option maxRecDepth 100000 in
theorem r120_0 (d : Nat) (x1 x2 x3 : Int) : Ev prog clsT X d mc120 0 [(2, 0), (0, x1), (0, x2), (0, x3)] [] (mk E c s (hh g)) =
  ((Call prog clsT X d 90 [(0, x1), (0, 1), (0, 3)] ((mk E c s (hh g)))).bind fun r1 => if r1.1.1 = 4 then none else
  Ev prog clsT X d mc120 4 [(2, 0), (0, x1), (0, x2), (0, x3)] (pushR r1.1 []) r1.2) :=
  evk_at X [0, 4, 9, 14] 5 rfl
set_option maxRecDepth 100000 in
theorem rc120_ (d : Nat) (x1 x2 x3 : Int) : Call prog clsT X (d + 1) 120 [(2, 0), (0, x1), (0, x2), (0, x3)] (mk E c s (hh g)) =
  ((Call prog clsT X d 90 [(0, x1), (0, 1), (0, 3)] ((mk E c s (hh g)))).bind fun r1 => if r1.1.1 = 4 then none else
  Ev prog clsT X d mc120 4 [(2, 0), (0, x1), (0, x2), (0, x3)] (pushR r1.1 []) r1.2) :=
  (show Call prog clsT X (d + 1) 120 [(2, 0), (0, x1), (0, x2), (0, x3)] (mk E c s (hh g)) = Ev prog clsT X d mc120 0 [(2, 0), (0, x1), (0, x2), (0, x3)] [] (mk E c s (hh g)) from rfl).trans (r120_0 X E c s g d x1 x2 x3 )
set_option maxRecDepth 100000 in
theorem r120_4 (d : Nat) (x1 x2 x3 s0 : Int) : Ev prog clsT X d mc120 4 [(2, 0), (0, x1), (0, x2), (0, x3)] [(0, s0)] (mk E c s (hh g)) =
  (if cmpI .eq s0 0 = true then
  (some ((0, 0), ((mk E c s (hh g)))))
else
  ((Call prog clsT X d 90 [(0, x2), (0, 0), (0, 99)] ((mk E c s (hh g)))).bind fun r1 => if r1.1.1 = 4 then none else
    Ev prog clsT X d mc120 9 [(2, 0), (0, x1), (0, x2), (0, x3)] (pushR r1.1 []) r1.2)) :=
  (evk_at (r := (if cmpI .eq s0 0 = true then
  (some ((0, 0), (mk E c s (hh g))))
else
  ((Call prog clsT X d 90 [(0, x2), (0, 0), (0, 99)] ((mk E c s (hh g)))).bind fun r1 => if r1.1.1 = 4 then none else
    Ev prog clsT X d mc120 9 [(2, 0), (0, x1), (0, x2), (0, x3)] (pushR r1.1 []) r1.2))) X [0, 4, 9, 14] 6 rfl).trans (by simp (maxSteps := 10000000) only [bindI, Option.bind_some, if_true_, and_self, ite_true, true_and, true_or, or_true])
set_option maxRecDepth 100000 in
theorem r120_9 (d : Nat) (x1 x2 x3 s0 : Int) : Ev prog clsT X d mc120 9 [(2, 0), (0, x1), (0, x2), (0, x3)] [(0, s0)] (mk E c s (hh g)) =
  (if cmpI .eq s0 0 = true then
  (some ((0, 0), ((mk E c s (hh g)))))
else
  ((Call prog clsT X d 90 [(0, x3), (0, 0), (0, 999)] ((mk E c s (hh g)))).bind fun r1 => if r1.1.1 = 4 then none else
    Ev prog clsT X d mc120 14 [(2, 0), (0, x1), (0, x2), (0, x3)] (pushR r1.1 []) r1.2)) :=
  (evk_at (r := (if cmpI .eq s0 0 = true then
  (some ((0, 0), (mk E c s (hh g))))
else
  ((Call prog clsT X d 90 [(0, x3), (0, 0), (0, 999)] ((mk E c s (hh g)))).bind fun r1 => if r1.1.1 = 4 then none else
    Ev prog clsT X d mc120 14 [(2, 0), (0, x1), (0, x2), (0, x3)] (pushR r1.1 []) r1.2))) X [0, 4, 9, 14] 6 rfl).trans (by simp (maxSteps := 10000000) only [bindI, Option.bind_some, if_true_, and_self, ite_true, true_and, true_or, or_true])
set_option maxRecDepth 100000 in
theorem r120_14 (d : Nat) (x1 x2 x3 s0 : Int) : Ev prog clsT X d mc120 14 [(2, 0), (0, x1), (0, x2), (0, x3)] [(0, s0)] (mk E c s (hh g)) =
  (if cmpI .ne s0 0 = true then
  (if inb ((w32 (x1 - 1))) 3 = true then
    (if inb ((w32 (x1 - 1))) 3 = true then
    (some ((0, 1), ((mk E c s (hh (up (up g 60 (Int.toNat ((w32 (x1 - 1)))) x2) 61 (Int.toNat ((w32 (x1 - 1)))) x3))))))
  else none)
  else none)
else
  (some ((0, 0), ((mk E c s (hh g)))))) :=
  (evk_at (r := (if cmpI .ne s0 0 = true then
  ((fget 5674 ((mk E c s (hh g))) 0).bind fun v1 =>
    (fget 18 ((mk E c s (hh g))) v1).bind fun v2 =>
    (aput 100 ((mk E c s (hh g))) v2 ((w32 (x1 - 1))) (x2)).bind fun M3 =>
    (fget 5674 M3 0).bind fun v4 =>
    (fget 22 M3 v4).bind fun v5 =>
    (aput 100 M3 v5 ((w32 (x1 - 1))) (x3)).bind fun M6 =>
    some ((0, 1), M6))
else
  (some ((0, 0), (mk E c s (hh g)))))) X [0, 4, 9, 14] 20 rfl).trans (by simp (maxSteps := 10000000) only [↓F18_55, ↓F22_55, ↓F5674_0, ↓S60, ↓S61, bindI, Option.bind_some, if_true_, and_self, ite_true, true_and, true_or, or_true])
set_option maxRecDepth 100000 in
theorem r121_0 (d : Nat) (x1 x2 : Int) : Ev prog clsT X d mc121 0 [(2, 0), (0, x1), (0, x2)] [] (mk E c s (hh g)) =
  ((Call prog clsT X d 90 [(0, x1), (0, 0), (0, 99)] ((mk E c s (hh g)))).bind fun r1 => if r1.1.1 = 4 then none else
  Ev prog clsT X d mc121 4 [(2, 0), (0, x1), (0, x2)] (pushR r1.1 []) r1.2) :=
  evk_at X [0, 4, 9] 5 rfl
set_option maxRecDepth 100000 in
theorem rc121_ (d : Nat) (x1 x2 : Int) : Call prog clsT X (d + 1) 121 [(2, 0), (0, x1), (0, x2)] (mk E c s (hh g)) =
  ((Call prog clsT X d 90 [(0, x1), (0, 0), (0, 99)] ((mk E c s (hh g)))).bind fun r1 => if r1.1.1 = 4 then none else
  Ev prog clsT X d mc121 4 [(2, 0), (0, x1), (0, x2)] (pushR r1.1 []) r1.2) :=
  (show Call prog clsT X (d + 1) 121 [(2, 0), (0, x1), (0, x2)] (mk E c s (hh g)) = Ev prog clsT X d mc121 0 [(2, 0), (0, x1), (0, x2)] [] (mk E c s (hh g)) from rfl).trans (r121_0 X E c s g d x1 x2 )
set_option maxRecDepth 100000 in
theorem r121_4 (d : Nat) (x1 x2 s0 : Int) : Ev prog clsT X d mc121 4 [(2, 0), (0, x1), (0, x2)] [(0, s0)] (mk E c s (hh g)) =
  (if cmpI .eq s0 0 = true then
  (some ((0, 0), ((mk E c s (hh g)))))
else
  ((Call prog clsT X d 90 [(0, x2), (0, 0), (0, 99)] ((mk E c s (hh g)))).bind fun r1 => if r1.1.1 = 4 then none else
    Ev prog clsT X d mc121 9 [(2, 0), (0, x1), (0, x2)] (pushR r1.1 []) r1.2)) :=
  (evk_at (r := (if cmpI .eq s0 0 = true then
  (some ((0, 0), (mk E c s (hh g))))
else
  ((Call prog clsT X d 90 [(0, x2), (0, 0), (0, 99)] ((mk E c s (hh g)))).bind fun r1 => if r1.1.1 = 4 then none else
    Ev prog clsT X d mc121 9 [(2, 0), (0, x1), (0, x2)] (pushR r1.1 []) r1.2))) X [0, 4, 9] 6 rfl).trans (by simp (maxSteps := 10000000) only [bindI, Option.bind_some, if_true_, and_self, ite_true, true_and, true_or, or_true])
set_option maxRecDepth 100000 in
theorem r121_9 (d : Nat) (x1 x2 s0 : Int) : Ev prog clsT X d mc121 9 [(2, 0), (0, x1), (0, x2)] [(0, s0)] (mk E c s (hh g)) =
  (if cmpI .ne s0 0 = true then
  (some ((0, 1), ((mk E c s (hh (up (up g 55 6 x1) 55 7 x2))))))
else
  (some ((0, 0), ((mk E c s (hh g)))))) :=
  (evk_at (r := (if cmpI .ne s0 0 = true then
  ((fget 5674 ((mk E c s (hh g))) 0).bind fun v1 =>
    (fput 24 ((mk E c s (hh g))) v1 x1).bind fun M2 =>
    (fget 5674 M2 0).bind fun v3 =>
    (fput 28 M2 v3 x2).bind fun M4 =>
    some ((0, 1), M4))
else
  (some ((0, 0), (mk E c s (hh g)))))) X [0, 4, 9] 12 rfl).trans (by simp (maxSteps := 10000000) only [↓F5674_0, ↓W24_55, ↓W28_55, bindI, Option.bind_some, if_true_, and_self, ite_true, true_and, true_or, or_true])
set_option maxRecDepth 100000 in
theorem r122_0 (d : Nat) (x1 x2 : Int) : Ev prog clsT X d mc122 0 [(2, 0), (0, x1), (0, x2), (3, 0), (3, 0)] [] (mk E c s (hh g)) =
  (if cmpI .eq x1 0 = true then
  ((Call prog clsT X d 84 [(2, 1), (0, x2)] ((mk E c s (hh g)))).bind fun r1 => if r1.1.1 = 4 then none else
    Ev prog clsT X d mc122 12 [(2, 0), (0, x1), (0, x2), (3, 0), (3, 0)] (pushR r1.1 []) r1.2)
else
  ((Call prog clsT X d 90 [(0, x2), (0, 0), (0, 5)] ((mk E c s (hh g)))).bind fun r2 => if r2.1.1 = 4 then none else
    Ev prog clsT X d mc122 6 [(2, 0), (0, x1), (0, x2), (3, 0), (3, 0)] (pushR r2.1 []) r2.2)) :=
  (evk_at (r := (if cmpI .eq x1 0 = true then
  ((fget 5634 ((mk E c s (hh g))) 0).bind fun v1 =>
    if (2 : Nat) = 2 ∧ rcv ((mk E c s (hh g))) v1 11 = true then
    ((Call prog clsT X d 84 [(2, v1), (0, x2)] ((mk E c s (hh g)))).bind fun r2 => if r2.1.1 = 4 then none else
    Ev prog clsT X d mc122 12 [(2, 0), (0, x1), (0, x2), (3, 0), (3, 0)] (pushR r2.1 []) r2.2) else none)
else
  ((Call prog clsT X d 90 [(0, x2), (0, 0), (0, 5)] ((mk E c s (hh g)))).bind fun r3 => if r3.1.1 = 4 then none else
    Ev prog clsT X d mc122 6 [(2, 0), (0, x1), (0, x2), (3, 0), (3, 0)] (pushR r3.1 []) r3.2))) X [0, 6, 12, 17, 21] 7 rfl).trans (by simp (maxSteps := 10000000) only [R1_11, ↓F5634_0, bindI, Option.bind_some, if_true_, and_self, ite_true, true_and, true_or, or_true])
set_option maxRecDepth 100000 in
theorem rc122_ (d : Nat) (x1 x2 : Int) : Call prog clsT X (d + 1) 122 [(2, 0), (0, x1), (0, x2)] (mk E c s (hh g)) =
  (if cmpI .eq x1 0 = true then
  ((Call prog clsT X d 84 [(2, 1), (0, x2)] ((mk E c s (hh g)))).bind fun r1 => if r1.1.1 = 4 then none else
    Ev prog clsT X d mc122 12 [(2, 0), (0, x1), (0, x2), (3, 0), (3, 0)] (pushR r1.1 []) r1.2)
else
  ((Call prog clsT X d 90 [(0, x2), (0, 0), (0, 5)] ((mk E c s (hh g)))).bind fun r2 => if r2.1.1 = 4 then none else
    Ev prog clsT X d mc122 6 [(2, 0), (0, x1), (0, x2), (3, 0), (3, 0)] (pushR r2.1 []) r2.2)) :=
  (show Call prog clsT X (d + 1) 122 [(2, 0), (0, x1), (0, x2)] (mk E c s (hh g)) = Ev prog clsT X d mc122 0 [(2, 0), (0, x1), (0, x2), (3, 0), (3, 0)] [] (mk E c s (hh g)) from rfl).trans (r122_0 X E c s g d x1 x2 )
set_option maxRecDepth 100000 in
theorem r122_6 (d : Nat) (x1 x2 s0 : Int) : Ev prog clsT X d mc122 6 [(2, 0), (0, x1), (0, x2), (3, 0), (3, 0)] [(0, s0)] (mk E c s (hh g)) =
  (if cmpI .ne s0 0 = true then
  ((Call prog clsT X d 123 [(2, 0)] ((mk E c s (hh g)))).bind fun r1 => if r1.1.1 = 4 then none else
    Ev prog clsT X d mc122 17 [(2, 0), (0, x1), (0, x2), (3, 0), (3, 0)] (pushR r1.1 []) r1.2)
else
  (some ((0, (-1)), ((mk E c s (hh g)))))) :=
  (evk_at (r := (if cmpI .ne s0 0 = true then
  (if (2 : Nat) = 2 ∧ rcv ((mk E c s (hh g))) 0 12 = true then
    ((Call prog clsT X d 123 [(2, 0)] ((mk E c s (hh g)))).bind fun r1 => if r1.1.1 = 4 then none else
    Ev prog clsT X d mc122 17 [(2, 0), (0, x1), (0, x2), (3, 0), (3, 0)] (pushR r1.1 []) r1.2) else none)
else
  (some ((0, (-1)), (mk E c s (hh g)))))) X [0, 6, 12, 17, 21] 5 rfl).trans (by simp (maxSteps := 10000000) only [R0_12, bindI, Option.bind_some, if_true_, and_self, ite_true, true_and, true_or, or_true])
set_option maxRecDepth 100000 in
theorem r122_12 (d : Nat) (x1 x2 s0 : Int) : Ev prog clsT X d mc122 12 [(2, 0), (0, x1), (0, x2), (3, 0), (3, 0)] [(0, s0)] (mk E c s (hh g)) =
  (if cmpI .ne s0 0 = true then
  ((Call prog clsT X d 123 [(2, 0)] ((mk E c s (hh g)))).bind fun r1 => if r1.1.1 = 4 then none else
    Ev prog clsT X d mc122 17 [(2, 0), (0, x1), (0, x2), (3, 0), (3, 0)] (pushR r1.1 []) r1.2)
else
  (some ((0, (-1)), ((mk E c s (hh g)))))) :=
  (evk_at (r := (if cmpI .ne s0 0 = true then
  (if (2 : Nat) = 2 ∧ rcv ((mk E c s (hh g))) 0 12 = true then
    ((Call prog clsT X d 123 [(2, 0)] ((mk E c s (hh g)))).bind fun r1 => if r1.1.1 = 4 then none else
    Ev prog clsT X d mc122 17 [(2, 0), (0, x1), (0, x2), (3, 0), (3, 0)] (pushR r1.1 []) r1.2) else none)
else
  (some ((0, (-1)), (mk E c s (hh g)))))) X [0, 6, 12, 17, 21] 4 rfl).trans (by simp (maxSteps := 10000000) only [R0_12, bindI, Option.bind_some, if_true_, and_self, ite_true, true_and, true_or, or_true])
set_option maxRecDepth 100000 in
theorem r122_17 (d : Nat) (x1 x2 : Int) : Ev prog clsT X d mc122 17 [(2, 0), (0, x1), (0, x2), (3, 0), (3, 0)] [] (mk E c s (hh g)) =
  (Ev prog clsT X d mc122 21 [(2, 0), (0, x1), (0, x2), (0, 0), (0, 0)] [] (mk E c s (hh g))) :=
  evk_at X [0, 6, 12, 17, 21] 6 rfl
set_option maxRecDepth 100000 in
theorem r122_21 (d : Nat) (x1 x2 x3 x4 : Int) : Ev prog clsT X d mc122 21 [(2, 0), (0, x1), (0, x2), (0, x3), (0, x4)] [] (mk E c s (hh g)) =
  (if cmpI .ge x4 10 = true then
  (some ((0, x3), ((mk E c s (hh g)))))
else
  (if cmpI .eq x1 0 = true then
    (if cmpI .ne x4 x2 = true then
      (Ev prog clsT X d mc122 21 [(2, 0), (0, x1), (0, x2), (0, x3), (0, (w32 (x4 + 1)))] [] (mk E c s (hh g)))
    else
      (if inb x4 10 = true then
        (Ev prog clsT X d mc122 21 [(2, 0), (0, x1), (0, x2), (0, (w32 (x3 + ((g 62 (Int.toNat x4)))))), (0, (w32 (x4 + 1)))] [] (mk E c s (hh g)))
      else none))
  else
    (if inb x4 10 = true then
      (if cmpI .ne ((g 2 (Int.toNat x4))) x2 = true then
      (Ev prog clsT X d mc122 21 [(2, 0), (0, x1), (0, x2), (0, x3), (0, (w32 (x4 + 1)))] [] (mk E c s (hh g)))
    else
      (if inb x4 10 = true then
        (Ev prog clsT X d mc122 21 [(2, 0), (0, x1), (0, x2), (0, (w32 (x3 + ((g 62 (Int.toNat x4)))))), (0, (w32 (x4 + 1)))] [] (mk E c s (hh g)))
      else none))
    else none))) :=
  (evk_at (r := (if cmpI .ge x4 10 = true then
  (some ((0, x3), (mk E c s (hh g))))
else
  (if cmpI .eq x1 0 = true then
    (if cmpI .ne x4 x2 = true then
      (Ev prog clsT X d mc122 21 [(2, 0), (0, x1), (0, x2), (0, x3), (0, (w32 (x4 + 1)))] [] (mk E c s (hh g)))
    else
      ((fget 5674 ((mk E c s (hh g))) 0).bind fun v1 =>
        (fget 34 ((mk E c s (hh g))) v1).bind fun v2 =>
        (aget X 100 ((mk E c s (hh g))) v2 x4).bind fun v3 =>
        Ev prog clsT X d mc122 21 [(2, 0), (0, x1), (0, x2), (0, (w32 (x3 + v3))), (0, (w32 (x4 + 1)))] [] (mk E c s (hh g))))
  else
    ((fget 5634 ((mk E c s (hh g))) 0).bind fun v4 =>
      (fget 5122 ((mk E c s (hh g))) v4).bind fun v5 =>
      (aget X 100 ((mk E c s (hh g))) v5 x4).bind fun v6 =>
      if cmpI .ne v6 x2 = true then
      (Ev prog clsT X d mc122 21 [(2, 0), (0, x1), (0, x2), (0, x3), (0, (w32 (x4 + 1)))] [] (mk E c s (hh g)))
    else
      ((fget 5674 ((mk E c s (hh g))) 0).bind fun v7 =>
        (fget 34 ((mk E c s (hh g))) v7).bind fun v8 =>
        (aget X 100 ((mk E c s (hh g))) v8 x4).bind fun v9 =>
        Ev prog clsT X d mc122 21 [(2, 0), (0, x1), (0, x2), (0, (w32 (x3 + v9))), (0, (w32 (x4 + 1)))] [] (mk E c s (hh g))))))) X [0, 6, 12, 17, 21] 25 rfl).trans (by simp (maxSteps := 10000000) only [↓A2, ↓A62, ↓F34_55, ↓F5122_1, ↓F5634_0, ↓F5674_0, bindI, Option.bind_some, if_true_, and_self, ite_true, true_and, true_or, or_true])
set_option maxRecDepth 100000 in
theorem r123_0 (d : Nat) : Ev prog clsT X d mc123 0 [(2, 0), (3, 0), (3, 0)] [] (mk E c s (hh g)) =
  ((Call prog clsT X d 5 [(2, 55)] ((mk E c s (hh g)))).bind fun r1 => if r1.1.1 = 4 then none else
  Ev prog clsT X d mc123 3 [(2, 0), (3, 0), (3, 0)] (pushR r1.1 []) r1.2) :=
  (evk_at (r := ((fget 5674 ((mk E c s (hh g))) 0).bind fun v1 =>
  if (2 : Nat) = 2 ∧ rcv ((mk E c s (hh g))) v1 1 = true then
  ((Call prog clsT X d 5 [(2, v1)] ((mk E c s (hh g)))).bind fun r2 => if r2.1.1 = 4 then none else
  Ev prog clsT X d mc123 3 [(2, 0), (3, 0), (3, 0)] (pushR r2.1 []) r2.2) else none)) X [0, 3, 5, 24, 26, 44] 4 rfl).trans (by simp (maxSteps := 10000000) only [R55_1, ↓F5674_0, bindI, Option.bind_some, if_true_, and_self, ite_true, true_and, true_or, or_true])
set_option maxRecDepth 100000 in
theorem rc123_ (d : Nat) : Call prog clsT X (d + 1) 123 [(2, 0)] (mk E c s (hh g)) =
  ((Call prog clsT X d 5 [(2, 55)] ((mk E c s (hh g)))).bind fun r1 => if r1.1.1 = 4 then none else
  Ev prog clsT X d mc123 3 [(2, 0), (3, 0), (3, 0)] (pushR r1.1 []) r1.2) :=
  (show Call prog clsT X (d + 1) 123 [(2, 0)] (mk E c s (hh g)) = Ev prog clsT X d mc123 0 [(2, 0), (3, 0), (3, 0)] [] (mk E c s (hh g)) from rfl).trans (r123_0 X E c s g d  )
set_option maxRecDepth 100000 in
theorem r123_3 (d : Nat) : Ev prog clsT X d mc123 3 [(2, 0), (3, 0), (3, 0)] [] (mk E c s (hh g)) =
  (Ev prog clsT X d mc123 5 [(2, 0), (0, 0), (3, 0)] [] (mk E c s (hh g))) :=
  evk_at X [0, 3, 5, 24, 26, 44] 4 rfl
set_option maxRecDepth 100000 in
theorem r123_5 (d : Nat) (x1 : Int) (w2 : MV) : Ev prog clsT X d mc123 5 [(2, 0), (0, x1), w2] [] (mk E c s (hh g)) =
  (if cmpI .ge x1 10 = true then
  (some ((3, 0), ((mk E c s (hh g)))))
else
  (if inb x1 10 = true then
    (if cmpI .ne ((g 39 (Int.toNat x1))) ((-1)) = true then
    (if inb x1 10 = true then
      ((Call prog clsT X d 107 [(2, 0), (0, x1), (0, (g 39 (Int.toNat x1)))] ((mk E c s (hh g)))).bind fun r1 => if r1.1.1 = 4 then none else
      Ev prog clsT X d mc123 24 [(2, 0), (0, x1), (3, 0)] (pushR r1.1 []) r1.2)
    else none)
  else
    (Ev prog clsT X d mc123 5 [(2, 0), (0, (w32 (x1 + 1))), (3, 0)] [] (mk E c s (hh g))))
  else none)) :=
  (evk_at (r := (if cmpI .ge x1 10 = true then
  (some ((3, 0), (mk E c s (hh g))))
else
  ((fget 5662 ((mk E c s (hh g))) 0).bind fun v1 =>
    (fget 2058 ((mk E c s (hh g))) v1).bind fun v2 =>
    (aget X 100 ((mk E c s (hh g))) v2 x1).bind fun v3 =>
    if cmpI .ne v3 ((-1)) = true then
    ((fget 5662 ((mk E c s (hh g))) 0).bind fun v4 =>
      (fget 2058 ((mk E c s (hh g))) v4).bind fun v5 =>
      (aget X 100 ((mk E c s (hh g))) v5 x1).bind fun v6 =>
      if (2 : Nat) = 2 ∧ rcv ((mk E c s (hh g))) 0 12 = true then
      ((Call prog clsT X d 107 [(2, 0), (0, x1), (0, v6)] ((mk E c s (hh g)))).bind fun r7 => if r7.1.1 = 4 then none else
      Ev prog clsT X d mc123 24 [(2, 0), (0, x1), (3, 0)] (pushR r7.1 []) r7.2) else none)
  else
    (Ev prog clsT X d mc123 5 [(2, 0), (0, (w32 (x1 + 1))), (3, 0)] [] (mk E c s (hh g)))))) X [0, 3, 5, 24, 26, 44] 19 rfl).trans (by simp (maxSteps := 10000000) only [R0_12, ↓A39, ↓F2058_36, ↓F5662_0, bindI, Option.bind_some, if_true_, and_self, ite_true, true_and, true_or, or_true])
set_option maxRecDepth 100000 in
theorem r123_24 (d : Nat) (x1 : Int) : Ev prog clsT X d mc123 24 [(2, 0), (0, x1), (3, 0)] [] (mk E c s (hh g)) =
  (Ev prog clsT X d mc123 26 [(2, 0), (0, x1), (0, 0)] [] (mk E c s (hh g))) :=
  evk_at X [0, 3, 5, 24, 26, 44] 4 rfl
set_option maxRecDepth 100000 in
theorem r123_26 (d : Nat) (x1 x2 : Int) : Ev prog clsT X d mc123 26 [(2, 0), (0, x1), (0, x2)] [] (mk E c s (hh g)) =
  (if cmpI .ge x2 ((g 30 0)) = true then
  (Ev prog clsT X d mc123 5 [(2, 0), (0, (w32 (x1 + 1))), (0, x2)] [] (mk E c s (hh g)))
else
  (if inb x2 40 = true then
    (if inb x2 40 = true then
    ((Call prog clsT X d 6 [(2, 55), (0, (g 32 (Int.toNat x2))), (0, (g 56 (Int.toNat x2)))] ((mk E c s (hh g)))).bind fun r1 => if r1.1.1 = 4 then none else
    Ev prog clsT X d mc123 44 [(2, 0), (0, x1), (0, x2)] (pushR r1.1 []) r1.2)
  else none)
  else none)) :=
  (evk_at (r := ((fget 5658 ((mk E c s (hh g))) 0).bind fun v1 =>
  (fget 1024 ((mk E c s (hh g))) v1).bind fun v2 =>
  if cmpI .ge x2 v2 = true then
  (Ev prog clsT X d mc123 5 [(2, 0), (0, (w32 (x1 + 1))), (0, x2)] [] (mk E c s (hh g)))
else
  ((fget 5674 ((mk E c s (hh g))) 0).bind fun v3 =>
    (fget 5658 ((mk E c s (hh g))) 0).bind fun v4 =>
    (fget 1038 ((mk E c s (hh g))) v4).bind fun v5 =>
    (aget X 100 ((mk E c s (hh g))) v5 x2).bind fun v6 =>
    (fget 5674 ((mk E c s (hh g))) 0).bind fun v7 =>
    (fget 2 ((mk E c s (hh g))) v7).bind fun v8 =>
    (aget X 100 ((mk E c s (hh g))) v8 x2).bind fun v9 =>
    if (2 : Nat) = 2 ∧ rcv ((mk E c s (hh g))) v3 1 = true then
    ((Call prog clsT X d 6 [(2, v3), (0, v6), (0, v9)] ((mk E c s (hh g)))).bind fun r10 => if r10.1.1 = 4 then none else
    Ev prog clsT X d mc123 44 [(2, 0), (0, x1), (0, x2)] (pushR r10.1 []) r10.2) else none))) X [0, 3, 5, 24, 26, 44] 19 rfl).trans (by simp (maxSteps := 10000000) only [R55_1, ↓A32, ↓A56, ↓F1024_30, ↓F1038_30, ↓F2_55, ↓F5658_0, ↓F5674_0, bindI, Option.bind_some, if_true_, and_self, ite_true, true_and, true_or, or_true])
set_option maxRecDepth 100000 in
theorem r123_44 (d : Nat) (x1 x2 : Int) : Ev prog clsT X d mc123 44 [(2, 0), (0, x1), (0, x2)] [] (mk E c s (hh g)) =
  (Ev prog clsT X d mc123 26 [(2, 0), (0, x1), (0, (w32 (x2 + 1)))] [] (mk E c s (hh g))) :=
  evk_at X [0, 3, 5, 24, 26, 44] 4 rfl
set_option maxRecDepth 100000 in
theorem r124_0 (d : Nat) : Ev prog clsT X d mc124 0 [(2, 0)] [] (mk E c s (hh g)) =
  ((Call prog clsT X d 123 [(2, 0)] ((mk E c s (hh g)))).bind fun r1 => if r1.1.1 = 4 then none else
  Ev prog clsT X d mc124 2 [(2, 0)] (pushR r1.1 []) r1.2) :=
  (evk_at (r := (if (2 : Nat) = 2 ∧ rcv ((mk E c s (hh g))) 0 12 = true then
  ((Call prog clsT X d 123 [(2, 0)] ((mk E c s (hh g)))).bind fun r1 => if r1.1.1 = 4 then none else
  Ev prog clsT X d mc124 2 [(2, 0)] (pushR r1.1 []) r1.2) else none)) X [0, 2, 4] 3 rfl).trans (by simp (maxSteps := 10000000) only [R0_12, bindI, Option.bind_some, if_true_, and_self, ite_true, true_and, true_or, or_true])
set_option maxRecDepth 100000 in
theorem rc124_ (d : Nat) : Call prog clsT X (d + 1) 124 [(2, 0)] (mk E c s (hh g)) =
  ((Call prog clsT X d 123 [(2, 0)] ((mk E c s (hh g)))).bind fun r1 => if r1.1.1 = 4 then none else
  Ev prog clsT X d mc124 2 [(2, 0)] (pushR r1.1 []) r1.2) :=
  (show Call prog clsT X (d + 1) 124 [(2, 0)] (mk E c s (hh g)) = Ev prog clsT X d mc124 0 [(2, 0)] [] (mk E c s (hh g)) from rfl).trans (r124_0 X E c s g d  )
set_option maxRecDepth 100000 in
theorem r124_2 (d : Nat) : Ev prog clsT X d mc124 2 [(2, 0)] [] (mk E c s (hh g)) =
  ((Call prog clsT X d 125 [(2, 0)] ((mk E c s (hh g)))).bind fun r1 => if r1.1.1 = 4 then none else
  Ev prog clsT X d mc124 4 [(2, 0)] (pushR r1.1 []) r1.2) :=
  (evk_at (r := (if (2 : Nat) = 2 ∧ rcv ((mk E c s (hh g))) 0 12 = true then
  ((Call prog clsT X d 125 [(2, 0)] ((mk E c s (hh g)))).bind fun r1 => if r1.1.1 = 4 then none else
  Ev prog clsT X d mc124 4 [(2, 0)] (pushR r1.1 []) r1.2) else none)) X [0, 2, 4] 3 rfl).trans (by simp (maxSteps := 10000000) only [R0_12, bindI, Option.bind_some, if_true_, and_self, ite_true, true_and, true_or, or_true])
set_option maxRecDepth 100000 in
theorem r124_4 (d : Nat) (s0 : Int) : Ev prog clsT X d mc124 4 [(2, 0)] [(0, s0)] (mk E c s (hh g)) =
  (some ((0, s0), ((mk E c s (hh g))))) :=
  (evk_at (r := (some ((0, s0), (mk E c s (hh g))))) X [0, 2, 4] 2 rfl).trans (by simp (maxSteps := 10000000) only [bindI, Option.bind_some, if_true_, and_self, ite_true, true_and, true_or, or_true])
set_option maxRecDepth 100000 in
theorem r125_0 (d : Nat) : Ev prog clsT X d mc125 0 [(2, 0), (3, 0), (3, 0), (3, 0), (3, 0), (3, 0)] [] (mk E c s (hh g)) =
  (Ev prog clsT X d mc125 8 [(2, 0), (0, 0), (0, 0), (0, 0), (0, 0), (3, 0)] [] (mk E c s (hh g))) :=
  evk_at X [0, 8, 15, 36, 46, 47] 10 rfl
set_option maxRecDepth 100000 in
theorem rc125_ (d : Nat) : Call prog clsT X (d + 1) 125 [(2, 0)] (mk E c s (hh g)) =
  (Ev prog clsT X d mc125 8 [(2, 0), (0, 0), (0, 0), (0, 0), (0, 0), (3, 0)] [] (mk E c s (hh g))) :=
  (show Call prog clsT X (d + 1) 125 [(2, 0)] (mk E c s (hh g)) = Ev prog clsT X d mc125 0 [(2, 0), (3, 0), (3, 0), (3, 0), (3, 0), (3, 0)] [] (mk E c s (hh g)) from rfl).trans (r125_0 X E c s g d  )
set_option maxRecDepth 100000 in
theorem r125_8 (d : Nat) (x1 x2 x3 x4 : Int) (w5 : MV) : Ev prog clsT X d mc125 8 [(2, 0), (0, x1), (0, x2), (0, x3), (0, x4), w5] [] (mk E c s (hh g)) =
  (if cmpI .ge x4 10 = true then
  (some ((0, x1), ((mk E c s (hh g)))))
else
  ((Call prog clsT X d 84 [(2, 1), (0, x4)] ((mk E c s (hh g)))).bind fun r1 => if r1.1.1 = 4 then none else
    Ev prog clsT X d mc125 15 [(2, 0), (0, x1), (0, x2), (0, x3), (0, x4), (3, 0)] (pushR r1.1 []) r1.2)) :=
  (evk_at (r := (if cmpI .ge x4 10 = true then
  (some ((0, x1), (mk E c s (hh g))))
else
  ((fget 5634 ((mk E c s (hh g))) 0).bind fun v1 =>
    if (2 : Nat) = 2 ∧ rcv ((mk E c s (hh g))) v1 11 = true then
    ((Call prog clsT X d 84 [(2, v1), (0, x4)] ((mk E c s (hh g)))).bind fun r2 => if r2.1.1 = 4 then none else
    Ev prog clsT X d mc125 15 [(2, 0), (0, x1), (0, x2), (0, x3), (0, x4), (3, 0)] (pushR r2.1 []) r2.2) else none))) X [0, 8, 15, 36, 46, 47] 8 rfl).trans (by simp (maxSteps := 10000000) only [R1_11, ↓F5634_0, bindI, Option.bind_some, if_true_, and_self, ite_true, true_and, true_or, or_true])
set_option maxRecDepth 100000 in
theorem r125_15 (d : Nat) (x1 x2 x3 x4 s0 : Int) : Ev prog clsT X d mc125 15 [(2, 0), (0, x1), (0, x2), (0, x3), (0, x4), (3, 0)] [(0, s0)] (mk E c s (hh g)) =
  (if cmpI .eq s0 0 = true then
  (Ev prog clsT X d mc125 8 [(2, 0), (0, x1), (0, x2), (0, x3), (0, (w32 (x4 + 1))), (3, 0)] [] (mk E c s (hh g)))
else
  (if inb x4 10 = true then
    (if cmpI .ne ((g 4 (Int.toNat x4))) 0 = true then
    (Ev prog clsT X d mc125 8 [(2, 0), (0, x1), (0, x2), (0, x3), (0, (w32 (x4 + 1))), (3, 0)] [] (mk E c s (hh g)))
  else
    (if inb x4 10 = true then
      (if cmpI .gt ((g 62 (Int.toNat x4))) 0 = true then
      (if inb x4 10 = true then
        ((Call prog clsT X d 263 [(0, (g 62 (Int.toNat x4))), (0, x2)] ((mk E c s (hh g)))).bind fun r1 => if r1.1.1 = 4 then none else
        Ev prog clsT X d mc125 36 [(2, 0), (0, x1), (0, x2), (0, x3), (0, x4), (3, 0)] (pushR r1.1 []) r1.2)
      else none)
    else
      (Ev prog clsT X d mc125 8 [(2, 0), (0, x1), (0, x2), (0, x3), (0, (w32 (x4 + 1))), (3, 0)] [] (mk E c s (hh g))))
    else none))
  else none)) :=
  (evk_at (r := (if cmpI .eq s0 0 = true then
  (Ev prog clsT X d mc125 8 [(2, 0), (0, x1), (0, x2), (0, x3), (0, (w32 (x4 + 1))), (3, 0)] [] (mk E c s (hh g)))
else
  ((fget 5634 ((mk E c s (hh g))) 0).bind fun v1 =>
    (fget 5130 ((mk E c s (hh g))) v1).bind fun v2 =>
    (aget X 102 ((mk E c s (hh g))) v2 x4).bind fun v3 =>
    if cmpI .ne v3 0 = true then
    (Ev prog clsT X d mc125 8 [(2, 0), (0, x1), (0, x2), (0, x3), (0, (w32 (x4 + 1))), (3, 0)] [] (mk E c s (hh g)))
  else
    ((fget 5674 ((mk E c s (hh g))) 0).bind fun v4 =>
      (fget 34 ((mk E c s (hh g))) v4).bind fun v5 =>
      (aget X 100 ((mk E c s (hh g))) v5 x4).bind fun v6 =>
      if cmpI .gt v6 0 = true then
      ((fget 5674 ((mk E c s (hh g))) 0).bind fun v7 =>
        (fget 34 ((mk E c s (hh g))) v7).bind fun v8 =>
        (aget X 100 ((mk E c s (hh g))) v8 x4).bind fun v9 =>
        (Call prog clsT X d 263 [(0, v9), (0, x2)] ((mk E c s (hh g)))).bind fun r10 => if r10.1.1 = 4 then none else
        Ev prog clsT X d mc125 36 [(2, 0), (0, x1), (0, x2), (0, x3), (0, x4), (3, 0)] (pushR r10.1 []) r10.2)
    else
      (Ev prog clsT X d mc125 8 [(2, 0), (0, x1), (0, x2), (0, x3), (0, (w32 (x4 + 1))), (3, 0)] [] (mk E c s (hh g))))))) X [0, 8, 15, 36, 46, 47] 21 rfl).trans (by simp (maxSteps := 10000000) only [↓A4, ↓A62, ↓F34_55, ↓F5130_1, ↓F5634_0, ↓F5674_0, bindI, Option.bind_some, if_true_, and_self, ite_true, true_and, true_or, or_true])
set_option maxRecDepth 100000 in
theorem r125_36 (d : Nat) (x1 x2 x3 x4 s0 : Int) : Ev prog clsT X d mc125 36 [(2, 0), (0, x1), (0, x2), (0, x3), (0, x4), (3, 0)] [(0, s0)] (mk E c s (hh g)) =
  (if cmpI .ne s0 0 = true then
  (Ev prog clsT X d mc125 47 [(2, 0), (0, x1), (0, x2), (0, x3), (0, x4), (0, s0)] [] (mk E c s (hh g)))
else
  (if inb x4 10 = true then
    ((Call prog clsT X d 263 [(0, (g 63 (Int.toNat x4))), (0, x3)] ((mk E c s (hh g)))).bind fun r1 => if r1.1.1 = 4 then none else
    Ev prog clsT X d mc125 46 [(2, 0), (0, x1), (0, x2), (0, x3), (0, x4), (0, s0)] (pushR r1.1 []) r1.2)
  else none)) :=
  (evk_at (r := (if cmpI .ne s0 0 = true then
  (Ev prog clsT X d mc125 47 [(2, 0), (0, x1), (0, x2), (0, x3), (0, x4), (0, s0)] [] (mk E c s (hh g)))
else
  ((fget 5674 ((mk E c s (hh g))) 0).bind fun v1 =>
    (fget 38 ((mk E c s (hh g))) v1).bind fun v2 =>
    (aget X 100 ((mk E c s (hh g))) v2 x4).bind fun v3 =>
    (Call prog clsT X d 263 [(0, v3), (0, x3)] ((mk E c s (hh g)))).bind fun r4 => if r4.1.1 = 4 then none else
    Ev prog clsT X d mc125 46 [(2, 0), (0, x1), (0, x2), (0, x3), (0, x4), (0, s0)] (pushR r4.1 []) r4.2))) X [0, 8, 15, 36, 46, 47] 11 rfl).trans (by simp (maxSteps := 10000000) only [↓A63, ↓F38_55, ↓F5674_0, bindI, Option.bind_some, if_true_, and_self, ite_true, true_and, true_or, or_true])
set_option maxRecDepth 100000 in
theorem r125_46 (d : Nat) (x1 x2 x3 x4 x5 s0 : Int) : Ev prog clsT X d mc125 46 [(2, 0), (0, x1), (0, x2), (0, x3), (0, x4), (0, x5)] [(0, s0)] (mk E c s (hh g)) =
  (Ev prog clsT X d mc125 47 [(2, 0), (0, x1), (0, x2), (0, x3), (0, x4), (0, s0)] [] (mk E c s (hh g))) :=
  evk_at X [0, 8, 15, 36, 46, 47] 3 rfl
set_option maxRecDepth 100000 in
theorem r125_47 (d : Nat) (x1 x2 x3 x4 x5 : Int) : Ev prog clsT X d mc125 47 [(2, 0), (0, x1), (0, x2), (0, x3), (0, x4), (0, x5)] [] (mk E c s (hh g)) =
  (if cmpI .le x5 0 = true then
  (if cmpI .lt x5 0 = true then
    (Ev prog clsT X d mc125 8 [(2, 0), (0, (ior32 x1 0)), (0, x2), (0, x3), (0, (w32 (x4 + 1))), (0, x5)] [] (mk E c s (hh g)))
  else
    (Ev prog clsT X d mc125 8 [(2, 0), (0, (ior32 x1 ((ishl32 1 x4)))), (0, x2), (0, x3), (0, (w32 (x4 + 1))), (0, x5)] [] (mk E c s (hh g))))
else
  (if inb x4 10 = true then
    (if inb x4 10 = true then
    (if cmpI .lt x5 0 = true then
    (Ev prog clsT X d mc125 8 [(2, 0), (0, (ior32 0 0)), (0, (g 62 (Int.toNat x4))), (0, (g 63 (Int.toNat x4))), (0, (w32 (x4 + 1))), (0, x5)] [] (mk E c s (hh g)))
  else
    (Ev prog clsT X d mc125 8 [(2, 0), (0, (ior32 0 ((ishl32 1 x4)))), (0, (g 62 (Int.toNat x4))), (0, (g 63 (Int.toNat x4))), (0, (w32 (x4 + 1))), (0, x5)] [] (mk E c s (hh g))))
  else none)
  else none)) :=
  (evk_at (r := (if cmpI .le x5 0 = true then
  (if cmpI .lt x5 0 = true then
    (Ev prog clsT X d mc125 8 [(2, 0), (0, (ior32 x1 0)), (0, x2), (0, x3), (0, (w32 (x4 + 1))), (0, x5)] [] (mk E c s (hh g)))
  else
    (Ev prog clsT X d mc125 8 [(2, 0), (0, (ior32 x1 ((ishl32 1 x4)))), (0, x2), (0, x3), (0, (w32 (x4 + 1))), (0, x5)] [] (mk E c s (hh g))))
else
  ((fget 5674 ((mk E c s (hh g))) 0).bind fun v1 =>
    (fget 34 ((mk E c s (hh g))) v1).bind fun v2 =>
    (aget X 100 ((mk E c s (hh g))) v2 x4).bind fun v3 =>
    (fget 5674 ((mk E c s (hh g))) 0).bind fun v4 =>
    (fget 38 ((mk E c s (hh g))) v4).bind fun v5 =>
    (aget X 100 ((mk E c s (hh g))) v5 x4).bind fun v6 =>
    if cmpI .lt x5 0 = true then
    (Ev prog clsT X d mc125 8 [(2, 0), (0, (ior32 0 0)), (0, v3), (0, v6), (0, (w32 (x4 + 1))), (0, x5)] [] (mk E c s (hh g)))
  else
    (Ev prog clsT X d mc125 8 [(2, 0), (0, (ior32 0 ((ishl32 1 x4)))), (0, v3), (0, v6), (0, (w32 (x4 + 1))), (0, x5)] [] (mk E c s (hh g)))))) X [0, 8, 15, 36, 46, 47] 29 rfl).trans (by simp (maxSteps := 10000000) only [↓A62, ↓A63, ↓F34_55, ↓F38_55, ↓F5674_0, bindI, Option.bind_some, if_true_, and_self, ite_true, true_and, true_or, or_true])
set_option maxRecDepth 100000 in
theorem r126_0 (d : Nat) (x1 : Int) : Ev prog clsT X d mc126 0 [(2, 0), (0, x1), (3, 0), (3, 0)] [] (mk E c s (hh g)) =
  ((Call prog clsT X d 84 [(2, 1), (0, x1)] ((mk E c s (hh g)))).bind fun r1 => if r1.1.1 = 4 then none else
  Ev prog clsT X d mc126 4 [(2, 0), (0, x1), (3, 0), (3, 0)] (pushR r1.1 []) r1.2) :=
  (evk_at (r := ((fget 5634 ((mk E c s (hh g))) 0).bind fun v1 =>
  if (2 : Nat) = 2 ∧ rcv ((mk E c s (hh g))) v1 11 = true then
  ((Call prog clsT X d 84 [(2, v1), (0, x1)] ((mk E c s (hh g)))).bind fun r2 => if r2.1.1 = 4 then none else
  Ev prog clsT X d mc126 4 [(2, 0), (0, x1), (3, 0), (3, 0)] (pushR r2.1 []) r2.2) else none)) X [0, 4, 8, 21, 23, 30, 39, 78] 5 rfl).trans (by simp (maxSteps := 10000000) only [R1_11, ↓F5634_0, bindI, Option.bind_some, if_true_, and_self, ite_true, true_and, true_or, or_true])
set_option maxRecDepth 100000 in
theorem rc126_ (d : Nat) (x1 : Int) : Call prog clsT X (d + 1) 126 [(2, 0), (0, x1)] (mk E c s (hh g)) =
  ((Call prog clsT X d 84 [(2, 1), (0, x1)] ((mk E c s (hh g)))).bind fun r1 => if r1.1.1 = 4 then none else
  Ev prog clsT X d mc126 4 [(2, 0), (0, x1), (3, 0), (3, 0)] (pushR r1.1 []) r1.2) :=
  (show Call prog clsT X (d + 1) 126 [(2, 0), (0, x1)] (mk E c s (hh g)) = Ev prog clsT X d mc126 0 [(2, 0), (0, x1), (3, 0), (3, 0)] [] (mk E c s (hh g)) from rfl).trans (r126_0 X E c s g d x1 )
set_option maxRecDepth 100000 in
theorem r126_4 (d : Nat) (x1 s0 : Int) : Ev prog clsT X d mc126 4 [(2, 0), (0, x1), (3, 0), (3, 0)] [(0, s0)] (mk E c s (hh g)) =
  (if cmpI .eq s0 0 = true then
  (some ((0, (-1)), ((mk E c s (hh g)))))
else
  ((Call prog clsT X d 127 [(2, 0), (0, x1)] ((mk E c s (hh g)))).bind fun r1 => if r1.1.1 = 4 then none else
    Ev prog clsT X d mc126 8 [(2, 0), (0, x1), (3, 0), (3, 0)] (pushR r1.1 []) r1.2)) :=
  (evk_at (r := (if cmpI .eq s0 0 = true then
  (some ((0, (-1)), (mk E c s (hh g))))
else
  (if (2 : Nat) = 2 ∧ rcv ((mk E c s (hh g))) 0 12 = true then
    ((Call prog clsT X d 127 [(2, 0), (0, x1)] ((mk E c s (hh g)))).bind fun r1 => if r1.1.1 = 4 then none else
    Ev prog clsT X d mc126 8 [(2, 0), (0, x1), (3, 0), (3, 0)] (pushR r1.1 []) r1.2) else none))) X [0, 4, 8, 21, 23, 30, 39, 78] 5 rfl).trans (by simp (maxSteps := 10000000) only [R0_12, bindI, Option.bind_some, if_true_, and_self, ite_true, true_and, true_or, or_true])
set_option maxRecDepth 100000 in
theorem r126_8 (d : Nat) (x1 s0 : Int) : Ev prog clsT X d mc126 8 [(2, 0), (0, x1), (3, 0), (3, 0)] [(0, s0)] (mk E c s (hh g)) =
  (if cmpI .ne s0 0 = true then
  (if inb x1 10 = true then
    (if cmpI .eq ((g 4 (Int.toNat x1))) 0 = true then
    ((Call prog clsT X d 123 [(2, 0)] ((mk E c s (hh g)))).bind fun r1 => if r1.1.1 = 4 then none else
      Ev prog clsT X d mc126 21 [(2, 0), (0, x1), (3, 0), (3, 0)] (pushR r1.1 []) r1.2)
  else
    (some ((0, 0), ((mk E c s (hh g))))))
  else none)
else
  (some ((0, (-1)), ((mk E c s (hh g)))))) :=
  (evk_at (r := (if cmpI .ne s0 0 = true then
  ((fget 5634 ((mk E c s (hh g))) 0).bind fun v1 =>
    (fget 5130 ((mk E c s (hh g))) v1).bind fun v2 =>
    (aget X 102 ((mk E c s (hh g))) v2 x1).bind fun v3 =>
    if cmpI .eq v3 0 = true then
    (if (2 : Nat) = 2 ∧ rcv ((mk E c s (hh g))) 0 12 = true then
      ((Call prog clsT X d 123 [(2, 0)] ((mk E c s (hh g)))).bind fun r4 => if r4.1.1 = 4 then none else
      Ev prog clsT X d mc126 21 [(2, 0), (0, x1), (3, 0), (3, 0)] (pushR r4.1 []) r4.2) else none)
  else
    (some ((0, 0), (mk E c s (hh g)))))
else
  (some ((0, (-1)), (mk E c s (hh g)))))) X [0, 4, 8, 21, 23, 30, 39, 78] 10 rfl).trans (by simp (maxSteps := 10000000) only [R0_12, ↓A4, ↓F5130_1, ↓F5634_0, bindI, Option.bind_some, if_true_, and_self, ite_true, true_and, true_or, or_true])
set_option maxRecDepth 100000 in
theorem r126_21 (d : Nat) (x1 : Int) : Ev prog clsT X d mc126 21 [(2, 0), (0, x1), (3, 0), (3, 0)] [] (mk E c s (hh g)) =
  (Ev prog clsT X d mc126 23 [(2, 0), (0, x1), (0, 0), (3, 0)] [] (mk E c s (hh g))) :=
  evk_at X [0, 4, 8, 21, 23, 30, 39, 78] 4 rfl
set_option maxRecDepth 100000 in
theorem r126_23 (d : Nat) (x1 x2 : Int) (w3 : MV) : Ev prog clsT X d mc126 23 [(2, 0), (0, x1), (0, x2), w3] [] (mk E c s (hh g)) =
  (if cmpI .ge x2 10 = true then
  ((Call prog clsT X d 12 [(2, 65), (0, x1), (2, 60)] ((mk E c s (hh g)))).bind fun r1 => if r1.1.1 = 4 then none else
    Ev prog clsT X d mc126 78 [(2, 0), (0, x1), (0, x2), (3, 0)] (pushR r1.1 []) r1.2)
else
  ((Call prog clsT X d 84 [(2, 1), (0, x2)] ((mk E c s (hh g)))).bind fun r2 => if r2.1.1 = 4 then none else
    Ev prog clsT X d mc126 30 [(2, 0), (0, x1), (0, x2), (3, 0)] (pushR r2.1 []) r2.2)) :=
  (evk_at (r := (if cmpI .ge x2 10 = true then
  ((fget 5678 ((mk E c s (hh g))) 0).bind fun v1 =>
    (fget 5674 ((mk E c s (hh g))) 0).bind fun v2 =>
    (fget 18 ((mk E c s (hh g))) v2).bind fun v3 =>
    if (2 : Nat) = 2 ∧ rcv ((mk E c s (hh g))) v1 2 = true then
    ((Call prog clsT X d 12 [(2, v1), (0, x1), (2, v3)] ((mk E c s (hh g)))).bind fun r4 => if r4.1.1 = 4 then none else
    Ev prog clsT X d mc126 78 [(2, 0), (0, x1), (0, x2), (3, 0)] (pushR r4.1 []) r4.2) else none)
else
  ((fget 5634 ((mk E c s (hh g))) 0).bind fun v5 =>
    if (2 : Nat) = 2 ∧ rcv ((mk E c s (hh g))) v5 11 = true then
    ((Call prog clsT X d 84 [(2, v5), (0, x2)] ((mk E c s (hh g)))).bind fun r6 => if r6.1.1 = 4 then none else
    Ev prog clsT X d mc126 30 [(2, 0), (0, x1), (0, x2), (3, 0)] (pushR r6.1 []) r6.2) else none))) X [0, 4, 8, 21, 23, 30, 39, 78] 11 rfl).trans (by simp (maxSteps := 10000000) only [R1_11, R65_2, ↓F18_55, ↓F5634_0, ↓F5674_0, ↓F5678_0, bindI, Option.bind_some, if_true_, and_self, ite_true, true_and, true_or, or_true])
set_option maxRecDepth 100000 in
theorem r126_30 (d : Nat) (x1 x2 s0 : Int) : Ev prog clsT X d mc126 30 [(2, 0), (0, x1), (0, x2), (3, 0)] [(0, s0)] (mk E c s (hh g)) =
  (if cmpI .eq s0 0 = true then
  (Ev prog clsT X d mc126 39 [(2, 0), (0, x1), (0, x2), (3, 0)] [] (mk E c s (hh g)))
else
  (if inb x2 10 = true then
    (if cmpI .ne ((g 4 (Int.toNat x2))) 0 = true then
    (Ev prog clsT X d mc126 39 [(2, 0), (0, x1), (0, x2), (3, 0)] [] (mk E c s (hh g)))
  else
    (if cmpI .eq 1 0 = true then
      (if inb x2 11 = true then
        (if cmpI .eq 1 0 = true then
        (if inb x2 11 = true then
          (Ev prog clsT X d mc126 23 [(2, 0), (0, x1), (0, (w32 (x2 + 1))), (0, 1)] [] (mk E c s (hh (up (up g 66 (Int.toNat x2) 0) 67 (Int.toNat x2) 0))))
        else none)
      else
        (if inb x2 10 = true then
          (if inb x2 11 = true then
          (Ev prog clsT X d mc126 23 [(2, 0), (0, x1), (0, (w32 (x2 + 1))), (0, 1)] [] (mk E c s (hh (up (up g 66 (Int.toNat x2) 0) 67 (Int.toNat x2) ((g 63 (Int.toNat x2)))))))
        else none)
        else none))
      else none)
    else
      (if inb x2 10 = true then
        (if inb x2 11 = true then
        (if cmpI .eq 1 0 = true then
        (if inb x2 11 = true then
          (Ev prog clsT X d mc126 23 [(2, 0), (0, x1), (0, (w32 (x2 + 1))), (0, 1)] [] (mk E c s (hh (up (up g 66 (Int.toNat x2) ((g 62 (Int.toNat x2)))) 67 (Int.toNat x2) 0))))
        else none)
      else
        (if inb x2 10 = true then
          (if inb x2 11 = true then
          (Ev prog clsT X d mc126 23 [(2, 0), (0, x1), (0, (w32 (x2 + 1))), (0, 1)] [] (mk E c s (hh (up (up g 66 (Int.toNat x2) ((g 62 (Int.toNat x2)))) 67 (Int.toNat x2) ((g 63 (Int.toNat x2)))))))
        else none)
        else none))
      else none)
      else none)))
  else none)) :=
  (evk_at (r := (if cmpI .eq s0 0 = true then
  (Ev prog clsT X d mc126 39 [(2, 0), (0, x1), (0, x2), (3, 0)] [] (mk E c s (hh g)))
else
  ((fget 5634 ((mk E c s (hh g))) 0).bind fun v1 =>
    (fget 5130 ((mk E c s (hh g))) v1).bind fun v2 =>
    (aget X 102 ((mk E c s (hh g))) v2 x2).bind fun v3 =>
    if cmpI .ne v3 0 = true then
    (Ev prog clsT X d mc126 39 [(2, 0), (0, x1), (0, x2), (3, 0)] [] (mk E c s (hh g)))
  else
    ((fget 5678 ((mk E c s (hh g))) 0).bind fun v4 =>
      (fget 514 ((mk E c s (hh g))) v4).bind fun v5 =>
      if cmpI .eq 1 0 = true then
      ((aput 100 ((mk E c s (hh g))) v5 x2 (0)).bind fun M6 =>
        (fget 5678 M6 0).bind fun v7 =>
        (fget 518 M6 v7).bind fun v8 =>
        if cmpI .eq 1 0 = true then
        ((aput 100 M6 v8 x2 (0)).bind fun M9 =>
          Ev prog clsT X d mc126 23 [(2, 0), (0, x1), (0, (w32 (x2 + 1))), (0, 1)] [] M9)
      else
        ((fget 5674 M6 0).bind fun v10 =>
          (fget 38 M6 v10).bind fun v11 =>
          (aget X 100 M6 v11 x2).bind fun v12 =>
          (aput 100 M6 v8 x2 (v12)).bind fun M13 =>
          Ev prog clsT X d mc126 23 [(2, 0), (0, x1), (0, (w32 (x2 + 1))), (0, 1)] [] M13))
    else
      ((fget 5674 ((mk E c s (hh g))) 0).bind fun v14 =>
        (fget 34 ((mk E c s (hh g))) v14).bind fun v15 =>
        (aget X 100 ((mk E c s (hh g))) v15 x2).bind fun v16 =>
        (aput 100 ((mk E c s (hh g))) v5 x2 (v16)).bind fun M17 =>
        (fget 5678 M17 0).bind fun v18 =>
        (fget 518 M17 v18).bind fun v19 =>
        if cmpI .eq 1 0 = true then
        ((aput 100 M17 v19 x2 (0)).bind fun M20 =>
          Ev prog clsT X d mc126 23 [(2, 0), (0, x1), (0, (w32 (x2 + 1))), (0, 1)] [] M20)
      else
        ((fget 5674 M17 0).bind fun v21 =>
          (fget 38 M17 v21).bind fun v22 =>
          (aget X 100 M17 v22 x2).bind fun v23 =>
          (aput 100 M17 v19 x2 (v23)).bind fun M24 =>
          Ev prog clsT X d mc126 23 [(2, 0), (0, x1), (0, (w32 (x2 + 1))), (0, 1)] [] M24)))))) X [0, 4, 8, 21, 23, 30, 39, 78] 40 rfl).trans (by simp (maxSteps := 10000000) only [uc_66_63, ↓A4, ↓A62, ↓A63, ↓F34_55, ↓F38_55, ↓F5130_1, ↓F514_65, ↓F518_65, ↓F5634_0, ↓F5674_0, ↓F5678_0, ↓S66, ↓S67, bindI, Option.bind_some, if_true_, and_self, ite_true, true_and, true_or, or_true])
set_option maxRecDepth 100000 in
theorem r126_39 (d : Nat) (x1 x2 : Int) : Ev prog clsT X d mc126 39 [(2, 0), (0, x1), (0, x2), (3, 0)] [] (mk E c s (hh g)) =
  (if cmpI .eq 0 0 = true then
  (if inb x2 11 = true then
    (if cmpI .eq 0 0 = true then
    (if inb x2 11 = true then
      (Ev prog clsT X d mc126 23 [(2, 0), (0, x1), (0, (w32 (x2 + 1))), (0, 0)] [] (mk E c s (hh (up (up g 66 (Int.toNat x2) 0) 67 (Int.toNat x2) 0))))
    else none)
  else
    (if inb x2 10 = true then
      (if inb x2 11 = true then
      (Ev prog clsT X d mc126 23 [(2, 0), (0, x1), (0, (w32 (x2 + 1))), (0, 0)] [] (mk E c s (hh (up (up g 66 (Int.toNat x2) 0) 67 (Int.toNat x2) ((g 63 (Int.toNat x2)))))))
    else none)
    else none))
  else none)
else
  (if inb x2 10 = true then
    (if inb x2 11 = true then
    (if cmpI .eq 0 0 = true then
    (if inb x2 11 = true then
      (Ev prog clsT X d mc126 23 [(2, 0), (0, x1), (0, (w32 (x2 + 1))), (0, 0)] [] (mk E c s (hh (up (up g 66 (Int.toNat x2) ((g 62 (Int.toNat x2)))) 67 (Int.toNat x2) 0))))
    else none)
  else
    (if inb x2 10 = true then
      (if inb x2 11 = true then
      (Ev prog clsT X d mc126 23 [(2, 0), (0, x1), (0, (w32 (x2 + 1))), (0, 0)] [] (mk E c s (hh (up (up g 66 (Int.toNat x2) ((g 62 (Int.toNat x2)))) 67 (Int.toNat x2) ((g 63 (Int.toNat x2)))))))
    else none)
    else none))
  else none)
  else none)) :=
  (evk_at (r := ((fget 5678 ((mk E c s (hh g))) 0).bind fun v1 =>
  (fget 514 ((mk E c s (hh g))) v1).bind fun v2 =>
  if cmpI .eq 0 0 = true then
  ((aput 100 ((mk E c s (hh g))) v2 x2 (0)).bind fun M3 =>
    (fget 5678 M3 0).bind fun v4 =>
    (fget 518 M3 v4).bind fun v5 =>
    if cmpI .eq 0 0 = true then
    ((aput 100 M3 v5 x2 (0)).bind fun M6 =>
      Ev prog clsT X d mc126 23 [(2, 0), (0, x1), (0, (w32 (x2 + 1))), (0, 0)] [] M6)
  else
    ((fget 5674 M3 0).bind fun v7 =>
      (fget 38 M3 v7).bind fun v8 =>
      (aget X 100 M3 v8 x2).bind fun v9 =>
      (aput 100 M3 v5 x2 (v9)).bind fun M10 =>
      Ev prog clsT X d mc126 23 [(2, 0), (0, x1), (0, (w32 (x2 + 1))), (0, 0)] [] M10))
else
  ((fget 5674 ((mk E c s (hh g))) 0).bind fun v11 =>
    (fget 34 ((mk E c s (hh g))) v11).bind fun v12 =>
    (aget X 100 ((mk E c s (hh g))) v12 x2).bind fun v13 =>
    (aput 100 ((mk E c s (hh g))) v2 x2 (v13)).bind fun M14 =>
    (fget 5678 M14 0).bind fun v15 =>
    (fget 518 M14 v15).bind fun v16 =>
    if cmpI .eq 0 0 = true then
    ((aput 100 M14 v16 x2 (0)).bind fun M17 =>
      Ev prog clsT X d mc126 23 [(2, 0), (0, x1), (0, (w32 (x2 + 1))), (0, 0)] [] M17)
  else
    ((fget 5674 M14 0).bind fun v18 =>
      (fget 38 M14 v18).bind fun v19 =>
      (aget X 100 M14 v19 x2).bind fun v20 =>
      (aput 100 M14 v16 x2 (v20)).bind fun M21 =>
      Ev prog clsT X d mc126 23 [(2, 0), (0, x1), (0, (w32 (x2 + 1))), (0, 0)] [] M21)))) X [0, 4, 8, 21, 23, 30, 39, 78] 32 rfl).trans (by simp (maxSteps := 10000000) only [uc_66_63, ↓A62, ↓A63, ↓F34_55, ↓F38_55, ↓F514_65, ↓F518_65, ↓F5674_0, ↓F5678_0, ↓S66, ↓S67, bindI, Option.bind_some, if_true_, and_self, ite_true, true_and, true_or, or_true])
set_option maxRecDepth 100000 in
theorem r126_78 (d : Nat) (x1 x2 s0 : Int) : Ev prog clsT X d mc126 78 [(2, 0), (0, x1), (0, x2), (3, 0)] [(0, s0)] (mk E c s (hh g)) =
  (if cmpI .eq s0 0 = true then
  (some ((0, 0), ((mk E c s (hh g)))))
else
  (some ((0, 1), ((mk E c s (hh g)))))) :=
  (evk_at (r := (if cmpI .eq s0 0 = true then
  (some ((0, 0), (mk E c s (hh g))))
else
  (some ((0, 1), (mk E c s (hh g)))))) X [0, 4, 8, 21, 23, 30, 39, 78] 5 rfl).trans (by simp (maxSteps := 10000000) only [bindI, Option.bind_some, if_true_, and_self, ite_true, true_and, true_or, or_true])
end
