/-! Part 51.r02: printed by wip/whole/emit6.py: equations with the fixed cells put in. -/
section
variable (X : MExt) (E : List (Nat × Nat)) (c s : Nat) (g : Nat → Nat → Int)
set_option maxRecDepth 100000 in
theorem r65_29 (d : Nat) (x0 x1 : Int) : Ev prog clsT X d mc65 29 [(2, x0), (0, x1)] [] (mk E c s (hh g)) =
  (some ((3, 0), ((mk E c s (hh g))))) :=
  (evk_at (r := (some ((3, 0), (mk E c s (hh g))))) X [0, 29] 2 rfl).trans (by simp (maxSteps := 10000000) only [bindI, Option.bind_some, if_true_, and_self, ite_true, true_and, true_or, or_true])
set_option maxRecDepth 100000 in
theorem r66_0 (d : Nat) (x0 x1 : Int) : Ev prog clsT X d mc66 0 [(2, x0), (0, x1)] [] (mk E c s (hh g)) =
  (if cmpI .lt x1 0 = true then
  (some ((0, 0), ((mk E c s (hh g)))))
else
  (if cmpI .ge x1 11 = true then
    (some ((0, 0), ((mk E c s (hh g)))))
  else
    ((fget 3602 ((mk E c s (hh g))) x0).bind fun v1 =>
      (aget X 100 ((mk E c s (hh g))) v1 x1).bind fun v2 =>
      if cmpI .eq v2 ((-1)) = true then
      (some ((0, 0), ((mk E c s (hh g)))))
    else
      (some ((0, 1), ((mk E c s (hh g)))))))) :=
  (evk_at (r := (if cmpI .lt x1 0 = true then
  (some ((0, 0), (mk E c s (hh g))))
else
  (if cmpI .ge x1 11 = true then
    (some ((0, 0), (mk E c s (hh g))))
  else
    ((fget 3602 ((mk E c s (hh g))) x0).bind fun v1 =>
      (aget X 100 ((mk E c s (hh g))) v1 x1).bind fun v2 =>
      if cmpI .eq v2 ((-1)) = true then
      (some ((0, 0), (mk E c s (hh g))))
    else
      (some ((0, 1), (mk E c s (hh g)))))))) X [0] 15 rfl).trans (by simp (maxSteps := 10000000) only [bindI, Option.bind_some, if_true_, and_self, ite_true, true_and, true_or, or_true])
set_option maxRecDepth 100000 in
theorem rc66_ (d : Nat) (x0 x1 : Int) : Call prog clsT X (d + 1) 66 [(2, x0), (0, x1)] (mk E c s (hh g)) =
  (if cmpI .lt x1 0 = true then
  (some ((0, 0), ((mk E c s (hh g)))))
else
  (if cmpI .ge x1 11 = true then
    (some ((0, 0), ((mk E c s (hh g)))))
  else
    ((fget 3602 ((mk E c s (hh g))) x0).bind fun v1 =>
      (aget X 100 ((mk E c s (hh g))) v1 x1).bind fun v2 =>
      if cmpI .eq v2 ((-1)) = true then
      (some ((0, 0), ((mk E c s (hh g)))))
    else
      (some ((0, 1), ((mk E c s (hh g)))))))) :=
  (show Call prog clsT X (d + 1) 66 [(2, x0), (0, x1)] (mk E c s (hh g)) = Ev prog clsT X d mc66 0 [(2, x0), (0, x1)] [] (mk E c s (hh g)) from rfl).trans (r66_0 X E c s g d x0 x1 )
set_option maxRecDepth 100000 in
theorem r67_0 (d : Nat) (x0 x1 : Int) : Ev prog clsT X d mc67 0 [(2, x0), (0, x1)] [] (mk E c s (hh g)) =
  (if cmpI .lt x1 0 = true then
  (some ((3, 0), ((mk E c s (hh g)))))
else
  (if cmpI .ge x1 11 = true then
    (some ((3, 0), ((mk E c s (hh g)))))
  else
    ((fget 3602 ((mk E c s (hh g))) x0).bind fun v1 =>
      (fget 3612 ((mk E c s (hh g))) x0).bind fun v2 =>
      (aput 100 ((mk E c s (hh g))) v1 x1 (v2)).bind fun M3 =>
      some ((3, 0), M3)))) :=
  (evk_at (r := (if cmpI .lt x1 0 = true then
  (some ((3, 0), (mk E c s (hh g))))
else
  (if cmpI .ge x1 11 = true then
    (some ((3, 0), (mk E c s (hh g))))
  else
    ((fget 3602 ((mk E c s (hh g))) x0).bind fun v1 =>
      (fget 3612 ((mk E c s (hh g))) x0).bind fun v2 =>
      (aput 100 ((mk E c s (hh g))) v1 x1 (v2)).bind fun M3 =>
      some ((3, 0), M3))))) X [0] 13 rfl).trans (by simp (maxSteps := 10000000) only [bindI, Option.bind_some, if_true_, and_self, ite_true, true_and, true_or, or_true])
set_option maxRecDepth 100000 in
theorem rc67_ (d : Nat) (x0 x1 : Int) : Call prog clsT X (d + 1) 67 [(2, x0), (0, x1)] (mk E c s (hh g)) =
  (if cmpI .lt x1 0 = true then
  (some ((3, 0), ((mk E c s (hh g)))))
else
  (if cmpI .ge x1 11 = true then
    (some ((3, 0), ((mk E c s (hh g)))))
  else
    ((fget 3602 ((mk E c s (hh g))) x0).bind fun v1 =>
      (fget 3612 ((mk E c s (hh g))) x0).bind fun v2 =>
      (aput 100 ((mk E c s (hh g))) v1 x1 (v2)).bind fun M3 =>
      some ((3, 0), M3)))) :=
  (show Call prog clsT X (d + 1) 67 [(2, x0), (0, x1)] (mk E c s (hh g)) = Ev prog clsT X d mc67 0 [(2, x0), (0, x1)] [] (mk E c s (hh g)) from rfl).trans (r67_0 X E c s g d x0 x1 )
set_option maxRecDepth 100000 in
theorem r68_0 (d : Nat) (x0 x1 : Int) : Ev prog clsT X d mc68 0 [(2, x0), (0, x1)] [] (mk E c s (hh g)) =
  ((fget 3612 ((mk E c s (hh g))) x0).bind fun v1 =>
  (fget 3610 ((mk E c s (hh g))) x0).bind fun v2 =>
  (alen X ((mk E c s (hh g))) v2).bind fun v3 =>
  if cmpI .ge v1 v3 = true then
  (some ((3, 0), ((mk E c s (hh g)))))
else
  ((fget 3610 ((mk E c s (hh g))) x0).bind fun v4 =>
    (fget 3612 ((mk E c s (hh g))) x0).bind fun v5 =>
    (aput 100 ((mk E c s (hh g))) v4 v5 (x1)).bind fun M6 =>
    (fget 3612 M6 x0).bind fun v7 =>
    (fput 3612 M6 x0 ((w32 (v7 + 1)))).bind fun M8 =>
    some ((3, 0), M8))) :=
  (evk_at (r := ((fget 3612 ((mk E c s (hh g))) x0).bind fun v1 =>
  (fget 3610 ((mk E c s (hh g))) x0).bind fun v2 =>
  (alen X ((mk E c s (hh g))) v2).bind fun v3 =>
  if cmpI .ge v1 v3 = true then
  (some ((3, 0), (mk E c s (hh g))))
else
  ((fget 3610 ((mk E c s (hh g))) x0).bind fun v4 =>
    (fget 3612 ((mk E c s (hh g))) x0).bind fun v5 =>
    (aput 100 ((mk E c s (hh g))) v4 v5 (x1)).bind fun M6 =>
    (fget 3612 M6 x0).bind fun v7 =>
    (fput 3612 M6 x0 ((w32 (v7 + 1)))).bind fun M8 =>
    some ((3, 0), M8)))) X [0] 20 rfl).trans (by simp (maxSteps := 10000000) only [bindI, Option.bind_some, if_true_, and_self, ite_true, true_and, true_or, or_true])
set_option maxRecDepth 100000 in
theorem rc68_ (d : Nat) (x0 x1 : Int) : Call prog clsT X (d + 1) 68 [(2, x0), (0, x1)] (mk E c s (hh g)) =
  ((fget 3612 ((mk E c s (hh g))) x0).bind fun v1 =>
  (fget 3610 ((mk E c s (hh g))) x0).bind fun v2 =>
  (alen X ((mk E c s (hh g))) v2).bind fun v3 =>
  if cmpI .ge v1 v3 = true then
  (some ((3, 0), ((mk E c s (hh g)))))
else
  ((fget 3610 ((mk E c s (hh g))) x0).bind fun v4 =>
    (fget 3612 ((mk E c s (hh g))) x0).bind fun v5 =>
    (aput 100 ((mk E c s (hh g))) v4 v5 (x1)).bind fun M6 =>
    (fget 3612 M6 x0).bind fun v7 =>
    (fput 3612 M6 x0 ((w32 (v7 + 1)))).bind fun M8 =>
    some ((3, 0), M8))) :=
  (show Call prog clsT X (d + 1) 68 [(2, x0), (0, x1)] (mk E c s (hh g)) = Ev prog clsT X d mc68 0 [(2, x0), (0, x1)] [] (mk E c s (hh g)) from rfl).trans (r68_0 X E c s g d x0 x1 )
set_option maxRecDepth 100000 in
theorem r69_0 (d : Nat) (x0 x1 : Int) : Ev prog clsT X d mc69 0 [(2, x0), (0, x1)] [] (mk E c s (hh g)) =
  (if cmpI .lt x1 0 = true then
  (some ((3, 0), ((mk E c s (hh g)))))
else
  (if cmpI .ge x1 11 = true then
    (some ((3, 0), ((mk E c s (hh g)))))
  else
    ((fget 3606 ((mk E c s (hh g))) x0).bind fun v1 =>
      (fget 3612 ((mk E c s (hh g))) x0).bind fun v2 =>
      (aput 100 ((mk E c s (hh g))) v1 x1 (v2)).bind fun M3 =>
      some ((3, 0), M3)))) :=
  (evk_at (r := (if cmpI .lt x1 0 = true then
  (some ((3, 0), (mk E c s (hh g))))
else
  (if cmpI .ge x1 11 = true then
    (some ((3, 0), (mk E c s (hh g))))
  else
    ((fget 3606 ((mk E c s (hh g))) x0).bind fun v1 =>
      (fget 3612 ((mk E c s (hh g))) x0).bind fun v2 =>
      (aput 100 ((mk E c s (hh g))) v1 x1 (v2)).bind fun M3 =>
      some ((3, 0), M3))))) X [0] 13 rfl).trans (by simp (maxSteps := 10000000) only [bindI, Option.bind_some, if_true_, and_self, ite_true, true_and, true_or, or_true])
set_option maxRecDepth 100000 in
theorem rc69_ (d : Nat) (x0 x1 : Int) : Call prog clsT X (d + 1) 69 [(2, x0), (0, x1)] (mk E c s (hh g)) =
  (if cmpI .lt x1 0 = true then
  (some ((3, 0), ((mk E c s (hh g)))))
else
  (if cmpI .ge x1 11 = true then
    (some ((3, 0), ((mk E c s (hh g)))))
  else
    ((fget 3606 ((mk E c s (hh g))) x0).bind fun v1 =>
      (fget 3612 ((mk E c s (hh g))) x0).bind fun v2 =>
      (aput 100 ((mk E c s (hh g))) v1 x1 (v2)).bind fun M3 =>
      some ((3, 0), M3)))) :=
  (show Call prog clsT X (d + 1) 69 [(2, x0), (0, x1)] (mk E c s (hh g)) = Ev prog clsT X d mc69 0 [(2, x0), (0, x1)] [] (mk E c s (hh g)) from rfl).trans (r69_0 X E c s g d x0 x1 )
set_option maxRecDepth 100000 in
theorem r71_0 (d : Nat) (x1 : Int) : Ev prog clsT X d mc71 0 [(2, 27), (0, x1)] [] (mk E c s (hh g)) =
  ((Call prog clsT X d 248 [(2, 28), (0, 0)] ((mk E c s (hh g)))).bind fun r1 => if r1.1.1 = 4 then none else
  Ev prog clsT X d mc71 4 [(2, 27), (0, x1)] (pushR r1.1 []) r1.2) :=
  (evk_at (r := ((fget 4098 ((mk E c s (hh g))) 27).bind fun v1 =>
  (Call prog clsT X d 248 [(2, v1), (0, 0)] ((mk E c s (hh g)))).bind fun r2 => if r2.1.1 = 4 then none else
  Ev prog clsT X d mc71 4 [(2, 27), (0, x1)] (pushR r2.1 []) r2.2)) X [0, 4] 5 rfl).trans (by simp (maxSteps := 10000000) only [↓F4098_27, bindI, Option.bind_some, if_true_, and_self, ite_true, true_and, true_or, or_true])
set_option maxRecDepth 100000 in
theorem rc71_ (d : Nat) (x1 : Int) : Call prog clsT X (d + 1) 71 [(2, 27), (0, x1)] (mk E c s (hh g)) =
  ((Call prog clsT X d 248 [(2, 28), (0, 0)] ((mk E c s (hh g)))).bind fun r1 => if r1.1.1 = 4 then none else
  Ev prog clsT X d mc71 4 [(2, 27), (0, x1)] (pushR r1.1 []) r1.2) :=
  (show Call prog clsT X (d + 1) 71 [(2, 27), (0, x1)] (mk E c s (hh g)) = Ev prog clsT X d mc71 0 [(2, 27), (0, x1)] [] (mk E c s (hh g)) from rfl).trans (r71_0 X E c s g d x1 )
set_option maxRecDepth 100000 in
theorem r71_4 (d : Nat) (x1 : Int) : Ev prog clsT X d mc71 4 [(2, 27), (0, x1)] [] (mk E c s (hh g)) =
  (some ((3, 0), ((mk E c s (hh (up (up (up (up (up (up g 28 0 x1) 28 1 1) 28 3 ((w32 (50 * x1)))) 28 5 ((w32 (9 * x1)))) 28 6 9) 28 10 1)))))) :=
  (evk_at (r := ((fget 4098 ((mk E c s (hh g))) 27).bind fun v1 =>
  (aput 100 ((mk E c s (hh g))) v1 0 (x1)).bind fun M2 =>
  (fget 4098 M2 27).bind fun v3 =>
  (aput 100 M2 v3 1 (1)).bind fun M4 =>
  (fget 4098 M4 27).bind fun v5 =>
  (aput 100 M4 v5 3 ((w32 (50 * x1)))).bind fun M6 =>
  (fget 4098 M6 27).bind fun v7 =>
  (aput 100 M6 v7 5 ((w32 (9 * x1)))).bind fun M8 =>
  (fget 4098 M8 27).bind fun v9 =>
  (aput 100 M8 v9 6 (9)).bind fun M10 =>
  (fget 4098 M10 27).bind fun v11 =>
  (aput 100 M10 v11 10 (1)).bind fun M12 =>
  some ((3, 0), M12))) X [0, 4] 36 rfl).trans (by simp (maxSteps := 10000000) only [inbL 0 11 rfl, inbL 1 11 rfl, inbL 10 11 rfl, inbL 3 11 rfl, inbL 5 11 rfl, inbL 6 11 rfl, tn0, tn1, tn10, tn3, tn5, tn6, ↓F4098_27, ↓S28, bindI, Option.bind_some, if_true_, and_self, ite_true, true_and, true_or, or_true])
set_option maxRecDepth 100000 in
theorem r72_0 (d : Nat) (x1 x2 : Int) : Ev prog clsT X d mc72 0 [(2, 27), (2, x1), (2, x2), (3, 0)] [] (mk E c s (hh g)) =
  (if (2 : Nat) = 2 ∧ x1 ≠ -5 then (if (!decide (x1 = -1)) = true then
  ((fget 3584 ((mk E c s (hh g))) x1).bind fun v1 =>
    if cmpI .le v1 0 = true then
    ((Call prog clsT X d 73 [(2, 27), (2, x1)] ((mk E c s (hh g)))).bind fun r2 => if r2.1.1 = 4 then none else
      Ev prog clsT X d mc72 24 [(2, 27), (2, x1), (2, x2), (3, 0)] (pushR r2.1 []) r2.2)
  else
    ((fget 3584 ((mk E c s (hh g))) x1).bind fun v3 =>
      if cmpI .ne ((g 28 0)) v3 = true then
      (some ((0, 100), ((mk E c s (hh g)))))
    else
      (if cmpI .le ((g 28 2)) 0 = true then
        ((Call prog clsT X d 73 [(2, 27), (2, x1)] ((mk E c s (hh g)))).bind fun r4 => if r4.1.1 = 4 then none else
          Ev prog clsT X d mc72 24 [(2, 27), (2, x1), (2, x2), (3, 0)] (pushR r4.1 []) r4.2)
      else
        (some ((0, 100), ((mk E c s (hh g))))))))
else
  (some ((0, (-1)), ((mk E c s (hh g)))))) else none) :=
  (evk_at (r := (if (2 : Nat) = 2 ∧ x1 ≠ -5 then (if (!decide (x1 = -1)) = true then
  ((fget 3584 ((mk E c s (hh g))) x1).bind fun v1 =>
    if cmpI .le v1 0 = true then
    (if (2 : Nat) = 2 ∧ rcv ((mk E c s (hh g))) 27 9 = true then
      ((Call prog clsT X d 73 [(2, 27), (2, x1)] ((mk E c s (hh g)))).bind fun r2 => if r2.1.1 = 4 then none else
      Ev prog clsT X d mc72 24 [(2, 27), (2, x1), (2, x2), (3, 0)] (pushR r2.1 []) r2.2) else none)
  else
    ((fget 4098 ((mk E c s (hh g))) 27).bind fun v3 =>
      (aget X 100 ((mk E c s (hh g))) v3 0).bind fun v4 =>
      (fget 3584 ((mk E c s (hh g))) x1).bind fun v5 =>
      if cmpI .ne v4 v5 = true then
      (some ((0, 100), (mk E c s (hh g))))
    else
      ((fget 4098 ((mk E c s (hh g))) 27).bind fun v6 =>
        (aget X 100 ((mk E c s (hh g))) v6 2).bind fun v7 =>
        if cmpI .le v7 0 = true then
        (if (2 : Nat) = 2 ∧ rcv ((mk E c s (hh g))) 27 9 = true then
          ((Call prog clsT X d 73 [(2, 27), (2, x1)] ((mk E c s (hh g)))).bind fun r8 => if r8.1.1 = 4 then none else
          Ev prog clsT X d mc72 24 [(2, 27), (2, x1), (2, x2), (3, 0)] (pushR r8.1 []) r8.2) else none)
      else
        (some ((0, 100), (mk E c s (hh g)))))))
else
  (some ((0, (-1)), (mk E c s (hh g))))) else none)) X [0, 24, 33] 21 rfl).trans (by simp (maxSteps := 10000000) only [R27_9, inbL 0 11 rfl, inbL 2 11 rfl, tn0, tn2, ↓A28, ↓F4098_27, bindI, Option.bind_some, if_true_, and_self, ite_true, true_and, true_or, or_true])
set_option maxRecDepth 100000 in
theorem rc72_ (d : Nat) (x1 x2 : Int) : Call prog clsT X (d + 1) 72 [(2, 27), (2, x1), (2, x2)] (mk E c s (hh g)) =
  (if (2 : Nat) = 2 ∧ x1 ≠ -5 then (if (!decide (x1 = -1)) = true then
  ((fget 3584 ((mk E c s (hh g))) x1).bind fun v1 =>
    if cmpI .le v1 0 = true then
    ((Call prog clsT X d 73 [(2, 27), (2, x1)] ((mk E c s (hh g)))).bind fun r2 => if r2.1.1 = 4 then none else
      Ev prog clsT X d mc72 24 [(2, 27), (2, x1), (2, x2), (3, 0)] (pushR r2.1 []) r2.2)
  else
    ((fget 3584 ((mk E c s (hh g))) x1).bind fun v3 =>
      if cmpI .ne ((g 28 0)) v3 = true then
      (some ((0, 100), ((mk E c s (hh g)))))
    else
      (if cmpI .le ((g 28 2)) 0 = true then
        ((Call prog clsT X d 73 [(2, 27), (2, x1)] ((mk E c s (hh g)))).bind fun r4 => if r4.1.1 = 4 then none else
          Ev prog clsT X d mc72 24 [(2, 27), (2, x1), (2, x2), (3, 0)] (pushR r4.1 []) r4.2)
      else
        (some ((0, 100), ((mk E c s (hh g))))))))
else
  (some ((0, (-1)), ((mk E c s (hh g)))))) else none) :=
  (show Call prog clsT X (d + 1) 72 [(2, 27), (2, x1), (2, x2)] (mk E c s (hh g)) = Ev prog clsT X d mc72 0 [(2, 27), (2, x1), (2, x2), (3, 0)] [] (mk E c s (hh g)) from rfl).trans (r72_0 X E c s g d x1 x2 )
set_option maxRecDepth 100000 in
theorem r72_24 (d : Nat) (x1 x2 s0 : Int) : Ev prog clsT X d mc72 24 [(2, 27), (2, x1), (2, x2), (3, 0)] [(0, s0)] (mk E c s (hh g)) =
  (if cmpI .eq s0 ((-1)) = true then
  ((Call prog clsT X d 73 [(2, 27), (2, x2)] ((mk E c s (hh g)))).bind fun r1 => if r1.1.1 = 4 then none else
    Ev prog clsT X d mc72 33 [(2, 27), (2, x1), (2, x2), (0, s0)] (pushR r1.1 []) r1.2)
else
  (Ev prog clsT X d mc72 33 [(2, 27), (2, x1), (2, x2), (0, s0)] [(0, s0)] (mk E c s (hh g)))) :=
  (evk_at (r := (if cmpI .eq s0 ((-1)) = true then
  (if (2 : Nat) = 2 ∧ rcv ((mk E c s (hh g))) 27 9 = true then
    ((Call prog clsT X d 73 [(2, 27), (2, x2)] ((mk E c s (hh g)))).bind fun r1 => if r1.1.1 = 4 then none else
    Ev prog clsT X d mc72 33 [(2, 27), (2, x1), (2, x2), (0, s0)] (pushR r1.1 []) r1.2) else none)
else
  (Ev prog clsT X d mc72 33 [(2, 27), (2, x1), (2, x2), (0, s0)] [(0, s0)] (mk E c s (hh g))))) X [0, 24, 33] 8 rfl).trans (by simp (maxSteps := 10000000) only [R27_9, bindI, Option.bind_some, if_true_, and_self, ite_true, true_and, true_or, or_true])
set_option maxRecDepth 100000 in
theorem r72_33 (d : Nat) (x1 x2 x3 s0 : Int) : Ev prog clsT X d mc72 33 [(2, 27), (2, x1), (2, x2), (0, x3)] [(0, s0)] (mk E c s (hh g)) =
  (some ((0, s0), ((mk E c s (hh g))))) :=
  (evk_at (r := (some ((0, s0), (mk E c s (hh g))))) X [0, 24, 33] 2 rfl).trans (by simp (maxSteps := 10000000) only [bindI, Option.bind_some, if_true_, and_self, ite_true, true_and, true_or, or_true])
set_option maxRecDepth 100000 in
theorem r73_0 (d : Nat) (x1 : Int) : Ev prog clsT X d mc73 0 [(2, 27), (2, x1), (3, 0), (3, 0)] [] (mk E c s (hh g)) =
  (if (2 : Nat) = 2 ∧ x1 ≠ -5 then (if (!decide (x1 = -1)) = true then
  ((fget 3592 ((mk E c s (hh g))) x1).bind fun v1 =>
    Ev prog clsT X d mc73 11 [(2, 27), (2, x1), (0, (if 6 < v1 then 6 else v1)), (0, 0)] [] (mk E c s (hh g)))
else
  (Ev prog clsT X d mc73 11 [(2, 27), (2, x1), (0, 0), (0, 0)] [] (mk E c s (hh g)))) else none) :=
  evk_at X [0, 11, 18] 11 rfl
set_option maxRecDepth 100000 in
theorem rc73_ (d : Nat) (x1 : Int) : Call prog clsT X (d + 1) 73 [(2, 27), (2, x1)] (mk E c s (hh g)) =
  (if (2 : Nat) = 2 ∧ x1 ≠ -5 then (if (!decide (x1 = -1)) = true then
  ((fget 3592 ((mk E c s (hh g))) x1).bind fun v1 =>
    Ev prog clsT X d mc73 11 [(2, 27), (2, x1), (0, (if 6 < v1 then 6 else v1)), (0, 0)] [] (mk E c s (hh g)))
else
  (Ev prog clsT X d mc73 11 [(2, 27), (2, x1), (0, 0), (0, 0)] [] (mk E c s (hh g)))) else none) :=
  (show Call prog clsT X (d + 1) 73 [(2, 27), (2, x1)] (mk E c s (hh g)) = Ev prog clsT X d mc73 0 [(2, 27), (2, x1), (3, 0), (3, 0)] [] (mk E c s (hh g)) from rfl).trans (r73_0 X E c s g d x1 )
set_option maxRecDepth 100000 in
theorem r73_11 (d : Nat) (x1 x2 x3 : Int) : Ev prog clsT X d mc73 11 [(2, 27), (2, x1), (0, x2), (0, x3)] [] (mk E c s (hh g)) =
  (if cmpI .ge x3 x2 = true then
  (some ((0, (-1)), ((mk E c s (hh g)))))
else
  ((Call prog clsT X d 74 [(2, 27), (2, x1), (0, x3)] ((mk E c s (hh g)))).bind fun r1 => if r1.1.1 = 4 then none else
    Ev prog clsT X d mc73 18 [(2, 27), (2, x1), (0, x2), (0, x3)] (pushR r1.1 []) r1.2)) :=
  (evk_at (r := (if cmpI .ge x3 x2 = true then
  (some ((0, (-1)), (mk E c s (hh g))))
else
  (if (2 : Nat) = 2 ∧ rcv ((mk E c s (hh g))) 27 9 = true then
    ((Call prog clsT X d 74 [(2, 27), (2, x1), (0, x3)] ((mk E c s (hh g)))).bind fun r1 => if r1.1.1 = 4 then none else
    Ev prog clsT X d mc73 18 [(2, 27), (2, x1), (0, x2), (0, x3)] (pushR r1.1 []) r1.2) else none))) X [0, 11, 18] 8 rfl).trans (by simp (maxSteps := 10000000) only [R27_9, bindI, Option.bind_some, if_true_, and_self, ite_true, true_and, true_or, or_true])
set_option maxRecDepth 100000 in
theorem r73_18 (d : Nat) (x1 x2 x3 s0 : Int) : Ev prog clsT X d mc73 18 [(2, 27), (2, x1), (0, x2), (0, x3)] [(0, s0)] (mk E c s (hh g)) =
  (if cmpI .eq s0 0 = true then
  (Ev prog clsT X d mc73 11 [(2, 27), (2, x1), (0, x2), (0, (w32 (x3 + 1)))] [] (mk E c s (hh g)))
else
  ((fget 3598 ((mk E c s (hh g))) x1).bind fun v1 =>
    (aget X 100 ((mk E c s (hh g))) v1 x3).bind fun v2 =>
    some ((0, v2), ((mk E c s (hh g)))))) :=
  (evk_at (r := (if cmpI .eq s0 0 = true then
  (Ev prog clsT X d mc73 11 [(2, 27), (2, x1), (0, x2), (0, (w32 (x3 + 1)))] [] (mk E c s (hh g)))
else
  ((fget 3598 ((mk E c s (hh g))) x1).bind fun v1 =>
    (aget X 100 ((mk E c s (hh g))) v1 x3).bind fun v2 =>
    some ((0, v2), (mk E c s (hh g)))))) X [0, 11, 18] 7 rfl).trans (by simp (maxSteps := 10000000) only [bindI, Option.bind_some, if_true_, and_self, ite_true, true_and, true_or, or_true])
set_option maxRecDepth 100000 in
theorem r74_0 (d : Nat) (x1 x2 : Int) : Ev prog clsT X d mc74 0 [(2, 27), (2, x1), (0, x2), (3, 0), (3, 0), (3, 0), (3, 0)] [] (mk E c s (hh g)) =
  (if (2 : Nat) = 2 ∧ x1 ≠ -5 then (if (decide (x1 = -1)) = true then
  (some ((0, 0), ((mk E c s (hh g)))))
else
  (if (2 : Nat) = 2 ∧ rcv ((mk E c s (hh g))) x1 8 = true then
    ((Call prog clsT X d 66 [(2, x1), (0, x2)] ((mk E c s (hh g)))).bind fun r1 => if r1.1.1 = 4 then none else
    Ev prog clsT X d mc74 5 [(2, 27), (2, x1), (0, x2), (3, 0), (3, 0), (3, 0), (3, 0)] (pushR r1.1 []) r1.2) else none)) else none) :=
  (evk_at (r := (if (2 : Nat) = 2 ∧ x1 ≠ -5 then (if (decide (x1 = -1)) = true then
  (some ((0, 0), (mk E c s (hh g))))
else
  (if (2 : Nat) = 2 ∧ rcv ((mk E c s (hh g))) x1 8 = true then
    ((Call prog clsT X d 66 [(2, x1), (0, x2)] ((mk E c s (hh g)))).bind fun r1 => if r1.1.1 = 4 then none else
    Ev prog clsT X d mc74 5 [(2, 27), (2, x1), (0, x2), (3, 0), (3, 0), (3, 0), (3, 0)] (pushR r1.1 []) r1.2) else none)) else none)) X [0, 5, 24, 99] 6 rfl).trans (by simp (maxSteps := 10000000) only [bindI, Option.bind_some, if_true_, and_self, ite_true, true_and, true_or, or_true])
set_option maxRecDepth 100000 in
theorem rc74_ (d : Nat) (x1 x2 : Int) : Call prog clsT X (d + 1) 74 [(2, 27), (2, x1), (0, x2)] (mk E c s (hh g)) =
  (if (2 : Nat) = 2 ∧ x1 ≠ -5 then (if (decide (x1 = -1)) = true then
  (some ((0, 0), ((mk E c s (hh g)))))
else
  (if (2 : Nat) = 2 ∧ rcv ((mk E c s (hh g))) x1 8 = true then
    ((Call prog clsT X d 66 [(2, x1), (0, x2)] ((mk E c s (hh g)))).bind fun r1 => if r1.1.1 = 4 then none else
    Ev prog clsT X d mc74 5 [(2, 27), (2, x1), (0, x2), (3, 0), (3, 0), (3, 0), (3, 0)] (pushR r1.1 []) r1.2) else none)) else none) :=
  (show Call prog clsT X (d + 1) 74 [(2, 27), (2, x1), (0, x2)] (mk E c s (hh g)) = Ev prog clsT X d mc74 0 [(2, 27), (2, x1), (0, x2), (3, 0), (3, 0), (3, 0), (3, 0)] [] (mk E c s (hh g)) from rfl).trans (r74_0 X E c s g d x1 x2 )
set_option maxRecDepth 100000 in
theorem r74_5 (d : Nat) (x1 x2 s0 : Int) : Ev prog clsT X d mc74 5 [(2, 27), (2, x1), (0, x2), (3, 0), (3, 0), (3, 0), (3, 0)] [(0, s0)] (mk E c s (hh g)) =
  (if cmpI .ne s0 0 = true then
  ((fget 3606 ((mk E c s (hh g))) x1).bind fun v1 =>
    (aget X 100 ((mk E c s (hh g))) v1 x2).bind fun v2 =>
    (fget 3610 ((mk E c s (hh g))) x1).bind fun v3 =>
    (alen X ((mk E c s (hh g))) v3).bind fun v4 =>
    (fget 3602 ((mk E c s (hh g))) x1).bind fun v5 =>
    (aget X 100 ((mk E c s (hh g))) v5 x2).bind fun v6 =>
    Ev prog clsT X d mc74 24 [(2, 27), (2, x1), (0, x2), (0, 0), (0, (if v4 < v2 then v4 else v2)), (0, v6), (3, 0)] [] (mk E c s (hh g)))
else
  (some ((0, 0), ((mk E c s (hh g)))))) :=
  (evk_at (r := (if cmpI .ne s0 0 = true then
  ((fget 3606 ((mk E c s (hh g))) x1).bind fun v1 =>
    (aget X 100 ((mk E c s (hh g))) v1 x2).bind fun v2 =>
    (fget 3610 ((mk E c s (hh g))) x1).bind fun v3 =>
    (alen X ((mk E c s (hh g))) v3).bind fun v4 =>
    (fget 3602 ((mk E c s (hh g))) x1).bind fun v5 =>
    (aget X 100 ((mk E c s (hh g))) v5 x2).bind fun v6 =>
    Ev prog clsT X d mc74 24 [(2, 27), (2, x1), (0, x2), (0, 0), (0, (if v4 < v2 then v4 else v2)), (0, v6), (3, 0)] [] (mk E c s (hh g)))
else
  (some ((0, 0), (mk E c s (hh g)))))) X [0, 5, 24, 99] 19 rfl).trans (by simp (maxSteps := 10000000) only [bindI, Option.bind_some, if_true_, and_self, ite_true, true_and, true_or, or_true])
set_option maxRecDepth 100000 in
theorem r74_24 (d : Nat) (x1 x3 x4 x5 : Int) (w2 w6 : MV) : Ev prog clsT X d mc74 24 [(2, 27), (2, x1), w2, (0, x3), (0, x4), (0, x5), w6] [] (mk E c s (hh g)) =
  (if cmpI .ge x5 x4 = true then
  (if cmpI .le x3 0 = true then
    (some ((0, 0), ((mk E c s (hh g)))))
  else
    (some ((0, (g 29 0)), ((mk E c s (hh g))))))
else
  ((fget 3610 ((mk E c s (hh g))) x1).bind fun v1 =>
    (aget X 100 ((mk E c s (hh g))) v1 x5).bind fun v2 =>
    if cmpI .ge v2 20000 = true then
    (if cmpI .ne v2 20000 = true then
      (if cmpI .lt x3 2 = true then
        (Ev prog clsT X d mc74 24 [(2, 27), (2, x1), (3, 0), (0, x3), (0, x4), (0, (w32 (x5 + 1))), (0, v2)] [] (mk E c s (hh g)))
      else
        (if inb ((w32 (((w32 (x3 + (-1)))) - 1))) 32 = true then
          (if inb ((w32 (x3 + (-1)))) 32 = true then
          ((Call prog clsT X d 75 [(0, v2), (0, (g 29 (Int.toNat ((w32 (((w32 (x3 + (-1)))) - 1)))))), (0, (g 29 (Int.toNat ((w32 (x3 + (-1)))))))] ((mk E c s (hh g)))).bind fun r3 => if r3.1.1 = 4 then none else
          Ev prog clsT X d mc74 99 [(2, 27), (2, x1), (3, 0), (0, (w32 (x3 + (-1)))), (0, x4), (0, x5), (0, v2)] (pushR r3.1 [(0, (w32 (((w32 (x3 + (-1)))) - 1))), (2, 29)]) r3.2)
        else none)
        else none))
    else
      (if cmpI .lt x3 1 = true then
        (Ev prog clsT X d mc74 24 [(2, 27), (2, x1), (3, 0), (0, x3), (0, x4), (0, (w32 (x5 + 1))), (0, v2)] [] (mk E c s (hh g)))
      else
        (if inb ((w32 (x3 - 1))) 32 = true then
          (if cmpI .ne ((g 29 (Int.toNat ((w32 (x3 - 1)))))) 0 = true then
          (if inb ((w32 (x3 - 1))) 32 = true then
            (Ev prog clsT X d mc74 24 [(2, 27), (2, x1), (3, 0), (0, x3), (0, x4), (0, (w32 (x5 + 1))), (0, v2)] [] (mk E c s (hh (up g 29 (Int.toNat ((w32 (x3 - 1)))) 0))))
          else none)
        else
          (if inb ((w32 (x3 - 1))) 32 = true then
            (Ev prog clsT X d mc74 24 [(2, 27), (2, x1), (3, 0), (0, x3), (0, x4), (0, (w32 (x5 + 1))), (0, v2)] [] (mk E c s (hh (up g 29 (Int.toNat ((w32 (x3 - 1)))) 1))))
          else none))
        else none)))
  else
    (if cmpI .ge x3 32 = true then
      (Ev prog clsT X d mc74 24 [(2, 27), (2, x1), (3, 0), (0, x3), (0, x4), (0, (w32 (x5 + 1))), (0, v2)] [] (mk E c s (hh g)))
    else
      (if cmpI .ge v2 10000 = true then
        (if inb ((w32 (v2 - 10000))) 11 = true then
          (if inb x3 32 = true then
          (Ev prog clsT X d mc74 24 [(2, 27), (2, x1), (3, 0), (0, (w32 (x3 + 1))), (0, x4), (0, (w32 (x5 + 1))), (0, v2)] [] (mk E c s (hh (up g 29 (Int.toNat x3) ((g 28 (Int.toNat ((w32 (v2 - 10000))))))))))
        else none)
        else none)
      else
        (if inb x3 32 = true then
          (Ev prog clsT X d mc74 24 [(2, 27), (2, x1), (3, 0), (0, (w32 (x3 + 1))), (0, x4), (0, (w32 (x5 + 1))), (0, v2)] [] (mk E c s (hh (up g 29 (Int.toNat x3) v2))))
        else none))))) :=
  (evk_at (r := (if cmpI .ge x5 x4 = true then
  (if cmpI .le x3 0 = true then
    (some ((0, 0), (mk E c s (hh g))))
  else
    ((fget 4102 ((mk E c s (hh g))) 27).bind fun v1 =>
      (aget X 100 ((mk E c s (hh g))) v1 0).bind fun v2 =>
      some ((0, v2), (mk E c s (hh g)))))
else
  ((fget 3610 ((mk E c s (hh g))) x1).bind fun v3 =>
    (aget X 100 ((mk E c s (hh g))) v3 x5).bind fun v4 =>
    if cmpI .ge v4 20000 = true then
    (if cmpI .ne v4 20000 = true then
      (if cmpI .lt x3 2 = true then
        (Ev prog clsT X d mc74 24 [(2, 27), (2, x1), (3, 0), (0, x3), (0, x4), (0, (w32 (x5 + 1))), (0, v4)] [] (mk E c s (hh g)))
      else
        ((fget 4102 ((mk E c s (hh g))) 27).bind fun v5 =>
          (fget 4102 ((mk E c s (hh g))) 27).bind fun v6 =>
          (aget X 100 ((mk E c s (hh g))) v6 ((w32 (((w32 (x3 + (-1)))) - 1)))).bind fun v7 =>
          (fget 4102 ((mk E c s (hh g))) 27).bind fun v8 =>
          (aget X 100 ((mk E c s (hh g))) v8 ((w32 (x3 + (-1))))).bind fun v9 =>
          (Call prog clsT X d 75 [(0, v4), (0, v7), (0, v9)] ((mk E c s (hh g)))).bind fun r10 => if r10.1.1 = 4 then none else
          Ev prog clsT X d mc74 99 [(2, 27), (2, x1), (3, 0), (0, (w32 (x3 + (-1)))), (0, x4), (0, x5), (0, v4)] (pushR r10.1 [(0, (w32 (((w32 (x3 + (-1)))) - 1))), (2, v5)]) r10.2))
    else
      (if cmpI .lt x3 1 = true then
        (Ev prog clsT X d mc74 24 [(2, 27), (2, x1), (3, 0), (0, x3), (0, x4), (0, (w32 (x5 + 1))), (0, v4)] [] (mk E c s (hh g)))
      else
        ((fget 4102 ((mk E c s (hh g))) 27).bind fun v11 =>
          (fget 4102 ((mk E c s (hh g))) 27).bind fun v12 =>
          (aget X 100 ((mk E c s (hh g))) v12 ((w32 (x3 - 1)))).bind fun v13 =>
          if cmpI .ne v13 0 = true then
          ((aput 100 ((mk E c s (hh g))) v11 ((w32 (x3 - 1))) (0)).bind fun M14 =>
            Ev prog clsT X d mc74 24 [(2, 27), (2, x1), (3, 0), (0, x3), (0, x4), (0, (w32 (x5 + 1))), (0, v4)] [] M14)
        else
          ((aput 100 ((mk E c s (hh g))) v11 ((w32 (x3 - 1))) (1)).bind fun M15 =>
            Ev prog clsT X d mc74 24 [(2, 27), (2, x1), (3, 0), (0, x3), (0, x4), (0, (w32 (x5 + 1))), (0, v4)] [] M15))))
  else
    (if cmpI .ge x3 32 = true then
      (Ev prog clsT X d mc74 24 [(2, 27), (2, x1), (3, 0), (0, x3), (0, x4), (0, (w32 (x5 + 1))), (0, v4)] [] (mk E c s (hh g)))
    else
      ((fget 4102 ((mk E c s (hh g))) 27).bind fun v16 =>
        if cmpI .ge v4 10000 = true then
        ((fget 4098 ((mk E c s (hh g))) 27).bind fun v17 =>
          (aget X 100 ((mk E c s (hh g))) v17 ((w32 (v4 - 10000)))).bind fun v18 =>
          (aput 100 ((mk E c s (hh g))) v16 x3 (v18)).bind fun M19 =>
          Ev prog clsT X d mc74 24 [(2, 27), (2, x1), (3, 0), (0, (w32 (x3 + 1))), (0, x4), (0, (w32 (x5 + 1))), (0, v4)] [] M19)
      else
        ((aput 100 ((mk E c s (hh g))) v16 x3 (v4)).bind fun M20 =>
          Ev prog clsT X d mc74 24 [(2, 27), (2, x1), (3, 0), (0, (w32 (x3 + 1))), (0, x4), (0, (w32 (x5 + 1))), (0, v4)] [] M20)))))) X [0, 5, 24, 99] 37 rfl).trans (by simp (maxSteps := 10000000) only [inbL 0 32 rfl, tn0, ↓A28, ↓A29, ↓F4098_27, ↓F4102_27, ↓S29, bindI, Option.bind_some, if_true_, and_self, ite_true, true_and, true_or, or_true])
set_option maxRecDepth 100000 in
theorem r74_99 (d : Nat) (x1 x3 x4 x5 x6 s1 s2 : Int) : Ev prog clsT X d mc74 99 [(2, 27), (2, x1), (3, 0), (0, x3), (0, x4), (0, x5), (0, x6)] [(0, s2), (0, s1), (2, 29)] (mk E c s (hh g)) =
  (if inb s1 32 = true then
  (Ev prog clsT X d mc74 24 [(2, 27), (2, x1), (3, 0), (0, x3), (0, x4), (0, (w32 (x5 + 1))), (0, x6)] [] (mk E c s (hh (up g 29 (Int.toNat s1) s2))))
else none) :=
  (evk_at (r := ((aput 100 ((mk E c s (hh g))) 29 s1 (s2)).bind fun M1 =>
  Ev prog clsT X d mc74 24 [(2, 27), (2, x1), (3, 0), (0, x3), (0, x4), (0, (w32 (x5 + 1))), (0, x6)] [] M1)) X [0, 5, 24, 99] 5 rfl).trans (by simp (maxSteps := 10000000) only [↓S29, bindI, Option.bind_some, if_true_, and_self, ite_true, true_and, true_or, or_true])
set_option maxRecDepth 100000 in
theorem r75_0 (d : Nat) (x0 x1 x2 : Int) : Ev prog clsT X d mc75 0 [(0, x0), (0, x1), (0, x2)] [] (mk E c s (hh g)) =
  (Ev prog clsT X d mc75 1 [(0, x0), (0, x1), (0, x2)] [(0, x0)] (mk E c s (hh g))) :=
  evk_at X [0, 1, 2, 10, 18, 25, 32, 36, 40] 3 rfl
set_option maxRecDepth 100000 in
theorem rc75_ (d : Nat) (x0 x1 x2 : Int) : Call prog clsT X (d + 1) 75 [(0, x0), (0, x1), (0, x2)] (mk E c s (hh g)) =
  (Ev prog clsT X d mc75 1 [(0, x0), (0, x1), (0, x2)] [(0, x0)] (mk E c s (hh g))) :=
  (show Call prog clsT X (d + 1) 75 [(0, x0), (0, x1), (0, x2)] (mk E c s (hh g)) = Ev prog clsT X d mc75 0 [(0, x0), (0, x1), (0, x2)] [] (mk E c s (hh g)) from rfl).trans (r75_0 X E c s g d x0 x1 x2 )
set_option maxRecDepth 100000 in
theorem r75_1 (d : Nat) (x0 x1 x2 s0 : Int) : Ev prog clsT X d mc75 1 [(0, x0), (0, x1), (0, x2)] [(0, s0)] (mk E c s (hh g)) =
  (if s0 < 20001 ∨ 20006 < s0 then Ev prog clsT X d mc75 40 [(0, x0), (0, x1), (0, x2)] [] ((mk E c s (hh g))) else ((#[2, 10, 18, 25, 32, 36] : Array Int)[(Int.toNat (s0 - 20001))]?).bind fun t1 => Ev prog clsT X d mc75 (Int.toNat t1) [(0, x0), (0, x1), (0, x2)] [] ((mk E c s (hh g)))) :=
  (evk_at (r := (if s0 < 20001 ∨ 20006 < s0 then Ev prog clsT X d mc75 40 [(0, x0), (0, x1), (0, x2)] [] (mk E c s (hh g)) else ((#[2, 10, 18, 25, 32, 36] : Array Int)[(Int.toNat (s0 - 20001))]?).bind fun t1 => Ev prog clsT X d mc75 (Int.toNat t1) [(0, x0), (0, x1), (0, x2)] [] (mk E c s (hh g)))) X [] 1 rfl).trans (by simp (maxSteps := 10000000) only [bindI, Option.bind_some, if_true_, and_self, ite_true, true_and, true_or, or_true])
set_option maxRecDepth 100000 in
theorem r75_2 (d : Nat) (x0 x1 x2 : Int) : Ev prog clsT X d mc75 2 [(0, x0), (0, x1), (0, x2)] [] (mk E c s (hh g)) =
  (if cmpI .eq x1 0 = true then
  (some ((0, 0), ((mk E c s (hh g)))))
else
  (if cmpI .eq x2 0 = true then
    (some ((0, 0), ((mk E c s (hh g)))))
  else
    (some ((0, 1), ((mk E c s (hh g))))))) :=
  (evk_at (r := (if cmpI .eq x1 0 = true then
  (some ((0, 0), (mk E c s (hh g))))
else
  (if cmpI .eq x2 0 = true then
    (some ((0, 0), (mk E c s (hh g))))
  else
    (some ((0, 1), (mk E c s (hh g))))))) X [0, 1, 2, 10, 18, 25, 32, 36, 40] 8 rfl).trans (by simp (maxSteps := 10000000) only [bindI, Option.bind_some, if_true_, and_self, ite_true, true_and, true_or, or_true])
set_option maxRecDepth 100000 in
theorem r75_10 (d : Nat) (x0 x1 x2 : Int) : Ev prog clsT X d mc75 10 [(0, x0), (0, x1), (0, x2)] [] (mk E c s (hh g)) =
  (if cmpI .ne x1 0 = true then
  (some ((0, 1), ((mk E c s (hh g)))))
else
  (if cmpI .eq x2 0 = true then
    (some ((0, 0), ((mk E c s (hh g)))))
  else
    (some ((0, 1), ((mk E c s (hh g))))))) :=
  (evk_at (r := (if cmpI .ne x1 0 = true then
  (some ((0, 1), (mk E c s (hh g))))
else
  (if cmpI .eq x2 0 = true then
    (some ((0, 0), (mk E c s (hh g))))
  else
    (some ((0, 1), (mk E c s (hh g))))))) X [0, 1, 2, 10, 18, 25, 32, 36, 40] 8 rfl).trans (by simp (maxSteps := 10000000) only [bindI, Option.bind_some, if_true_, and_self, ite_true, true_and, true_or, or_true])
set_option maxRecDepth 100000 in
theorem r75_18 (d : Nat) (x0 x1 x2 : Int) : Ev prog clsT X d mc75 18 [(0, x0), (0, x1), (0, x2)] [] (mk E c s (hh g)) =
  (if cmpI .ge x1 x2 = true then
  (some ((0, 0), ((mk E c s (hh g)))))
else
  (some ((0, 1), ((mk E c s (hh g)))))) :=
  (evk_at (r := (if cmpI .ge x1 x2 = true then
  (some ((0, 0), (mk E c s (hh g))))
else
  (some ((0, 1), (mk E c s (hh g)))))) X [0, 1, 2, 10, 18, 25, 32, 36, 40] 7 rfl).trans (by simp (maxSteps := 10000000) only [bindI, Option.bind_some, if_true_, and_self, ite_true, true_and, true_or, or_true])
set_option maxRecDepth 100000 in
theorem r75_25 (d : Nat) (x0 x1 x2 : Int) : Ev prog clsT X d mc75 25 [(0, x0), (0, x1), (0, x2)] [] (mk E c s (hh g)) =
  (if cmpI .ne x1 x2 = true then
  (some ((0, 0), ((mk E c s (hh g)))))
else
  (some ((0, 1), ((mk E c s (hh g)))))) :=
  (evk_at (r := (if cmpI .ne x1 x2 = true then
  (some ((0, 0), (mk E c s (hh g))))
else
  (some ((0, 1), (mk E c s (hh g)))))) X [0, 1, 2, 10, 18, 25, 32, 36, 40] 7 rfl).trans (by simp (maxSteps := 10000000) only [bindI, Option.bind_some, if_true_, and_self, ite_true, true_and, true_or, or_true])
set_option maxRecDepth 100000 in
theorem r75_32 (d : Nat) (x0 x1 x2 : Int) : Ev prog clsT X d mc75 32 [(0, x0), (0, x1), (0, x2)] [] (mk E c s (hh g)) =
  (some ((0, (w32 (x1 + x2))), ((mk E c s (hh g))))) :=
  (evk_at (r := (some ((0, (w32 (x1 + x2))), (mk E c s (hh g))))) X [0, 1, 2, 10, 18, 25, 32, 36, 40] 5 rfl).trans (by simp (maxSteps := 10000000) only [bindI, Option.bind_some, if_true_, and_self, ite_true, true_and, true_or, or_true])
set_option maxRecDepth 100000 in
theorem r75_36 (d : Nat) (x0 x1 x2 : Int) : Ev prog clsT X d mc75 36 [(0, x0), (0, x1), (0, x2)] [] (mk E c s (hh g)) =
  (some ((0, (w32 (x1 - x2))), ((mk E c s (hh g))))) :=
  (evk_at (r := (some ((0, (w32 (x1 - x2))), (mk E c s (hh g))))) X [0, 1, 2, 10, 18, 25, 32, 36, 40] 5 rfl).trans (by simp (maxSteps := 10000000) only [bindI, Option.bind_some, if_true_, and_self, ite_true, true_and, true_or, or_true])
set_option maxRecDepth 100000 in
theorem r75_40 (d : Nat) (x0 x1 x2 : Int) : Ev prog clsT X d mc75 40 [(0, x0), (0, x1), (0, x2)] [] (mk E c s (hh g)) =
  (some ((0, (w32 (x1 * x2))), ((mk E c s (hh g))))) :=
  (evk_at (r := (some ((0, (w32 (x1 * x2))), (mk E c s (hh g))))) X [0, 1, 2, 10, 18, 25, 32, 36, 40] 5 rfl).trans (by simp (maxSteps := 10000000) only [bindI, Option.bind_some, if_true_, and_self, ite_true, true_and, true_or, or_true])
set_option maxRecDepth 100000 in
theorem r76_0 (d : Nat) (x2 x4 : Int) : Ev prog clsT X d mc76 0 [(2, 27), (2, 1), (1, x2), (3, 0), (2, x4), (3, 0), (3, 0), (3, 0), (3, 0), (3, 0)] [] (mk E c s (hh g)) =
  (if (2 : Nat) = 2 ∧ x4 ≠ -5 then (if (!decide (x4 = -1)) = true then
  ((fget 3588 ((mk E c s (hh g))) x4).bind fun v1 =>
    (Call prog clsT X d 248 [(2, 28), (0, 0)] ((mk E c s (hh g)))).bind fun r2 => if r2.1.1 = 4 then none else
    Ev prog clsT X d mc76 17 [(2, 27), (2, 1), (1, x2), (3, 0), (2, x4), (0, v1), (0, 0), (0, 99), (0, 1), (3, 0)] (pushR r2.1 []) r2.2)
else
  ((Call prog clsT X d 248 [(2, 28), (0, 0)] ((mk E c s (hh g)))).bind fun r3 => if r3.1.1 = 4 then none else
    Ev prog clsT X d mc76 17 [(2, 27), (2, 1), (1, x2), (3, 0), (2, x4), (0, 10), (0, 0), (0, 99), (0, 1), (3, 0)] (pushR r3.1 []) r3.2)) else none) :=
  (evk_at (r := (if (2 : Nat) = 2 ∧ x4 ≠ -5 then (if (!decide (x4 = -1)) = true then
  ((fget 3588 ((mk E c s (hh g))) x4).bind fun v1 =>
    (fget 4098 ((mk E c s (hh g))) 27).bind fun v2 =>
    (Call prog clsT X d 248 [(2, v2), (0, 0)] ((mk E c s (hh g)))).bind fun r3 => if r3.1.1 = 4 then none else
    Ev prog clsT X d mc76 17 [(2, 27), (2, 1), (1, x2), (3, 0), (2, x4), (0, v1), (0, 0), (0, 99), (0, 1), (3, 0)] (pushR r3.1 []) r3.2)
else
  ((fget 4098 ((mk E c s (hh g))) 27).bind fun v4 =>
    (Call prog clsT X d 248 [(2, v4), (0, 0)] ((mk E c s (hh g)))).bind fun r5 => if r5.1.1 = 4 then none else
    Ev prog clsT X d mc76 17 [(2, 27), (2, 1), (1, x2), (3, 0), (2, x4), (0, 10), (0, 0), (0, 99), (0, 1), (3, 0)] (pushR r5.1 []) r5.2)) else none)) X [0, 17, 24, 53, 90, 128] 16 rfl).trans (by simp (maxSteps := 10000000) only [↓F4098_27, bindI, Option.bind_some, if_true_, and_self, ite_true, true_and, true_or, or_true])
set_option maxRecDepth 100000 in
theorem rc76_ (d : Nat) (x2 x4 : Int) : Call prog clsT X (d + 1) 76 [(2, 27), (2, 1), (1, x2), (2, x4)] (mk E c s (hh g)) =
  (if (2 : Nat) = 2 ∧ x4 ≠ -5 then (if (!decide (x4 = -1)) = true then
  ((fget 3588 ((mk E c s (hh g))) x4).bind fun v1 =>
    (Call prog clsT X d 248 [(2, 28), (0, 0)] ((mk E c s (hh g)))).bind fun r2 => if r2.1.1 = 4 then none else
    Ev prog clsT X d mc76 17 [(2, 27), (2, 1), (1, x2), (3, 0), (2, x4), (0, v1), (0, 0), (0, 99), (0, 1), (3, 0)] (pushR r2.1 []) r2.2)
else
  ((Call prog clsT X d 248 [(2, 28), (0, 0)] ((mk E c s (hh g)))).bind fun r3 => if r3.1.1 = 4 then none else
    Ev prog clsT X d mc76 17 [(2, 27), (2, 1), (1, x2), (3, 0), (2, x4), (0, 10), (0, 0), (0, 99), (0, 1), (3, 0)] (pushR r3.1 []) r3.2)) else none) :=
  (show Call prog clsT X (d + 1) 76 [(2, 27), (2, 1), (1, x2), (2, x4)] (mk E c s (hh g)) = Ev prog clsT X d mc76 0 [(2, 27), (2, 1), (1, x2), (3, 0), (2, x4), (3, 0), (3, 0), (3, 0), (3, 0), (3, 0)] [] (mk E c s (hh g)) from rfl).trans (r76_0 X E c s g d x2 x4 )
set_option maxRecDepth 100000 in
theorem r76_17 (d : Nat) (x2 x4 x5 x6 x7 x8 : Int) : Ev prog clsT X d mc76 17 [(2, 27), (2, 1), (1, x2), (3, 0), (2, x4), (0, x5), (0, x6), (0, x7), (0, x8), (3, 0)] [] (mk E c s (hh g)) =
  (Ev prog clsT X d mc76 24 [(2, 27), (2, 1), (1, x2), (3, 0), (2, x4), (0, x5), (0, x6), (0, x7), (0, x8), (0, 0)] [] (mk E c s (hh (up g 28 6 9)))) :=
  (evk_at (r := ((fget 4098 ((mk E c s (hh g))) 27).bind fun v1 =>
  (aput 100 ((mk E c s (hh g))) v1 6 (9)).bind fun M2 =>
  Ev prog clsT X d mc76 24 [(2, 27), (2, 1), (1, x2), (3, 0), (2, x4), (0, x5), (0, x6), (0, x7), (0, x8), (0, 0)] [] M2)) X [0, 17, 24, 53, 90, 128] 9 rfl).trans (by simp (maxSteps := 10000000) only [inbL 6 11 rfl, tn6, ↓F4098_27, ↓S28, bindI, Option.bind_some, if_true_, and_self, ite_true, true_and, true_or, or_true])
set_option maxRecDepth 100000 in
theorem r76_24 (d : Nat) (x2 x5 x6 x7 x8 x9 : Int) (w3 w4 : MV) : Ev prog clsT X d mc76 24 [(2, 27), (2, 1), (1, x2), w3, w4, (0, x5), (0, x6), (0, x7), (0, x8), (0, x9)] [] (mk E c s (hh g)) =
  (if cmpI .ge x9 40 = true then
  ((Call prog clsT X d 262 [(0, x6)] ((mk E c s (hh g)))).bind fun r1 => if r1.1.1 = 4 then none else
    Ev prog clsT X d mc76 128 [(2, 27), (2, 1), (1, x2), (3, 0), (3, 0), (0, x5), (0, x6), (0, x7), (0, x8), (0, x9)] (pushR r1.1 [(0, 1), (2, 28)]) r1.2)
else
  (if cmpI .ne ((lcmpI ((land64 ((lshr64 x2 x9)) 1)) 0)) 0 = true then
    (if inb x9 40 = true then
      (Ev prog clsT X d mc76 53 [(2, 27), (2, 1), (1, x2), (3, 0), (3, 0), (0, x5), (0, (ior32 x6 ((ishl32 1 ((g 6 (Int.toNat x9))))))), (0, x7), (0, x8), (0, x9)] [] (mk E c s (hh (up g 28 0 ((w32 (((g 28 0)) + 1)))))))
    else none)
  else
    (Ev prog clsT X d mc76 24 [(2, 27), (2, 1), (1, x2), (3, 0), (3, 0), (0, x5), (0, x6), (0, x7), (0, x8), (0, (w32 (x9 + 1)))] [] (mk E c s (hh g))))) :=
  (evk_at (r := (if cmpI .ge x9 40 = true then
  ((fget 4098 ((mk E c s (hh g))) 27).bind fun v1 =>
    (Call prog clsT X d 262 [(0, x6)] ((mk E c s (hh g)))).bind fun r2 => if r2.1.1 = 4 then none else
    Ev prog clsT X d mc76 128 [(2, 27), (2, 1), (1, x2), (3, 0), (3, 0), (0, x5), (0, x6), (0, x7), (0, x8), (0, x9)] (pushR r2.1 [(0, 1), (2, v1)]) r2.2)
else
  (if cmpI .ne ((lcmpI ((land64 ((lshr64 x2 x9)) 1)) 0)) 0 = true then
    ((fget 4098 ((mk E c s (hh g))) 27).bind fun v3 =>
      (aget X 100 ((mk E c s (hh g))) v3 0).bind fun v4 =>
      (aput 100 ((mk E c s (hh g))) v3 0 ((w32 (v4 + 1)))).bind fun M5 =>
      (fget 5138 M5 1).bind fun v6 =>
      (aget X 100 M5 v6 x9).bind fun v7 =>
      Ev prog clsT X d mc76 53 [(2, 27), (2, 1), (1, x2), (3, 0), (3, 0), (0, x5), (0, (ior32 x6 ((ishl32 1 v7)))), (0, x7), (0, x8), (0, x9)] [] M5)
  else
    (Ev prog clsT X d mc76 24 [(2, 27), (2, 1), (1, x2), (3, 0), (3, 0), (0, x5), (0, x6), (0, x7), (0, x8), (0, (w32 (x9 + 1)))] [] (mk E c s (hh g)))))) X [0, 17, 24, 53, 90, 128] 30 rfl).trans (by simp (maxSteps := 10000000) only [inbL 0 11 rfl, tn0, uc_28_6, ↓A28, ↓A6, ↓F4098_27, ↓F5138_1, ↓S28, bindI, Option.bind_some, if_true_, and_self, ite_true, true_and, true_or, or_true])
set_option maxRecDepth 100000 in
theorem r76_53 (d : Nat) (x2 x5 x6 x7 x8 x9 : Int) : Ev prog clsT X d mc76 53 [(2, 27), (2, 1), (1, x2), (3, 0), (3, 0), (0, x5), (0, x6), (0, x7), (0, x8), (0, x9)] [] (mk E c s (hh g)) =
  (if cmpI .eq x5 10 = true then
  (if inb x9 40 = true then
    (if inb x9 40 = true then
    (Ev prog clsT X d mc76 90 [(2, 27), (2, 1), (1, x2), (3, 0), (3, 0), (0, x5), (0, x6), (0, (if (g 7 (Int.toNat x9)) < x7 then (g 7 (Int.toNat x9)) else x7)), (0, x8), (0, x9)] [] (mk E c s (hh (up (up g 28 2 ((w32 (((g 28 2)) + 0)))) 28 3 ((w32 (((g 28 3)) + ((g 7 (Int.toNat x9))))))))))
  else none)
  else none)
else
  (if inb x9 40 = true then
    (if cmpI .eq ((g 6 (Int.toNat x9))) x5 = true then
    (if inb x9 40 = true then
      (if inb x9 40 = true then
      (Ev prog clsT X d mc76 90 [(2, 27), (2, 1), (1, x2), (3, 0), (3, 0), (0, x5), (0, x6), (0, (if (g 7 (Int.toNat x9)) < x7 then (g 7 (Int.toNat x9)) else x7)), (0, x8), (0, x9)] [] (mk E c s (hh (up (up g 28 2 ((w32 (((g 28 2)) + 0)))) 28 3 ((w32 (((g 28 3)) + ((g 7 (Int.toNat x9))))))))))
    else none)
    else none)
  else
    (if inb x9 40 = true then
      (if inb x9 40 = true then
      (Ev prog clsT X d mc76 90 [(2, 27), (2, 1), (1, x2), (3, 0), (3, 0), (0, x5), (0, x6), (0, (if (g 7 (Int.toNat x9)) < x7 then (g 7 (Int.toNat x9)) else x7)), (0, x8), (0, x9)] [] (mk E c s (hh (up (up g 28 2 ((w32 (((g 28 2)) + 1)))) 28 3 ((w32 (((g 28 3)) + ((g 7 (Int.toNat x9))))))))))
    else none)
    else none))
  else none)) :=
  (evk_at (r := ((fget 4098 ((mk E c s (hh g))) 27).bind fun v1 =>
  (aget X 100 ((mk E c s (hh g))) v1 2).bind fun v2 =>
  if cmpI .eq x5 10 = true then
  ((aput 100 ((mk E c s (hh g))) v1 2 ((w32 (v2 + 0)))).bind fun M3 =>
    (fget 4098 M3 27).bind fun v4 =>
    (aget X 100 M3 v4 3).bind fun v5 =>
    (fget 5142 M3 1).bind fun v6 =>
    (aget X 100 M3 v6 x9).bind fun v7 =>
    (aput 100 M3 v4 3 ((w32 (v5 + v7)))).bind fun M8 =>
    (fget 5142 M8 1).bind fun v9 =>
    (aget X 100 M8 v9 x9).bind fun v10 =>
    Ev prog clsT X d mc76 90 [(2, 27), (2, 1), (1, x2), (3, 0), (3, 0), (0, x5), (0, x6), (0, (if v10 < x7 then v10 else x7)), (0, x8), (0, x9)] [] M8)
else
  ((fget 5138 ((mk E c s (hh g))) 1).bind fun v11 =>
    (aget X 100 ((mk E c s (hh g))) v11 x9).bind fun v12 =>
    if cmpI .eq v12 x5 = true then
    ((aput 100 ((mk E c s (hh g))) v1 2 ((w32 (v2 + 0)))).bind fun M13 =>
      (fget 4098 M13 27).bind fun v14 =>
      (aget X 100 M13 v14 3).bind fun v15 =>
      (fget 5142 M13 1).bind fun v16 =>
      (aget X 100 M13 v16 x9).bind fun v17 =>
      (aput 100 M13 v14 3 ((w32 (v15 + v17)))).bind fun M18 =>
      (fget 5142 M18 1).bind fun v19 =>
      (aget X 100 M18 v19 x9).bind fun v20 =>
      Ev prog clsT X d mc76 90 [(2, 27), (2, 1), (1, x2), (3, 0), (3, 0), (0, x5), (0, x6), (0, (if v20 < x7 then v20 else x7)), (0, x8), (0, x9)] [] M18)
  else
    ((aput 100 ((mk E c s (hh g))) v1 2 ((w32 (v2 + 1)))).bind fun M21 =>
      (fget 4098 M21 27).bind fun v22 =>
      (aget X 100 M21 v22 3).bind fun v23 =>
      (fget 5142 M21 1).bind fun v24 =>
      (aget X 100 M21 v24 x9).bind fun v25 =>
      (aput 100 M21 v22 3 ((w32 (v23 + v25)))).bind fun M26 =>
      (fget 5142 M26 1).bind fun v27 =>
      (aget X 100 M26 v27 x9).bind fun v28 =>
      Ev prog clsT X d mc76 90 [(2, 27), (2, 1), (1, x2), (3, 0), (3, 0), (0, x5), (0, x6), (0, (if v28 < x7 then v28 else x7)), (0, x8), (0, x9)] [] M26)))) X [0, 17, 24, 53, 90, 128] 38 rfl).trans (by simp (maxSteps := 10000000) only [inbL 2 11 rfl, inbL 3 11 rfl, tn2, tn3, uc_28_7, uq_2_3, ↓A28, ↓A6, ↓A7, ↓F4098_27, ↓F5138_1, ↓F5142_1, ↓S28, bindI, Option.bind_some, if_true_, and_self, ite_true, true_and, true_or, or_true])
set_option maxRecDepth 100000 in
theorem r76_90 (d : Nat) (x2 x5 x6 x7 x8 x9 : Int) : Ev prog clsT X d mc76 90 [(2, 27), (2, 1), (1, x2), (3, 0), (3, 0), (0, x5), (0, x6), (0, x7), (0, x8), (0, x9)] [] (mk E c s (hh g)) =
  (if inb x9 40 = true then
  (if inb x9 40 = true then
  (if inb x9 40 = true then
  (Ev prog clsT X d mc76 24 [(2, 27), (2, 1), (1, x2), (3, 0), (3, 0), (0, x5), (0, x6), (0, x7), (0, (if x8 < (g 7 (Int.toNat x9)) then (g 7 (Int.toNat x9)) else x8)), (0, (w32 (x9 + 1)))] [] (mk E c s (hh (up (up g 28 5 ((w32 (((g 28 5)) + ((g 8 (Int.toNat x9))))))) 28 6 ((if (g 8 (Int.toNat x9)) < (g 28 6) then (g 8 (Int.toNat x9)) else (g 28 6)))))))
else none)
else none)
else none) :=
  (evk_at (r := ((fget 5142 ((mk E c s (hh g))) 1).bind fun v1 =>
  (aget X 100 ((mk E c s (hh g))) v1 x9).bind fun v2 =>
  (fget 4098 ((mk E c s (hh g))) 27).bind fun v3 =>
  (aget X 100 ((mk E c s (hh g))) v3 5).bind fun v4 =>
  (fget 5146 ((mk E c s (hh g))) 1).bind fun v5 =>
  (aget X 100 ((mk E c s (hh g))) v5 x9).bind fun v6 =>
  (aput 100 ((mk E c s (hh g))) v3 5 ((w32 (v4 + v6)))).bind fun M7 =>
  (fget 4098 M7 27).bind fun v8 =>
  (fget 4098 M7 27).bind fun v9 =>
  (aget X 100 M7 v9 6).bind fun v10 =>
  (fget 5146 M7 1).bind fun v11 =>
  (aget X 100 M7 v11 x9).bind fun v12 =>
  (aput 100 M7 v8 6 ((if v12 < v10 then v12 else v10))).bind fun M13 =>
  Ev prog clsT X d mc76 24 [(2, 27), (2, 1), (1, x2), (3, 0), (3, 0), (0, x5), (0, x6), (0, x7), (0, (if x8 < v2 then v2 else x8)), (0, (w32 (x9 + 1)))] [] M13)) X [0, 17, 24, 53, 90, 128] 35 rfl).trans (by simp (maxSteps := 10000000) only [inbL 5 11 rfl, inbL 6 11 rfl, tn5, tn6, uc_28_8, uq_5_6, ↓A28, ↓A7, ↓A8, ↓F4098_27, ↓F5142_1, ↓F5146_1, ↓S28, bindI, Option.bind_some, if_true_, and_self, ite_true, true_and, true_or, or_true])
set_option maxRecDepth 100000 in
theorem r76_128 (d : Nat) (x2 x5 x6 x7 x8 x9 s1 s2 : Int) : Ev prog clsT X d mc76 128 [(2, 27), (2, 1), (1, x2), (3, 0), (3, 0), (0, x5), (0, x6), (0, x7), (0, x8), (0, x9)] [(0, s2), (0, s1), (2, 28)] (mk E c s (hh g)) =
  (if inb s1 11 = true then
  (some ((3, 0), ((mk E c s (hh (up (up g 28 (Int.toNat s1) s2) 28 4 ((w32 (x8 - x7)))))))))
else none) :=
  (evk_at (r := ((aput 100 ((mk E c s (hh g))) 28 s1 (s2)).bind fun M1 =>
  (fget 4098 M1 27).bind fun v2 =>
  (aput 100 M1 v2 4 ((w32 (x8 - x7)))).bind fun M3 =>
  some ((3, 0), M3))) X [0, 17, 24, 53, 90, 128] 10 rfl).trans (by simp (maxSteps := 10000000) only [inbL 4 11 rfl, tn4, ↓F4098_27, ↓S28, bindI, Option.bind_some, if_true_, and_self, ite_true, true_and, true_or, or_true])
set_option maxRecDepth 100000 in
theorem r77_0 (d : Nat) (x2 x3 : Int) : Ev prog clsT X d mc77 0 [(2, 27), (2, 1), (0, x2), (0, x3)] [] (mk E c s (hh g)) =
  (if inb x2 10 = true then
  (if inb x2 10 = true then
  (if inb x2 10 = true then
  (if cmpI .eq ((g 4 (Int.toNat x2))) 0 = true then
  (some ((3, 0), ((mk E c s (hh (up (up (up (up g 28 7 ((g 3 (Int.toNat x2)))) 28 8 ((g 2 (Int.toNat x2)))) 28 9 0) 28 10 x3))))))
else
  (some ((3, 0), ((mk E c s (hh (up (up (up (up g 28 7 ((g 3 (Int.toNat x2)))) 28 8 ((g 2 (Int.toNat x2)))) 28 9 1) 28 10 x3)))))))
else none)
else none)
else none) :=
  (evk_at (r := ((fget 4098 ((mk E c s (hh g))) 27).bind fun v1 =>
  (fget 5126 ((mk E c s (hh g))) 1).bind fun v2 =>
  (aget X 100 ((mk E c s (hh g))) v2 x2).bind fun v3 =>
  (aput 100 ((mk E c s (hh g))) v1 7 (v3)).bind fun M4 =>
  (fget 4098 M4 27).bind fun v5 =>
  (fget 5122 M4 1).bind fun v6 =>
  (aget X 100 M4 v6 x2).bind fun v7 =>
  (aput 100 M4 v5 8 (v7)).bind fun M8 =>
  (fget 4098 M8 27).bind fun v9 =>
  (fget 5130 M8 1).bind fun v10 =>
  (aget X 102 M8 v10 x2).bind fun v11 =>
  if cmpI .eq v11 0 = true then
  ((aput 100 M8 v9 9 (0)).bind fun M12 =>
    (fget 4098 M12 27).bind fun v13 =>
    (aput 100 M12 v13 10 (x3)).bind fun M14 =>
    some ((3, 0), M14))
else
  ((aput 100 M8 v9 9 (1)).bind fun M15 =>
    (fget 4098 M15 27).bind fun v16 =>
    (aput 100 M15 v16 10 (x3)).bind fun M17 =>
    some ((3, 0), M17)))) X [0] 34 rfl).trans (by simp (maxSteps := 10000000) only [inbL 10 11 rfl, inbL 7 11 rfl, inbL 8 11 rfl, inbL 9 11 rfl, tn10, tn7, tn8, tn9, uc_28_2, uc_28_4, ↓A2, ↓A3, ↓A4, ↓F4098_27, ↓F5122_1, ↓F5126_1, ↓F5130_1, ↓S28, bindI, Option.bind_some, if_true_, and_self, ite_true, true_and, true_or, or_true])
set_option maxRecDepth 100000 in
theorem rc77_ (d : Nat) (x2 x3 : Int) : Call prog clsT X (d + 1) 77 [(2, 27), (2, 1), (0, x2), (0, x3)] (mk E c s (hh g)) =
  (if inb x2 10 = true then
  (if inb x2 10 = true then
  (if inb x2 10 = true then
  (if cmpI .eq ((g 4 (Int.toNat x2))) 0 = true then
  (some ((3, 0), ((mk E c s (hh (up (up (up (up g 28 7 ((g 3 (Int.toNat x2)))) 28 8 ((g 2 (Int.toNat x2)))) 28 9 0) 28 10 x3))))))
else
  (some ((3, 0), ((mk E c s (hh (up (up (up (up g 28 7 ((g 3 (Int.toNat x2)))) 28 8 ((g 2 (Int.toNat x2)))) 28 9 1) 28 10 x3)))))))
else none)
else none)
else none) :=
  (show Call prog clsT X (d + 1) 77 [(2, 27), (2, 1), (0, x2), (0, x3)] (mk E c s (hh g)) = Ev prog clsT X d mc77 0 [(2, 27), (2, 1), (0, x2), (0, x3)] [] (mk E c s (hh g)) from rfl).trans (r77_0 X E c s g d x2 x3 )
set_option maxRecDepth 100000 in
theorem r78_0 (d : Nat) (x2 x3 x4 : Int) : Ev prog clsT X d mc78 0 [(2, 27), (2, 40), (0, x2), (0, x3), (2, x4), (3, 0)] [] (mk E c s (hh g)) =
  ((Call prog clsT X d 30 [(2, 40), (0, x2)] ((mk E c s (hh g)))).bind fun r1 => if r1.1.1 = 4 then none else
  Ev prog clsT X d mc78 3 [(2, 27), (2, 40), (0, x2), (0, x3), (2, x4), (3, 0)] (pushR r1.1 []) r1.2) :=
  (evk_at (r := (if (2 : Nat) = 2 ∧ rcv ((mk E c s (hh g))) 40 4 = true then
  ((Call prog clsT X d 30 [(2, 40), (0, x2)] ((mk E c s (hh g)))).bind fun r1 => if r1.1.1 = 4 then none else
  Ev prog clsT X d mc78 3 [(2, 27), (2, 40), (0, x2), (0, x3), (2, x4), (3, 0)] (pushR r1.1 []) r1.2) else none)) X [0, 3, 27, 34, 43] 4 rfl).trans (by simp (maxSteps := 10000000) only [R40_4, bindI, Option.bind_some, if_true_, and_self, ite_true, true_and, true_or, or_true])
set_option maxRecDepth 100000 in
theorem rc78_ (d : Nat) (x2 x3 x4 : Int) : Call prog clsT X (d + 1) 78 [(2, 27), (2, 40), (0, x2), (0, x3), (2, x4)] (mk E c s (hh g)) =
  ((Call prog clsT X d 30 [(2, 40), (0, x2)] ((mk E c s (hh g)))).bind fun r1 => if r1.1.1 = 4 then none else
  Ev prog clsT X d mc78 3 [(2, 27), (2, 40), (0, x2), (0, x3), (2, x4), (3, 0)] (pushR r1.1 []) r1.2) :=
  (show Call prog clsT X (d + 1) 78 [(2, 27), (2, 40), (0, x2), (0, x3), (2, x4)] (mk E c s (hh g)) = Ev prog clsT X d mc78 0 [(2, 27), (2, 40), (0, x2), (0, x3), (2, x4), (3, 0)] [] (mk E c s (hh g)) from rfl).trans (r78_0 X E c s g d x2 x3 x4 )
set_option maxRecDepth 100000 in
theorem r78_3 (d : Nat) (x2 x3 x4 s0 : Int) : Ev prog clsT X d mc78 3 [(2, 27), (2, 40), (0, x2), (0, x3), (2, x4), (3, 0)] [(0, s0)] (mk E c s (hh g)) =
  (if inb ((w32 (x2 * 5))) 50 = true then
  ((Call prog clsT X d 27 [(2, 40), (0, x2)] ((mk E c s (hh (up (up g 28 0 x3) 28 1 ((if (g 44 (Int.toNat ((w32 (x2 * 5))))) < 0 then 0 else (g 44 (Int.toNat ((w32 (x2 * 5)))))))))))).bind fun r1 => if r1.1.1 = 4 then none else
  Ev prog clsT X d mc78 27 [(2, 27), (2, 40), (0, x2), (0, x3), (2, x4), (0, s0)] (pushR r1.1 [(0, 2), (2, 28)]) r1.2)
else none) :=
  (evk_at (r := ((fget 4098 ((mk E c s (hh g))) 27).bind fun v1 =>
  (aput 100 ((mk E c s (hh g))) v1 0 (x3)).bind fun M2 =>
  (fget 4098 M2 27).bind fun v3 =>
  (fget 1550 M2 40).bind fun v4 =>
  (aget X 100 M2 v4 ((w32 (x2 * 5)))).bind fun v5 =>
  (aput 100 M2 v3 1 ((if v5 < 0 then 0 else v5))).bind fun M6 =>
  (fget 4098 M6 27).bind fun v7 =>
  if (2 : Nat) = 2 ∧ rcv M6 40 4 = true then
  ((Call prog clsT X d 27 [(2, 40), (0, x2)] M6).bind fun r8 => if r8.1.1 = 4 then none else
  Ev prog clsT X d mc78 27 [(2, 27), (2, 40), (0, x2), (0, x3), (2, x4), (0, s0)] (pushR r8.1 [(0, 2), (2, v7)]) r8.2) else none)) X [0, 3, 27, 34, 43] 25 rfl).trans (by simp (maxSteps := 10000000) only [R40_4, inbL 0 11 rfl, inbL 1 11 rfl, tn0, tn1, uc_28_44, ↓A44, ↓F1550_40, ↓F4098_27, ↓S28, bindI, Option.bind_some, if_true_, and_self, ite_true, true_and, true_or, or_true])
set_option maxRecDepth 100000 in
theorem r78_27 (d : Nat) (x2 x3 x4 x5 s1 s2 : Int) : Ev prog clsT X d mc78 27 [(2, 27), (2, 40), (0, x2), (0, x3), (2, x4), (0, x5)] [(0, s2), (0, s1), (2, 28)] (mk E c s (hh g)) =
  (if inb s1 11 = true then
  ((Call prog clsT X d 31 [(2, 40), (0, x2)] ((mk E c s (hh (up g 28 (Int.toNat s1) s2))))).bind fun r1 => if r1.1.1 = 4 then none else
  Ev prog clsT X d mc78 34 [(2, 27), (2, 40), (0, x2), (0, x3), (2, x4), (0, x5)] (pushR r1.1 [(0, 3), (2, 28)]) r1.2)
else none) :=
  (evk_at (r := ((aput 100 ((mk E c s (hh g))) 28 s1 (s2)).bind fun M1 =>
  (fget 4098 M1 27).bind fun v2 =>
  if (2 : Nat) = 2 ∧ rcv M1 40 4 = true then
  ((Call prog clsT X d 31 [(2, 40), (0, x2)] M1).bind fun r3 => if r3.1.1 = 4 then none else
  Ev prog clsT X d mc78 34 [(2, 27), (2, 40), (0, x2), (0, x3), (2, x4), (0, x5)] (pushR r3.1 [(0, 3), (2, v2)]) r3.2) else none)) X [0, 3, 27, 34, 43] 8 rfl).trans (by simp (maxSteps := 10000000) only [R40_4, ↓F4098_27, ↓S28, bindI, Option.bind_some, if_true_, and_self, ite_true, true_and, true_or, or_true])
set_option maxRecDepth 100000 in
theorem r78_34 (d : Nat) (x2 x3 x4 x5 s1 s2 : Int) : Ev prog clsT X d mc78 34 [(2, 27), (2, 40), (0, x2), (0, x3), (2, x4), (0, x5)] [(0, s2), (0, s1), (2, 28)] (mk E c s (hh g)) =
  (if inb s1 11 = true then
  (if cmpI .le x5 0 = true then
  ((fget 3588 ((mk E c s (hh (up (up (up g 28 (Int.toNat s1) s2) 28 4 0) 28 5 x5)))) x4).bind fun v1 =>
    (fget 3584 ((mk E c s (hh (up (up (up (up g 28 (Int.toNat s1) s2) 28 4 0) 28 5 x5) 28 6 v1)))) x4).bind fun v2 =>
    some ((3, 0), ((mk E c s (hh (up (up (up (up (up g 28 (Int.toNat s1) s2) 28 4 0) 28 5 x5) 28 6 v1) 28 7 v2))))))
else
  ((Call prog clsT X d 32 [(2, 40), (0, x2)] ((mk E c s (hh (up g 28 (Int.toNat s1) s2))))).bind fun r3 => if r3.1.1 = 4 then none else
    Ev prog clsT X d mc78 43 [(2, 27), (2, 40), (0, x2), (0, x3), (2, x4), (0, x5)] (pushR r3.1 [(0, 4), (2, 28)]) r3.2))
else none) :=
  (evk_at (r := ((aput 100 ((mk E c s (hh g))) 28 s1 (s2)).bind fun M1 =>
  (fget 4098 M1 27).bind fun v2 =>
  if cmpI .le x5 0 = true then
  ((aput 100 M1 v2 4 (0)).bind fun M3 =>
    (fget 4098 M3 27).bind fun v4 =>
    (aput 100 M3 v4 5 (x5)).bind fun M5 =>
    (fget 4098 M5 27).bind fun v6 =>
    (fget 3588 M5 x4).bind fun v7 =>
    (aput 100 M5 v6 6 (v7)).bind fun M8 =>
    (fget 4098 M8 27).bind fun v9 =>
    (fget 3584 M8 x4).bind fun v10 =>
    (aput 100 M8 v9 7 (v10)).bind fun M11 =>
    some ((3, 0), M11))
else
  (if (2 : Nat) = 2 ∧ rcv M1 40 4 = true then
    ((Call prog clsT X d 32 [(2, 40), (0, x2)] M1).bind fun r12 => if r12.1.1 = 4 then none else
    Ev prog clsT X d mc78 43 [(2, 27), (2, 40), (0, x2), (0, x3), (2, x4), (0, x5)] (pushR r12.1 [(0, 4), (2, v2)]) r12.2) else none))) X [0, 3, 27, 34, 43] 27 rfl).trans (by simp (maxSteps := 10000000) only [R40_4, inbL 4 11 rfl, inbL 5 11 rfl, inbL 6 11 rfl, inbL 7 11 rfl, tn4, tn5, tn6, tn7, ↓F4098_27, ↓S28, bindI, Option.bind_some, if_true_, and_self, ite_true, true_and, true_or, or_true])
set_option maxRecDepth 100000 in
theorem r78_43 (d : Nat) (x2 x3 x4 x5 s1 s2 : Int) : Ev prog clsT X d mc78 43 [(2, 27), (2, 40), (0, x2), (0, x3), (2, x4), (0, x5)] [(0, s2), (0, s1), (2, 28)] (mk E c s (hh g)) =
  (if x5 = 0 then none else
  if inb s1 11 = true then
    ((fget 3588 ((mk E c s (hh (up (up g 28 (Int.toNat s1) ((tdv s2 x5))) 28 5 x5)))) x4).bind fun v1 =>
    (fget 3584 ((mk E c s (hh (up (up (up g 28 (Int.toNat s1) ((tdv s2 x5))) 28 5 x5) 28 6 v1)))) x4).bind fun v2 =>
    some ((3, 0), ((mk E c s (hh (up (up (up (up g 28 (Int.toNat s1) ((tdv s2 x5))) 28 5 x5) 28 6 v1) 28 7 v2))))))
  else none) :=
  (evk_at (r := (if x5 = 0 then none else
  (aput 100 ((mk E c s (hh g))) 28 s1 ((tdv s2 x5))).bind fun M1 =>
    (fget 4098 M1 27).bind fun v2 =>
    (aput 100 M1 v2 5 (x5)).bind fun M3 =>
    (fget 4098 M3 27).bind fun v4 =>
    (fget 3588 M3 x4).bind fun v5 =>
    (aput 100 M3 v4 6 (v5)).bind fun M6 =>
    (fget 4098 M6 27).bind fun v7 =>
    (fget 3584 M6 x4).bind fun v8 =>
    (aput 100 M6 v7 7 (v8)).bind fun M9 =>
    some ((3, 0), M9))) X [0, 3, 27, 34, 43] 23 rfl).trans (by simp (maxSteps := 10000000) only [inbL 5 11 rfl, inbL 6 11 rfl, inbL 7 11 rfl, tn5, tn6, tn7, ↓F4098_27, ↓S28, bindI, Option.bind_some, if_true_, and_self, ite_true, true_and, true_or, or_true])
set_option maxRecDepth 100000 in
theorem r80_0 (d : Nat) (x1 : Int) : Ev prog clsT X d mc80 0 [(2, 72), (0, x1)] [] (mk E c s (hh g)) =
  (if inb x1 4 = true then
  (if cmpI .le ((g 73 (Int.toNat x1))) 0 = true then
  (some ((0, 0), ((mk E c s (hh g)))))
else
  (some ((0, 1), ((mk E c s (hh g))))))
else none) :=
  (evk_at (r := ((fget 4610 ((mk E c s (hh g))) 72).bind fun v1 =>
  (aget X 100 ((mk E c s (hh g))) v1 x1).bind fun v2 =>
  if cmpI .le v2 0 = true then
  (some ((0, 0), (mk E c s (hh g))))
else
  (some ((0, 1), (mk E c s (hh g)))))) X [0] 9 rfl).trans (by simp (maxSteps := 10000000) only [↓A73, ↓F4610_72, bindI, Option.bind_some, if_true_, and_self, ite_true, true_and, true_or, or_true])
set_option maxRecDepth 100000 in
theorem rc80_ (d : Nat) (x1 : Int) : Call prog clsT X (d + 1) 80 [(2, 72), (0, x1)] (mk E c s (hh g)) =
  (if inb x1 4 = true then
  (if cmpI .le ((g 73 (Int.toNat x1))) 0 = true then
  (some ((0, 0), ((mk E c s (hh g)))))
else
  (some ((0, 1), ((mk E c s (hh g))))))
else none) :=
  (show Call prog clsT X (d + 1) 80 [(2, 72), (0, x1)] (mk E c s (hh g)) = Ev prog clsT X d mc80 0 [(2, 72), (0, x1)] [] (mk E c s (hh g)) from rfl).trans (r80_0 X E c s g d x1 )
set_option maxRecDepth 100000 in
theorem r81_0 (d : Nat) (x1 : Int) : Ev prog clsT X d mc81 0 [(2, 72), (0, x1), (2, 30), (2, 36), (3, 0)] [] (mk E c s (hh g)) =
  (if inb x1 4 = true then
  (if inb x1 4 = true then
  (if inb x1 4 = true then
  ((acopy ((mk E c s (hh (up (up g 30 0 ((g 74 (Int.toNat x1)))) 30 1 ((g 75 (Int.toNat x1))))))) ((hh g 76 (Int.toNat x1))) 0 35 0 40).bind fun M1 =>
  (fget 4626 M1 72).bind fun v2 =>
  if (lay? M1 v2).1 = 104 ∨ (lay? M1 v2).1 = 105 then (aget X (lay? M1 v2).1 M1 v2 x1).bind fun v3 =>
  ((fget 2058 M1 36).bind fun v4 =>
  (acopy M1 v3 0 v4 0 10).bind fun M5 =>
  Ev prog clsT X d mc81 34 [(2, 72), (0, x1), (2, 30), (2, 36), (0, 0)] [] M5) else none)
else none)
else none)
else none) :=
  (evk_at (r := ((fget 4614 ((mk E c s (hh g))) 72).bind fun v1 =>
  (aget X 100 ((mk E c s (hh g))) v1 x1).bind fun v2 =>
  (fput 1024 ((mk E c s (hh g))) 30 v2).bind fun M3 =>
  (fget 4618 M3 72).bind fun v4 =>
  (aget X 101 M3 v4 x1).bind fun v5 =>
  (fput 1029 M3 30 v5).bind fun M6 =>
  (fget 4622 M6 72).bind fun v7 =>
  if (lay? M6 v7).1 = 104 ∨ (lay? M6 v7).1 = 105 then (aget X (lay? M6 v7).1 M6 v7 x1).bind fun v8 =>
  ((fget 1050 M6 30).bind fun v9 =>
  (acopy M6 v8 0 v9 0 40).bind fun M10 =>
  (fget 4626 M10 72).bind fun v11 =>
  if (lay? M10 v11).1 = 104 ∨ (lay? M10 v11).1 = 105 then (aget X (lay? M10 v11).1 M10 v11 x1).bind fun v12 =>
  ((fget 2058 M10 36).bind fun v13 =>
  (acopy M10 v12 0 v13 0 10).bind fun M14 =>
  Ev prog clsT X d mc81 34 [(2, 72), (0, x1), (2, 30), (2, 36), (0, 0)] [] M14) else none) else none)) X [0, 34] 36 rfl).trans (by simp (maxSteps := 10000000) (disch := decide) only [hh_cell, lay_76, uc_30_75, ↓A74, ↓A75, ↓A76, ↓F1050_30, ↓F4614_72, ↓F4618_72, ↓F4622_72, ↓W1024_30, ↓W1029_30, bindI, Option.bind_some, if_true_, and_self, ite_true, true_and, true_or, or_true])
set_option maxRecDepth 100000 in
theorem rc81_ (d : Nat) (x1 : Int) : Call prog clsT X (d + 1) 81 [(2, 72), (0, x1), (2, 30), (2, 36)] (mk E c s (hh g)) =
  (if inb x1 4 = true then
  (if inb x1 4 = true then
  (if inb x1 4 = true then
  ((acopy ((mk E c s (hh (up (up g 30 0 ((g 74 (Int.toNat x1)))) 30 1 ((g 75 (Int.toNat x1))))))) ((hh g 76 (Int.toNat x1))) 0 35 0 40).bind fun M1 =>
  (fget 4626 M1 72).bind fun v2 =>
  if (lay? M1 v2).1 = 104 ∨ (lay? M1 v2).1 = 105 then (aget X (lay? M1 v2).1 M1 v2 x1).bind fun v3 =>
  ((fget 2058 M1 36).bind fun v4 =>
  (acopy M1 v3 0 v4 0 10).bind fun M5 =>
  Ev prog clsT X d mc81 34 [(2, 72), (0, x1), (2, 30), (2, 36), (0, 0)] [] M5) else none)
else none)
else none)
else none) :=
  (show Call prog clsT X (d + 1) 81 [(2, 72), (0, x1), (2, 30), (2, 36)] (mk E c s (hh g)) = Ev prog clsT X d mc81 0 [(2, 72), (0, x1), (2, 30), (2, 36), (3, 0)] [] (mk E c s (hh g)) from rfl).trans (r81_0 X E c s g d x1 )
set_option maxRecDepth 100000 in
theorem r81_34 (d : Nat) (x1 x4 : Int) (w2 w3 : MV) : Ev prog clsT X d mc81 34 [(2, 72), (0, x1), w2, w3, (0, x4)] [] (mk E c s (hh g)) =
  (if cmpI .ge x4 4 = true then
  (some ((3, 0), ((mk E c s (hh g)))))
else
  (if inb x4 4 = true then
    (if inb x1 4 = true then
    (if cmpI .le ((g 73 (Int.toNat x4))) ((g 73 (Int.toNat x1))) = true then
    (Ev prog clsT X d mc81 34 [(2, 72), (0, x1), (3, 0), (3, 0), (0, (w32 (x4 + 1)))] [] (mk E c s (hh g)))
  else
    (if inb x4 4 = true then
      (Ev prog clsT X d mc81 34 [(2, 72), (0, x1), (3, 0), (3, 0), (0, (w32 (x4 + 1)))] [] (mk E c s (hh (up g 73 (Int.toNat x4) 0))))
    else none))
  else none)
  else none)) :=
  (evk_at (r := (if cmpI .ge x4 4 = true then
  (some ((3, 0), (mk E c s (hh g))))
else
  ((fget 4610 ((mk E c s (hh g))) 72).bind fun v1 =>
    (aget X 100 ((mk E c s (hh g))) v1 x4).bind fun v2 =>
    (fget 4610 ((mk E c s (hh g))) 72).bind fun v3 =>
    (aget X 100 ((mk E c s (hh g))) v3 x1).bind fun v4 =>
    if cmpI .le v2 v4 = true then
    (Ev prog clsT X d mc81 34 [(2, 72), (0, x1), (3, 0), (3, 0), (0, (w32 (x4 + 1)))] [] (mk E c s (hh g)))
  else
    ((fget 4610 ((mk E c s (hh g))) 72).bind fun v5 =>
      (aput 100 ((mk E c s (hh g))) v5 x4 (0)).bind fun M6 =>
      Ev prog clsT X d mc81 34 [(2, 72), (0, x1), (3, 0), (3, 0), (0, (w32 (x4 + 1)))] [] M6)))) X [0, 34] 21 rfl).trans (by simp (maxSteps := 10000000) only [↓A73, ↓F4610_72, ↓S73, bindI, Option.bind_some, if_true_, and_self, ite_true, true_and, true_or, or_true])
set_option maxRecDepth 100000 in
theorem r82_0 (d : Nat) (x1 : Int) : Ev prog clsT X d mc82 0 [(2, 72), (0, x1), (2, 30), (2, 36)] [] (mk E c s (hh g)) =
  (if inb x1 4 = true then
  (if inb x1 4 = true then
  (if inb x1 4 = true then
  (if inb x1 4 = true then
  ((acopy ((mk E c s (hh (up (up (up (up g 72 5 ((w32 (((g 72 5)) + 1)))) 73 (Int.toNat x1) ((((w32 (((g 72 5)) + 1)))))) 74 (Int.toNat x1) ((g 30 0))) 75 (Int.toNat x1) ((g 30 1)))))) 35 0 ((hh g 76 (Int.toNat x1))) 0 40).bind fun M1 =>
  (fget 2058 M1 36).bind fun v2 =>
  (fget 4626 M1 72).bind fun v3 =>
  if (lay? M1 v3).1 = 104 ∨ (lay? M1 v3).1 = 105 then (aget X (lay? M1 v3).1 M1 v3 x1).bind fun v4 =>
  ((acopy M1 v2 0 v4 0 10).bind fun M5 =>
  some ((3, 0), M5)) else none)
else none)
else none)
else none)
else none) :=
  (evk_at (r := ((fget 4628 ((mk E c s (hh g))) 72).bind fun v1 =>
  (fput 4628 ((mk E c s (hh g))) 72 ((w32 (v1 + 1)))).bind fun M2 =>
  (fget 4610 M2 72).bind fun v3 =>
  (fget 4628 M2 72).bind fun v4 =>
  (aput 100 M2 v3 x1 (v4)).bind fun M5 =>
  (fget 4614 M5 72).bind fun v6 =>
  (fget 1024 M5 30).bind fun v7 =>
  (aput 100 M5 v6 x1 (v7)).bind fun M8 =>
  (fget 4618 M8 72).bind fun v9 =>
  (fget 1029 M8 30).bind fun v10 =>
  (aput 101 M8 v9 x1 (v10)).bind fun M11 =>
  (fget 1050 M11 30).bind fun v12 =>
  (fget 4622 M11 72).bind fun v13 =>
  if (lay? M11 v13).1 = 104 ∨ (lay? M11 v13).1 = 105 then (aget X (lay? M11 v13).1 M11 v13 x1).bind fun v14 =>
  ((acopy M11 v12 0 v14 0 40).bind fun M15 =>
  (fget 2058 M15 36).bind fun v16 =>
  (fget 4626 M15 72).bind fun v17 =>
  if (lay? M15 v17).1 = 104 ∨ (lay? M15 v17).1 = 105 then (aget X (lay? M15 v17).1 M15 v17 x1).bind fun v18 =>
  ((acopy M15 v16 0 v18 0 10).bind fun M19 =>
  some ((3, 0), M19)) else none) else none)) X [0] 46 rfl).trans (by simp (maxSteps := 10000000) (disch := decide) only [hh_cell, lay_76, uc_72_30, uc_73_30, uc_74_30, up_same, ↓A76, ↓F1024_30, ↓F1029_30, ↓F1050_30, ↓F4610_72, ↓F4614_72, ↓F4618_72, ↓F4622_72, ↓F4628_72, ↓S73, ↓S74, ↓S75, ↓W4628_72, bindI, Option.bind_some, if_true_, and_self, ite_true, true_and, true_or, or_true])
set_option maxRecDepth 100000 in
theorem rc82_ (d : Nat) (x1 : Int) : Call prog clsT X (d + 1) 82 [(2, 72), (0, x1), (2, 30), (2, 36)] (mk E c s (hh g)) =
  (if inb x1 4 = true then
  (if inb x1 4 = true then
  (if inb x1 4 = true then
  (if inb x1 4 = true then
  ((acopy ((mk E c s (hh (up (up (up (up g 72 5 ((w32 (((g 72 5)) + 1)))) 73 (Int.toNat x1) ((((w32 (((g 72 5)) + 1)))))) 74 (Int.toNat x1) ((g 30 0))) 75 (Int.toNat x1) ((g 30 1)))))) 35 0 ((hh g 76 (Int.toNat x1))) 0 40).bind fun M1 =>
  (fget 2058 M1 36).bind fun v2 =>
  (fget 4626 M1 72).bind fun v3 =>
  if (lay? M1 v3).1 = 104 ∨ (lay? M1 v3).1 = 105 then (aget X (lay? M1 v3).1 M1 v3 x1).bind fun v4 =>
  ((acopy M1 v2 0 v4 0 10).bind fun M5 =>
  some ((3, 0), M5)) else none)
else none)
else none)
else none)
else none) :=
  (show Call prog clsT X (d + 1) 82 [(2, 72), (0, x1), (2, 30), (2, 36)] (mk E c s (hh g)) = Ev prog clsT X d mc82 0 [(2, 72), (0, x1), (2, 30), (2, 36)] [] (mk E c s (hh g)) from rfl).trans (r82_0 X E c s g d x1 )
set_option maxRecDepth 100000 in
theorem r83_34 (d : Nat) : Ev prog clsT X d mc83 34 [(2, 1)] [] (mk E c s (hh g)) =
  ((Call prog clsT X d 248 [(2, 5), (0, (-1))] ((mk E c s (hh g)))).bind fun r1 => if r1.1.1 = 4 then none else
  Ev prog clsT X d mc83 38 [(2, 1)] (pushR r1.1 []) r1.2) :=
  (evk_at (r := ((fget 5134 ((mk E c s (hh g))) 1).bind fun v1 =>
  (Call prog clsT X d 248 [(2, v1), (0, (-1))] ((mk E c s (hh g)))).bind fun r2 => if r2.1.1 = 4 then none else
  Ev prog clsT X d mc83 38 [(2, 1)] (pushR r2.1 []) r2.2)) X [0, 34, 38] 5 rfl).trans (by simp (maxSteps := 10000000) only [↓F5134_1, bindI, Option.bind_some, if_true_, and_self, ite_true, true_and, true_or, or_true])
set_option maxRecDepth 100000 in
theorem r83_38 (d : Nat) : Ev prog clsT X d mc83 38 [(2, 1)] [] (mk E c s (hh g)) =
  (some ((3, 0), ((mk E c s (hh g))))) :=
  (evk_at (r := (some ((3, 0), (mk E c s (hh g))))) X [0, 34, 38] 2 rfl).trans (by simp (maxSteps := 10000000) only [bindI, Option.bind_some, if_true_, and_self, ite_true, true_and, true_or, or_true])
set_option maxRecDepth 100000 in
theorem r84_0 (d : Nat) (x1 : Int) : Ev prog clsT X d mc84 0 [(2, 1), (0, x1)] [] (mk E c s (hh g)) =
  ((Call prog clsT X d 90 [(0, x1), (0, 0), (0, 9)] ((mk E c s (hh g)))).bind fun r1 => if r1.1.1 = 4 then none else
  Ev prog clsT X d mc84 4 [(2, 1), (0, x1)] (pushR r1.1 []) r1.2) :=
  evk_at X [0, 4] 5 rfl
set_option maxRecDepth 100000 in
theorem rc84_ (d : Nat) (x1 : Int) : Call prog clsT X (d + 1) 84 [(2, 1), (0, x1)] (mk E c s (hh g)) =
  ((Call prog clsT X d 90 [(0, x1), (0, 0), (0, 9)] ((mk E c s (hh g)))).bind fun r1 => if r1.1.1 = 4 then none else
  Ev prog clsT X d mc84 4 [(2, 1), (0, x1)] (pushR r1.1 []) r1.2) :=
  (show Call prog clsT X (d + 1) 84 [(2, 1), (0, x1)] (mk E c s (hh g)) = Ev prog clsT X d mc84 0 [(2, 1), (0, x1)] [] (mk E c s (hh g)) from rfl).trans (r84_0 X E c s g d x1 )
set_option maxRecDepth 100000 in
theorem r84_4 (d : Nat) (x1 s0 : Int) : Ev prog clsT X d mc84 4 [(2, 1), (0, x1)] [(0, s0)] (mk E c s (hh g)) =
  (if cmpI .eq s0 0 = true then
  (some ((0, 0), ((mk E c s (hh g)))))
else
  (if inb x1 10 = true then
    (if cmpI .eq ((g 2 (Int.toNat x1))) ((-1)) = true then
    (some ((0, 0), ((mk E c s (hh g)))))
  else
    (some ((0, 1), ((mk E c s (hh g))))))
  else none)) :=
  (evk_at (r := (if cmpI .eq s0 0 = true then
  (some ((0, 0), (mk E c s (hh g))))
else
  ((fget 5122 ((mk E c s (hh g))) 1).bind fun v1 =>
    (aget X 100 ((mk E c s (hh g))) v1 x1).bind fun v2 =>
    if cmpI .eq v2 ((-1)) = true then
    (some ((0, 0), (mk E c s (hh g))))
  else
    (some ((0, 1), (mk E c s (hh g))))))) X [0, 4] 11 rfl).trans (by simp (maxSteps := 10000000) only [↓A2, ↓F5122_1, bindI, Option.bind_some, if_true_, and_self, ite_true, true_and, true_or, or_true])
set_option maxRecDepth 100000 in
theorem r85_0 (d : Nat) (x1 : Int) : Ev prog clsT X d mc85 0 [(2, 1), (0, x1), (3, 0), (3, 0), (3, 0)] [] (mk E c s (hh g)) =
  (Ev prog clsT X d mc85 4 [(2, 1), (0, x1), (1, 0), (3, 0), (0, 0)] [] (mk E c s (hh g))) :=
  evk_at X [0, 4] 6 rfl
set_option maxRecDepth 100000 in
theorem rc85_ (d : Nat) (x1 : Int) : Call prog clsT X (d + 1) 85 [(2, 1), (0, x1)] (mk E c s (hh g)) =
  (Ev prog clsT X d mc85 4 [(2, 1), (0, x1), (1, 0), (3, 0), (0, 0)] [] (mk E c s (hh g))) :=
  (show Call prog clsT X (d + 1) 85 [(2, 1), (0, x1)] (mk E c s (hh g)) = Ev prog clsT X d mc85 0 [(2, 1), (0, x1), (3, 0), (3, 0), (3, 0)] [] (mk E c s (hh g)) from rfl).trans (r85_0 X E c s g d x1 )
set_option maxRecDepth 100000 in
theorem r85_4 (d : Nat) (x1 x2 x4 : Int) (w3 : MV) : Ev prog clsT X d mc85 4 [(2, 1), (0, x1), (1, x2), w3, (0, x4)] [] (mk E c s (hh g)) =
  (if cmpI .ge x4 40 = true then
  (some ((1, x2), ((mk E c s (hh g)))))
else
  (if inb x4 40 = true then
    (if cmpI .ne ((g 5 (Int.toNat x4))) x1 = true then
    (Ev prog clsT X d mc85 4 [(2, 1), (0, x1), (1, (lor64 x2 0)), (3, 0), (0, (w32 (x4 + 1)))] [] (mk E c s (hh g)))
  else
    (Ev prog clsT X d mc85 4 [(2, 1), (0, x1), (1, (lor64 x2 ((lshl64 1 x4)))), (3, 0), (0, (w32 (x4 + 1)))] [] (mk E c s (hh g))))
  else none)) :=
  (evk_at (r := (if cmpI .ge x4 40 = true then
  (some ((1, x2), (mk E c s (hh g))))
else
  ((fget 5134 ((mk E c s (hh g))) 1).bind fun v1 =>
    (aget X 100 ((mk E c s (hh g))) v1 x4).bind fun v2 =>
    if cmpI .ne v2 x1 = true then
    (Ev prog clsT X d mc85 4 [(2, 1), (0, x1), (1, (lor64 x2 0)), (3, 0), (0, (w32 (x4 + 1)))] [] (mk E c s (hh g)))
  else
    (Ev prog clsT X d mc85 4 [(2, 1), (0, x1), (1, (lor64 x2 ((lshl64 1 x4)))), (3, 0), (0, (w32 (x4 + 1)))] [] (mk E c s (hh g)))))) X [0, 4] 20 rfl).trans (by simp (maxSteps := 10000000) only [↓A5, ↓F5134_1, bindI, Option.bind_some, if_true_, and_self, ite_true, true_and, true_or, or_true])
set_option maxRecDepth 100000 in
theorem r86_0 (d : Nat) : Ev prog clsT X d mc86 0 [(2, 1), (3, 0), (3, 0)] [] (mk E c s (hh g)) =
  (Ev prog clsT X d mc86 4 [(2, 1), (0, 0), (0, 0)] [] (mk E c s (hh g))) :=
  evk_at X [0, 4] 6 rfl
set_option maxRecDepth 100000 in
theorem rc86_ (d : Nat) : Call prog clsT X (d + 1) 86 [(2, 1)] (mk E c s (hh g)) =
  (Ev prog clsT X d mc86 4 [(2, 1), (0, 0), (0, 0)] [] (mk E c s (hh g))) :=
  (show Call prog clsT X (d + 1) 86 [(2, 1)] (mk E c s (hh g)) = Ev prog clsT X d mc86 0 [(2, 1), (3, 0), (3, 0)] [] (mk E c s (hh g)) from rfl).trans (r86_0 X E c s g d  )
set_option maxRecDepth 100000 in
theorem r86_4 (d : Nat) (x1 x2 : Int) : Ev prog clsT X d mc86 4 [(2, 1), (0, x1), (0, x2)] [] (mk E c s (hh g)) =
  (if cmpI .ge x2 10 = true then
  (some ((0, x1), ((mk E c s (hh g)))))
else
  (if inb x2 10 = true then
    (if cmpI .eq ((g 2 (Int.toNat x2))) ((-1)) = true then
    (Ev prog clsT X d mc86 4 [(2, 1), (0, (w32 (x1 + 0))), (0, (w32 (x2 + 1)))] [] (mk E c s (hh g)))
  else
    (Ev prog clsT X d mc86 4 [(2, 1), (0, (w32 (x1 + 1))), (0, (w32 (x2 + 1)))] [] (mk E c s (hh g))))
  else none)) :=
  (evk_at (r := (if cmpI .ge x2 10 = true then
  (some ((0, x1), (mk E c s (hh g))))
else
  ((fget 5122 ((mk E c s (hh g))) 1).bind fun v1 =>
    (aget X 100 ((mk E c s (hh g))) v1 x2).bind fun v2 =>
    if cmpI .eq v2 ((-1)) = true then
    (Ev prog clsT X d mc86 4 [(2, 1), (0, (w32 (x1 + 0))), (0, (w32 (x2 + 1)))] [] (mk E c s (hh g)))
  else
    (Ev prog clsT X d mc86 4 [(2, 1), (0, (w32 (x1 + 1))), (0, (w32 (x2 + 1)))] [] (mk E c s (hh g)))))) X [0, 4] 18 rfl).trans (by simp (maxSteps := 10000000) only [↓A2, ↓F5122_1, bindI, Option.bind_some, if_true_, and_self, ite_true, true_and, true_or, or_true])
set_option maxRecDepth 100000 in
theorem r87_0 (d : Nat) : Ev prog clsT X d mc87 0 [(2, 1), (3, 0), (3, 0)] [] (mk E c s (hh g)) =
  (Ev prog clsT X d mc87 4 [(2, 1), (0, 0), (0, 0)] [] (mk E c s (hh g))) :=
  evk_at X [0, 4] 6 rfl
set_option maxRecDepth 100000 in
theorem rc87_ (d : Nat) : Call prog clsT X (d + 1) 87 [(2, 1)] (mk E c s (hh g)) =
  (Ev prog clsT X d mc87 4 [(2, 1), (0, 0), (0, 0)] [] (mk E c s (hh g))) :=
  (show Call prog clsT X (d + 1) 87 [(2, 1)] (mk E c s (hh g)) = Ev prog clsT X d mc87 0 [(2, 1), (3, 0), (3, 0)] [] (mk E c s (hh g)) from rfl).trans (r87_0 X E c s g d  )
set_option maxRecDepth 100000 in
theorem r87_4 (d : Nat) (x1 x2 : Int) : Ev prog clsT X d mc87 4 [(2, 1), (0, x1), (0, x2)] [] (mk E c s (hh g)) =
  (if cmpI .ge x2 40 = true then
  (some ((0, x1), ((mk E c s (hh g)))))
else
  (if inb x2 40 = true then
    (if cmpI .eq ((g 5 (Int.toNat x2))) ((-1)) = true then
    (Ev prog clsT X d mc87 4 [(2, 1), (0, (w32 (x1 + 0))), (0, (w32 (x2 + 1)))] [] (mk E c s (hh g)))
  else
    (Ev prog clsT X d mc87 4 [(2, 1), (0, (w32 (x1 + 1))), (0, (w32 (x2 + 1)))] [] (mk E c s (hh g))))
  else none)) :=
  (evk_at (r := (if cmpI .ge x2 40 = true then
  (some ((0, x1), (mk E c s (hh g))))
else
  ((fget 5134 ((mk E c s (hh g))) 1).bind fun v1 =>
    (aget X 100 ((mk E c s (hh g))) v1 x2).bind fun v2 =>
    if cmpI .eq v2 ((-1)) = true then
    (Ev prog clsT X d mc87 4 [(2, 1), (0, (w32 (x1 + 0))), (0, (w32 (x2 + 1)))] [] (mk E c s (hh g)))
  else
    (Ev prog clsT X d mc87 4 [(2, 1), (0, (w32 (x1 + 1))), (0, (w32 (x2 + 1)))] [] (mk E c s (hh g)))))) X [0, 4] 18 rfl).trans (by simp (maxSteps := 10000000) only [↓A5, ↓F5134_1, bindI, Option.bind_some, if_true_, and_self, ite_true, true_and, true_or, or_true])
set_option maxRecDepth 100000 in
theorem r89_0 (d : Nat) (x1 x2 x3 x4 : Int) : Ev prog clsT X d mc89 0 [(2, 0), (0, x1), (0, x2), (0, x3), (0, x4)] [] (mk E c s (hh g)) =
  ((Call prog clsT X d 90 [(0, x1), (0, 0), (0, 9)] ((mk E c s (hh g)))).bind fun r1 => if r1.1.1 = 4 then none else
  Ev prog clsT X d mc89 4 [(2, 0), (0, x1), (0, x2), (0, x3), (0, x4)] (pushR r1.1 []) r1.2) :=
  evk_at X [0, 4, 9, 14] 5 rfl
set_option maxRecDepth 100000 in
theorem rc89_ (d : Nat) (x1 x2 x3 x4 : Int) : Call prog clsT X (d + 1) 89 [(2, 0), (0, x1), (0, x2), (0, x3), (0, x4)] (mk E c s (hh g)) =
  ((Call prog clsT X d 90 [(0, x1), (0, 0), (0, 9)] ((mk E c s (hh g)))).bind fun r1 => if r1.1.1 = 4 then none else
  Ev prog clsT X d mc89 4 [(2, 0), (0, x1), (0, x2), (0, x3), (0, x4)] (pushR r1.1 []) r1.2) :=
  (show Call prog clsT X (d + 1) 89 [(2, 0), (0, x1), (0, x2), (0, x3), (0, x4)] (mk E c s (hh g)) = Ev prog clsT X d mc89 0 [(2, 0), (0, x1), (0, x2), (0, x3), (0, x4)] [] (mk E c s (hh g)) from rfl).trans (r89_0 X E c s g d x1 x2 x3 x4 )
set_option maxRecDepth 100000 in
theorem r89_4 (d : Nat) (x1 x2 x3 x4 s0 : Int) : Ev prog clsT X d mc89 4 [(2, 0), (0, x1), (0, x2), (0, x3), (0, x4)] [(0, s0)] (mk E c s (hh g)) =
  (if cmpI .eq s0 0 = true then
  (some ((0, 0), ((mk E c s (hh g)))))
else
  ((Call prog clsT X d 90 [(0, x2), (0, 0), (0, 5)] ((mk E c s (hh g)))).bind fun r1 => if r1.1.1 = 4 then none else
    Ev prog clsT X d mc89 9 [(2, 0), (0, x1), (0, x2), (0, x3), (0, x4)] (pushR r1.1 []) r1.2)) :=
  (evk_at (r := (if cmpI .eq s0 0 = true then
  (some ((0, 0), (mk E c s (hh g))))
else
  ((Call prog clsT X d 90 [(0, x2), (0, 0), (0, 5)] ((mk E c s (hh g)))).bind fun r1 => if r1.1.1 = 4 then none else
    Ev prog clsT X d mc89 9 [(2, 0), (0, x1), (0, x2), (0, x3), (0, x4)] (pushR r1.1 []) r1.2))) X [0, 4, 9, 14] 6 rfl).trans (by simp (maxSteps := 10000000) only [bindI, Option.bind_some, if_true_, and_self, ite_true, true_and, true_or, or_true])
set_option maxRecDepth 100000 in
theorem r89_9 (d : Nat) (x1 x2 x3 x4 s0 : Int) : Ev prog clsT X d mc89 9 [(2, 0), (0, x1), (0, x2), (0, x3), (0, x4)] [(0, s0)] (mk E c s (hh g)) =
  (if cmpI .eq s0 0 = true then
  (some ((0, 0), ((mk E c s (hh g)))))
else
  ((Call prog clsT X d 90 [(0, x3), (0, 1), (0, 99)] ((mk E c s (hh g)))).bind fun r1 => if r1.1.1 = 4 then none else
    Ev prog clsT X d mc89 14 [(2, 0), (0, x1), (0, x2), (0, x3), (0, x4)] (pushR r1.1 []) r1.2)) :=
  (evk_at (r := (if cmpI .eq s0 0 = true then
  (some ((0, 0), (mk E c s (hh g))))
else
  ((Call prog clsT X d 90 [(0, x3), (0, 1), (0, 99)] ((mk E c s (hh g)))).bind fun r1 => if r1.1.1 = 4 then none else
    Ev prog clsT X d mc89 14 [(2, 0), (0, x1), (0, x2), (0, x3), (0, x4)] (pushR r1.1 []) r1.2))) X [0, 4, 9, 14] 6 rfl).trans (by simp (maxSteps := 10000000) only [bindI, Option.bind_some, if_true_, and_self, ite_true, true_and, true_or, or_true])
set_option maxRecDepth 100000 in
theorem r89_14 (d : Nat) (x1 x2 x3 x4 s0 : Int) : Ev prog clsT X d mc89 14 [(2, 0), (0, x1), (0, x2), (0, x3), (0, x4)] [(0, s0)] (mk E c s (hh g)) =
  (if cmpI .ne s0 0 = true then
  (if inb x1 10 = true then
    (if inb x1 10 = true then
    (if inb x1 10 = true then
    (some ((0, 1), ((mk E c s (hh (up (up (up g 2 (Int.toNat x1) x2) 3 (Int.toNat x1) x3) 4 (Int.toNat x1) (bit1 (x4))))))))
  else none)
  else none)
  else none)
else
  (some ((0, 0), ((mk E c s (hh g)))))) :=
  (evk_at (r := (if cmpI .ne s0 0 = true then
  ((fget 5634 ((mk E c s (hh g))) 0).bind fun v1 =>
    (fget 5122 ((mk E c s (hh g))) v1).bind fun v2 =>
    (aput 100 ((mk E c s (hh g))) v2 x1 (x2)).bind fun M3 =>
    (fget 5634 M3 0).bind fun v4 =>
    (fget 5126 M3 v4).bind fun v5 =>
    (aput 100 M3 v5 x1 (x3)).bind fun M6 =>
    (fget 5634 M6 0).bind fun v7 =>
    (fget 5130 M6 v7).bind fun v8 =>
    (aput 102 M6 v8 x1 (bit1 (x4))).bind fun M9 =>
    some ((0, 1), M9))
else
  (some ((0, 0), (mk E c s (hh g)))))) X [0, 4, 9, 14] 22 rfl).trans (by simp (maxSteps := 10000000) only [↓F5122_1, ↓F5126_1, ↓F5130_1, ↓F5634_0, ↓S2, ↓S3, ↓S4, bindI, Option.bind_some, if_true_, and_self, ite_true, true_and, true_or, or_true])
set_option maxRecDepth 100000 in
theorem r90_0 (d : Nat) (x0 x1 x2 : Int) : Ev prog clsT X d mc90 0 [(0, x0), (0, x1), (0, x2)] [] (mk E c s (hh g)) =
  (if cmpI .lt x0 x1 = true then
  (some ((0, 0), ((mk E c s (hh g)))))
else
  (if cmpI .gt x0 x2 = true then
    (some ((0, 0), ((mk E c s (hh g)))))
  else
    (some ((0, 1), ((mk E c s (hh g))))))) :=
  (evk_at (r := (if cmpI .lt x0 x1 = true then
  (some ((0, 0), (mk E c s (hh g))))
else
  (if cmpI .gt x0 x2 = true then
    (some ((0, 0), (mk E c s (hh g))))
  else
    (some ((0, 1), (mk E c s (hh g))))))) X [0] 10 rfl).trans (by simp (maxSteps := 10000000) only [bindI, Option.bind_some, if_true_, and_self, ite_true, true_and, true_or, or_true])
set_option maxRecDepth 100000 in
theorem rc90_ (d : Nat) (x0 x1 x2 : Int) : Call prog clsT X (d + 1) 90 [(0, x0), (0, x1), (0, x2)] (mk E c s (hh g)) =
  (if cmpI .lt x0 x1 = true then
  (some ((0, 0), ((mk E c s (hh g)))))
else
  (if cmpI .gt x0 x2 = true then
    (some ((0, 0), ((mk E c s (hh g)))))
  else
    (some ((0, 1), ((mk E c s (hh g))))))) :=
  (show Call prog clsT X (d + 1) 90 [(0, x0), (0, x1), (0, x2)] (mk E c s (hh g)) = Ev prog clsT X d mc90 0 [(0, x0), (0, x1), (0, x2)] [] (mk E c s (hh g)) from rfl).trans (r90_0 X E c s g d x0 x1 x2 )
set_option maxRecDepth 100000 in
theorem r91_0 (d : Nat) (x1 x2 x3 x4 x5 : Int) : Ev prog clsT X d mc91 0 [(2, 0), (0, x1), (0, x2), (0, x3), (0, x4), (0, x5)] [] (mk E c s (hh g)) =
  ((Call prog clsT X d 90 [(0, x1), (0, 0), (0, 39)] ((mk E c s (hh g)))).bind fun r1 => if r1.1.1 = 4 then none else
  Ev prog clsT X d mc91 4 [(2, 0), (0, x1), (0, x2), (0, x3), (0, x4), (0, x5)] (pushR r1.1 []) r1.2) :=
  evk_at X [0, 4, 9, 14, 21, 26, 30] 5 rfl
set_option maxRecDepth 100000 in
theorem rc91_ (d : Nat) (x1 x2 x3 x4 x5 : Int) : Call prog clsT X (d + 1) 91 [(2, 0), (0, x1), (0, x2), (0, x3), (0, x4), (0, x5)] (mk E c s (hh g)) =
  ((Call prog clsT X d 90 [(0, x1), (0, 0), (0, 39)] ((mk E c s (hh g)))).bind fun r1 => if r1.1.1 = 4 then none else
  Ev prog clsT X d mc91 4 [(2, 0), (0, x1), (0, x2), (0, x3), (0, x4), (0, x5)] (pushR r1.1 []) r1.2) :=
  (show Call prog clsT X (d + 1) 91 [(2, 0), (0, x1), (0, x2), (0, x3), (0, x4), (0, x5)] (mk E c s (hh g)) = Ev prog clsT X d mc91 0 [(2, 0), (0, x1), (0, x2), (0, x3), (0, x4), (0, x5)] [] (mk E c s (hh g)) from rfl).trans (r91_0 X E c s g d x1 x2 x3 x4 x5 )
set_option maxRecDepth 100000 in
theorem r91_4 (d : Nat) (x1 x2 x3 x4 x5 s0 : Int) : Ev prog clsT X d mc91 4 [(2, 0), (0, x1), (0, x2), (0, x3), (0, x4), (0, x5)] [(0, s0)] (mk E c s (hh g)) =
  (if cmpI .eq s0 0 = true then
  (some ((0, 0), ((mk E c s (hh g)))))
else
  ((Call prog clsT X d 84 [(2, 1), (0, x2)] ((mk E c s (hh g)))).bind fun r1 => if r1.1.1 = 4 then none else
    Ev prog clsT X d mc91 9 [(2, 0), (0, x1), (0, x2), (0, x3), (0, x4), (0, x5)] (pushR r1.1 []) r1.2)) :=
  (evk_at (r := (if cmpI .eq s0 0 = true then
  (some ((0, 0), (mk E c s (hh g))))
else
  ((fget 5634 ((mk E c s (hh g))) 0).bind fun v1 =>
    if (2 : Nat) = 2 ∧ rcv ((mk E c s (hh g))) v1 11 = true then
    ((Call prog clsT X d 84 [(2, v1), (0, x2)] ((mk E c s (hh g)))).bind fun r2 => if r2.1.1 = 4 then none else
    Ev prog clsT X d mc91 9 [(2, 0), (0, x1), (0, x2), (0, x3), (0, x4), (0, x5)] (pushR r2.1 []) r2.2) else none))) X [0, 4, 9, 14, 21, 26, 30] 6 rfl).trans (by simp (maxSteps := 10000000) only [R1_11, ↓F5634_0, bindI, Option.bind_some, if_true_, and_self, ite_true, true_and, true_or, or_true])
set_option maxRecDepth 100000 in
theorem r91_9 (d : Nat) (x1 x2 x3 x4 x5 s0 : Int) : Ev prog clsT X d mc91 9 [(2, 0), (0, x1), (0, x2), (0, x3), (0, x4), (0, x5)] [(0, s0)] (mk E c s (hh g)) =
  (if cmpI .eq s0 0 = true then
  (some ((0, 0), ((mk E c s (hh g)))))
else
  ((Call prog clsT X d 90 [(0, x3), (0, 0), (0, 9)] ((mk E c s (hh g)))).bind fun r1 => if r1.1.1 = 4 then none else
    Ev prog clsT X d mc91 14 [(2, 0), (0, x1), (0, x2), (0, x3), (0, x4), (0, x5)] (pushR r1.1 []) r1.2)) :=
  (evk_at (r := (if cmpI .eq s0 0 = true then
  (some ((0, 0), (mk E c s (hh g))))
else
  ((Call prog clsT X d 90 [(0, x3), (0, 0), (0, 9)] ((mk E c s (hh g)))).bind fun r1 => if r1.1.1 = 4 then none else
    Ev prog clsT X d mc91 14 [(2, 0), (0, x1), (0, x2), (0, x3), (0, x4), (0, x5)] (pushR r1.1 []) r1.2))) X [0, 4, 9, 14, 21, 26, 30] 6 rfl).trans (by simp (maxSteps := 10000000) only [bindI, Option.bind_some, if_true_, and_self, ite_true, true_and, true_or, or_true])
set_option maxRecDepth 100000 in
theorem r91_14 (d : Nat) (x1 x2 x3 x4 x5 s0 : Int) : Ev prog clsT X d mc91 14 [(2, 0), (0, x1), (0, x2), (0, x3), (0, x4), (0, x5)] [(0, s0)] (mk E c s (hh g)) =
  (if cmpI .ne s0 0 = true then
  ((Call prog clsT X d 90 [(0, x4), (0, 1), (0, 99)] ((mk E c s (hh g)))).bind fun r1 => if r1.1.1 = 4 then none else
    Ev prog clsT X d mc91 21 [(2, 0), (0, x1), (0, x2), (0, x3), (0, x4), (0, x5)] (pushR r1.1 []) r1.2)
else
  (some ((0, 0), ((mk E c s (hh g)))))) :=
  (evk_at (r := (if cmpI .ne s0 0 = true then
  ((Call prog clsT X d 90 [(0, x4), (0, 1), (0, 99)] ((mk E c s (hh g)))).bind fun r1 => if r1.1.1 = 4 then none else
    Ev prog clsT X d mc91 21 [(2, 0), (0, x1), (0, x2), (0, x3), (0, x4), (0, x5)] (pushR r1.1 []) r1.2)
else
  (some ((0, 0), (mk E c s (hh g)))))) X [0, 4, 9, 14, 21, 26, 30] 6 rfl).trans (by simp (maxSteps := 10000000) only [bindI, Option.bind_some, if_true_, and_self, ite_true, true_and, true_or, or_true])
set_option maxRecDepth 100000 in
theorem r91_21 (d : Nat) (x1 x2 x3 x4 x5 s0 : Int) : Ev prog clsT X d mc91 21 [(2, 0), (0, x1), (0, x2), (0, x3), (0, x4), (0, x5)] [(0, s0)] (mk E c s (hh g)) =
  (if cmpI .eq s0 0 = true then
  (some ((0, 0), ((mk E c s (hh g)))))
else
  ((Call prog clsT X d 90 [(0, x5), (0, 0), (0, 9)] ((mk E c s (hh g)))).bind fun r1 => if r1.1.1 = 4 then none else
    Ev prog clsT X d mc91 26 [(2, 0), (0, x1), (0, x2), (0, x3), (0, x4), (0, x5)] (pushR r1.1 []) r1.2)) :=
  (evk_at (r := (if cmpI .eq s0 0 = true then
  (some ((0, 0), (mk E c s (hh g))))
else
  ((Call prog clsT X d 90 [(0, x5), (0, 0), (0, 9)] ((mk E c s (hh g)))).bind fun r1 => if r1.1.1 = 4 then none else
    Ev prog clsT X d mc91 26 [(2, 0), (0, x1), (0, x2), (0, x3), (0, x4), (0, x5)] (pushR r1.1 []) r1.2))) X [0, 4, 9, 14, 21, 26, 30] 6 rfl).trans (by simp (maxSteps := 10000000) only [bindI, Option.bind_some, if_true_, and_self, ite_true, true_and, true_or, or_true])
set_option maxRecDepth 100000 in
theorem r91_26 (d : Nat) (x1 x2 x3 x4 x5 s0 : Int) : Ev prog clsT X d mc91 26 [(2, 0), (0, x1), (0, x2), (0, x3), (0, x4), (0, x5)] [(0, s0)] (mk E c s (hh g)) =
  (if cmpI .eq s0 0 = true then
  (some ((0, 0), ((mk E c s (hh g)))))
else
  ((Call prog clsT X d 18 [(2, 30)] ((mk E c s (hh g)))).bind fun r1 => if r1.1.1 = 4 then none else
    Ev prog clsT X d mc91 30 [(2, 0), (0, x1), (0, x2), (0, x3), (0, x4), (0, x5)] (pushR r1.1 []) r1.2)) :=
  (evk_at (r := (if cmpI .eq s0 0 = true then
  (some ((0, 0), (mk E c s (hh g))))
else
  ((fget 5658 ((mk E c s (hh g))) 0).bind fun v1 =>
    if (2 : Nat) = 2 ∧ rcv ((mk E c s (hh g))) v1 3 = true then
    ((Call prog clsT X d 18 [(2, v1)] ((mk E c s (hh g)))).bind fun r2 => if r2.1.1 = 4 then none else
    Ev prog clsT X d mc91 30 [(2, 0), (0, x1), (0, x2), (0, x3), (0, x4), (0, x5)] (pushR r2.1 []) r2.2) else none))) X [0, 4, 9, 14, 21, 26, 30] 5 rfl).trans (by simp (maxSteps := 10000000) only [R30_3, ↓F5658_0, bindI, Option.bind_some, if_true_, and_self, ite_true, true_and, true_or, or_true])
set_option maxRecDepth 100000 in
theorem r91_30 (d : Nat) (x1 x2 x3 x4 x5 s0 : Int) : Ev prog clsT X d mc91 30 [(2, 0), (0, x1), (0, x2), (0, x3), (0, x4), (0, x5)] [(1, s0)] (mk E c s (hh g)) =
  (if cmpI .eq ((lcmpI ((land64 ((lshr64 s0 x1)) 1)) 0)) 0 = true then
  (if inb x1 40 = true then
    (if inb x1 40 = true then
    (if inb x1 40 = true then
    (if inb x1 40 = true then
    (some ((0, 1), ((mk E c s (hh (up (up (up (up g 5 (Int.toNat x1) x2) 6 (Int.toNat x1) x3) 7 (Int.toNat x1) x4) 8 (Int.toNat x1) x5))))))
  else none)
  else none)
  else none)
  else none)
else
  (some ((0, 0), ((mk E c s (hh g)))))) :=
  (evk_at (r := (if cmpI .eq ((lcmpI ((land64 ((lshr64 s0 x1)) 1)) 0)) 0 = true then
  ((fget 5634 ((mk E c s (hh g))) 0).bind fun v1 =>
    (fget 5134 ((mk E c s (hh g))) v1).bind fun v2 =>
    (aput 100 ((mk E c s (hh g))) v2 x1 (x2)).bind fun M3 =>
    (fget 5634 M3 0).bind fun v4 =>
    (fget 5138 M3 v4).bind fun v5 =>
    (aput 100 M3 v5 x1 (x3)).bind fun M6 =>
    (fget 5634 M6 0).bind fun v7 =>
    (fget 5142 M6 v7).bind fun v8 =>
    (aput 100 M6 v8 x1 (x4)).bind fun M9 =>
    (fget 5634 M9 0).bind fun v10 =>
    (fget 5146 M9 v10).bind fun v11 =>
    (aput 100 M9 v11 x1 (x5)).bind fun M12 =>
    some ((0, 1), M12))
else
  (some ((0, 0), (mk E c s (hh g)))))) X [0, 4, 9, 14, 21, 26, 30] 34 rfl).trans (by simp (maxSteps := 10000000) only [↓F5134_1, ↓F5138_1, ↓F5142_1, ↓F5146_1, ↓F5634_0, ↓S5, ↓S6, ↓S7, ↓S8, bindI, Option.bind_some, if_true_, and_self, ite_true, true_and, true_or, or_true])
set_option maxRecDepth 100000 in
theorem r92_0 (d : Nat) (x1 x3 x5 : Int) : Ev prog clsT X d mc92 0 [(2, 0), (1, x1), (3, 0), (1, x3), (3, 0), (1, x5), (3, 0)] [] (mk E c s (hh g)) =
  ((Call prog clsT X d 38 [(2, 9), (1, x1)] ((mk E c s (hh g)))).bind fun r1 => if r1.1.1 = 4 then none else
  Ev prog clsT X d mc92 4 [(2, 0), (1, x1), (3, 0), (1, x3), (3, 0), (1, x5), (3, 0)] (pushR r1.1 []) r1.2) :=
  (evk_at (r := ((fget 5638 ((mk E c s (hh g))) 0).bind fun v1 =>
  if (2 : Nat) = 2 ∧ rcv ((mk E c s (hh g))) v1 6 = true then
  ((Call prog clsT X d 38 [(2, v1), (1, x1)] ((mk E c s (hh g)))).bind fun r2 => if r2.1.1 = 4 then none else
  Ev prog clsT X d mc92 4 [(2, 0), (1, x1), (3, 0), (1, x3), (3, 0), (1, x5), (3, 0)] (pushR r2.1 []) r2.2) else none)) X [0, 4, 8, 12] 5 rfl).trans (by simp (maxSteps := 10000000) only [R9_6, ↓F5638_0, bindI, Option.bind_some, if_true_, and_self, ite_true, true_and, true_or, or_true])
set_option maxRecDepth 100000 in
theorem rc92_ (d : Nat) (x1 x3 x5 : Int) : Call prog clsT X (d + 1) 92 [(2, 0), (1, x1), (1, x3), (1, x5)] (mk E c s (hh g)) =
  ((Call prog clsT X d 38 [(2, 9), (1, x1)] ((mk E c s (hh g)))).bind fun r1 => if r1.1.1 = 4 then none else
  Ev prog clsT X d mc92 4 [(2, 0), (1, x1), (3, 0), (1, x3), (3, 0), (1, x5), (3, 0)] (pushR r1.1 []) r1.2) :=
  (show Call prog clsT X (d + 1) 92 [(2, 0), (1, x1), (1, x3), (1, x5)] (mk E c s (hh g)) = Ev prog clsT X d mc92 0 [(2, 0), (1, x1), (3, 0), (1, x3), (3, 0), (1, x5), (3, 0)] [] (mk E c s (hh g)) from rfl).trans (r92_0 X E c s g d x1 x3 x5 )
set_option maxRecDepth 100000 in
theorem r92_4 (d : Nat) (x1 x3 x5 : Int) : Ev prog clsT X d mc92 4 [(2, 0), (1, x1), (3, 0), (1, x3), (3, 0), (1, x5), (3, 0)] [] (mk E c s (hh g)) =
  ((Call prog clsT X d 38 [(2, 9), (1, x3)] ((mk E c s (hh g)))).bind fun r1 => if r1.1.1 = 4 then none else
  Ev prog clsT X d mc92 8 [(2, 0), (1, x1), (3, 0), (1, x3), (3, 0), (1, x5), (3, 0)] (pushR r1.1 []) r1.2) :=
  (evk_at (r := ((fget 5638 ((mk E c s (hh g))) 0).bind fun v1 =>
  if (2 : Nat) = 2 ∧ rcv ((mk E c s (hh g))) v1 6 = true then
  ((Call prog clsT X d 38 [(2, v1), (1, x3)] ((mk E c s (hh g)))).bind fun r2 => if r2.1.1 = 4 then none else
  Ev prog clsT X d mc92 8 [(2, 0), (1, x1), (3, 0), (1, x3), (3, 0), (1, x5), (3, 0)] (pushR r2.1 []) r2.2) else none)) X [0, 4, 8, 12] 5 rfl).trans (by simp (maxSteps := 10000000) only [R9_6, ↓F5638_0, bindI, Option.bind_some, if_true_, and_self, ite_true, true_and, true_or, or_true])
set_option maxRecDepth 100000 in
theorem r92_8 (d : Nat) (x1 x3 x5 : Int) : Ev prog clsT X d mc92 8 [(2, 0), (1, x1), (3, 0), (1, x3), (3, 0), (1, x5), (3, 0)] [] (mk E c s (hh g)) =
  ((Call prog clsT X d 38 [(2, 9), (1, x5)] ((mk E c s (hh g)))).bind fun r1 => if r1.1.1 = 4 then none else
  Ev prog clsT X d mc92 12 [(2, 0), (1, x1), (3, 0), (1, x3), (3, 0), (1, x5), (3, 0)] (pushR r1.1 []) r1.2) :=
  (evk_at (r := ((fget 5638 ((mk E c s (hh g))) 0).bind fun v1 =>
  if (2 : Nat) = 2 ∧ rcv ((mk E c s (hh g))) v1 6 = true then
  ((Call prog clsT X d 38 [(2, v1), (1, x5)] ((mk E c s (hh g)))).bind fun r2 => if r2.1.1 = 4 then none else
  Ev prog clsT X d mc92 12 [(2, 0), (1, x1), (3, 0), (1, x3), (3, 0), (1, x5), (3, 0)] (pushR r2.1 []) r2.2) else none)) X [0, 4, 8, 12] 5 rfl).trans (by simp (maxSteps := 10000000) only [R9_6, ↓F5638_0, bindI, Option.bind_some, if_true_, and_self, ite_true, true_and, true_or, or_true])
set_option maxRecDepth 100000 in
theorem r92_12 (d : Nat) (x1 x3 x5 : Int) : Ev prog clsT X d mc92 12 [(2, 0), (1, x1), (3, 0), (1, x3), (3, 0), (1, x5), (3, 0)] [] (mk E c s (hh g)) =
  (some ((0, (g 9 1)), ((mk E c s (hh g))))) :=
  (evk_at (r := ((fget 5638 ((mk E c s (hh g))) 0).bind fun v1 =>
  (fget 2564 ((mk E c s (hh g))) v1).bind fun v2 =>
  some ((0, v2), (mk E c s (hh g))))) X [0, 4, 8, 12] 5 rfl).trans (by simp (maxSteps := 10000000) only [↓F2564_9, ↓F5638_0, bindI, Option.bind_some, if_true_, and_self, ite_true, true_and, true_or, or_true])
set_option maxRecDepth 100000 in
theorem r93_0 (d : Nat) (x1 : Int) : Ev prog clsT X d mc93 0 [(2, 0), (0, x1), (3, 0)] [] (mk E c s (hh g)) =
  ((Call prog clsT X d 90 [(0, x1), (0, 0), (0, 9)] ((mk E c s (hh g)))).bind fun r1 => if r1.1.1 = 4 then none else
  Ev prog clsT X d mc93 4 [(2, 0), (0, x1), (3, 0)] (pushR r1.1 []) r1.2) :=
  evk_at X [0, 4, 15] 5 rfl
set_option maxRecDepth 100000 in
theorem rc93_ (d : Nat) (x1 : Int) : Call prog clsT X (d + 1) 93 [(2, 0), (0, x1)] (mk E c s (hh g)) =
  ((Call prog clsT X d 90 [(0, x1), (0, 0), (0, 9)] ((mk E c s (hh g)))).bind fun r1 => if r1.1.1 = 4 then none else
  Ev prog clsT X d mc93 4 [(2, 0), (0, x1), (3, 0)] (pushR r1.1 []) r1.2) :=
  (show Call prog clsT X (d + 1) 93 [(2, 0), (0, x1)] (mk E c s (hh g)) = Ev prog clsT X d mc93 0 [(2, 0), (0, x1), (3, 0)] [] (mk E c s (hh g)) from rfl).trans (r93_0 X E c s g d x1 )
set_option maxRecDepth 100000 in
theorem r93_4 (d : Nat) (x1 s0 : Int) : Ev prog clsT X d mc93 4 [(2, 0), (0, x1), (3, 0)] [(0, s0)] (mk E c s (hh g)) =
  (if cmpI .ne s0 0 = true then
  ((Call prog clsT X d 39 [(2, 9), (0, 0)] ((mk E c s (hh g)))).bind fun r1 => if r1.1.1 = 4 then none else
    Ev prog clsT X d mc93 15 [(2, 0), (0, x1), (3, 0)] (pushR r1.1 []) r1.2)
else
  (some ((0, (-1)), ((mk E c s (hh (up g 9 1 0))))))) :=
  (evk_at (r := (if cmpI .ne s0 0 = true then
  ((fget 5638 ((mk E c s (hh g))) 0).bind fun v1 =>
    if (2 : Nat) = 2 ∧ rcv ((mk E c s (hh g))) v1 6 = true then
    ((Call prog clsT X d 39 [(2, v1), (0, 0)] ((mk E c s (hh g)))).bind fun r2 => if r2.1.1 = 4 then none else
    Ev prog clsT X d mc93 15 [(2, 0), (0, x1), (3, 0)] (pushR r2.1 []) r2.2) else none)
else
  ((fget 5638 ((mk E c s (hh g))) 0).bind fun v3 =>
    (fput 2564 ((mk E c s (hh g))) v3 0).bind fun M4 =>
    some ((0, (-1)), M4)))) X [0, 4, 15] 8 rfl).trans (by simp (maxSteps := 10000000) only [R9_6, ↓F5638_0, ↓W2564_9, bindI, Option.bind_some, if_true_, and_self, ite_true, true_and, true_or, or_true])
set_option maxRecDepth 100000 in
theorem r93_15 (d : Nat) (x1 s0 : Int) : Ev prog clsT X d mc93 15 [(2, 0), (0, x1), (3, 0)] [(0, s0)] (mk E c s (hh g)) =
  (if cmpI .ne s0 0 = true then
  (some ((0, s0), ((mk E c s (hh g)))))
else
  (if (2 : Nat) = 2 ∧ (0 : Nat) = 0 ∧ (2 : Nat) = 2 ∧ 0 ≤ ((g 9 2)) ∧ (lay? ((mk E c s (hh g))) ((g 9 2))).1 = 7 then
    (if inb x1 10 = true then
    (some ((0, s0), ((mk E c s (hh (up g 16 (Int.toNat x1) ((g 9 2)))))))) else none) else none)) :=
  (evk_at (r := (if cmpI .ne s0 0 = true then
  (some ((0, s0), (mk E c s (hh g))))
else
  ((fget 5642 ((mk E c s (hh g))) 0).bind fun v1 =>
    (fget 5638 ((mk E c s (hh g))) 0).bind fun v2 =>
    (fget 2570 ((mk E c s (hh g))) v2).bind fun v3 =>
    if (2 : Nat) = 2 ∧ (0 : Nat) = 0 ∧ (2 : Nat) = 2 ∧ 0 ≤ v3 ∧ (lay? ((mk E c s (hh g))) v3).1 = 7 then (aput 104 ((mk E c s (hh g))) v1 x1 v3).bind fun M4 =>
    (some ((0, s0), M4)) else none))) X [0, 4, 15] 13 rfl).trans (by simp (maxSteps := 10000000) only [↓F2570_9, ↓F5638_0, ↓F5642_0, ↓S16, bindI, Option.bind_some, if_true_, and_self, ite_true, true_and, true_or, or_true])
set_option maxRecDepth 100000 in
theorem r94_0 (d : Nat) : Ev prog clsT X d mc94 0 [(2, 0), (3, 0)] [] (mk E c s (hh g)) =
  ((Call prog clsT X d 39 [(2, 9), (0, 1)] ((mk E c s (hh g)))).bind fun r1 => if r1.1.1 = 4 then none else
  Ev prog clsT X d mc94 4 [(2, 0), (3, 0)] (pushR r1.1 []) r1.2) :=
  (evk_at (r := ((fget 5638 ((mk E c s (hh g))) 0).bind fun v1 =>
  if (2 : Nat) = 2 ∧ rcv ((mk E c s (hh g))) v1 6 = true then
  ((Call prog clsT X d 39 [(2, v1), (0, 1)] ((mk E c s (hh g)))).bind fun r2 => if r2.1.1 = 4 then none else
  Ev prog clsT X d mc94 4 [(2, 0), (3, 0)] (pushR r2.1 []) r2.2) else none)) X [0, 4] 5 rfl).trans (by simp (maxSteps := 10000000) only [R9_6, ↓F5638_0, bindI, Option.bind_some, if_true_, and_self, ite_true, true_and, true_or, or_true])
set_option maxRecDepth 100000 in
theorem rc94_ (d : Nat) : Call prog clsT X (d + 1) 94 [(2, 0)] (mk E c s (hh g)) =
  ((Call prog clsT X d 39 [(2, 9), (0, 1)] ((mk E c s (hh g)))).bind fun r1 => if r1.1.1 = 4 then none else
  Ev prog clsT X d mc94 4 [(2, 0), (3, 0)] (pushR r1.1 []) r1.2) :=
  (show Call prog clsT X (d + 1) 94 [(2, 0)] (mk E c s (hh g)) = Ev prog clsT X d mc94 0 [(2, 0), (3, 0)] [] (mk E c s (hh g)) from rfl).trans (r94_0 X E c s g d  )
set_option maxRecDepth 100000 in
theorem r94_4 (d : Nat) (s0 : Int) : Ev prog clsT X d mc94 4 [(2, 0), (3, 0)] [(0, s0)] (mk E c s (hh g)) =
  (if cmpI .ne s0 0 = true then
  (some ((0, s0), ((mk E c s (hh g)))))
else
  (if (2 : Nat) = 2 ∧ (2 : Nat) = fTg 5646 ∧ ((2 : Nat) = 2 → vref ((mk E c s (hh g))) ((g 9 2)) = true) ∧ (fTy 5646 = 3 → one01 ((g 9 2)) = true) then
    (some ((0, s0), ((mk E c s (hh (up g 0 3 ((g 9 2)))))))) else none)) :=
  (evk_at (r := (if cmpI .ne s0 0 = true then
  (some ((0, s0), (mk E c s (hh g))))
else
  ((fget 5638 ((mk E c s (hh g))) 0).bind fun v1 =>
    (fget 2570 ((mk E c s (hh g))) v1).bind fun v2 =>
    if (2 : Nat) = 2 ∧ (2 : Nat) = fTg 5646 ∧ ((2 : Nat) = 2 → vref ((mk E c s (hh g))) v2 = true) ∧ (fTy 5646 = 3 → one01 v2 = true) then (fput 5646 ((mk E c s (hh g))) 0 v2).bind fun M3 =>
    (some ((0, s0), M3)) else none))) X [0, 4] 11 rfl).trans (by simp (maxSteps := 10000000) only [↓F2570_9, ↓F5638_0, ↓W5646_0, bindI, Option.bind_some, if_true_, and_self, ite_true, true_and, true_or, or_true])
set_option maxRecDepth 100000 in
theorem r95_0 (d : Nat) : Ev prog clsT X d mc95 0 [(2, 0), (3, 0)] [] (mk E c s (hh g)) =
  ((Call prog clsT X d 39 [(2, 9), (0, 2)] ((mk E c s (hh g)))).bind fun r1 => if r1.1.1 = 4 then none else
  Ev prog clsT X d mc95 4 [(2, 0), (3, 0)] (pushR r1.1 []) r1.2) :=
  (evk_at (r := ((fget 5638 ((mk E c s (hh g))) 0).bind fun v1 =>
  if (2 : Nat) = 2 ∧ rcv ((mk E c s (hh g))) v1 6 = true then
  ((Call prog clsT X d 39 [(2, v1), (0, 2)] ((mk E c s (hh g)))).bind fun r2 => if r2.1.1 = 4 then none else
  Ev prog clsT X d mc95 4 [(2, 0), (3, 0)] (pushR r2.1 []) r2.2) else none)) X [0, 4] 5 rfl).trans (by simp (maxSteps := 10000000) only [R9_6, ↓F5638_0, bindI, Option.bind_some, if_true_, and_self, ite_true, true_and, true_or, or_true])
set_option maxRecDepth 100000 in
theorem rc95_ (d : Nat) : Call prog clsT X (d + 1) 95 [(2, 0)] (mk E c s (hh g)) =
  ((Call prog clsT X d 39 [(2, 9), (0, 2)] ((mk E c s (hh g)))).bind fun r1 => if r1.1.1 = 4 then none else
  Ev prog clsT X d mc95 4 [(2, 0), (3, 0)] (pushR r1.1 []) r1.2) :=
  (show Call prog clsT X (d + 1) 95 [(2, 0)] (mk E c s (hh g)) = Ev prog clsT X d mc95 0 [(2, 0), (3, 0)] [] (mk E c s (hh g)) from rfl).trans (r95_0 X E c s g d  )
set_option maxRecDepth 100000 in
theorem r95_4 (d : Nat) (s0 : Int) : Ev prog clsT X d mc95 4 [(2, 0), (3, 0)] [(0, s0)] (mk E c s (hh g)) =
  (if cmpI .ne s0 0 = true then
  (some ((0, s0), ((mk E c s (hh g)))))
else
  (if (2 : Nat) = 2 ∧ (2 : Nat) = fTg 5650 ∧ ((2 : Nat) = 2 → vref ((mk E c s (hh g))) ((g 9 2)) = true) ∧ (fTy 5650 = 3 → one01 ((g 9 2)) = true) then
    (some ((0, s0), ((mk E c s (hh (up g 0 4 ((g 9 2)))))))) else none)) :=
  (evk_at (r := (if cmpI .ne s0 0 = true then
  (some ((0, s0), (mk E c s (hh g))))
else
  ((fget 5638 ((mk E c s (hh g))) 0).bind fun v1 =>
    (fget 2570 ((mk E c s (hh g))) v1).bind fun v2 =>
    if (2 : Nat) = 2 ∧ (2 : Nat) = fTg 5650 ∧ ((2 : Nat) = 2 → vref ((mk E c s (hh g))) v2 = true) ∧ (fTy 5650 = 3 → one01 v2 = true) then (fput 5650 ((mk E c s (hh g))) 0 v2).bind fun M3 =>
    (some ((0, s0), M3)) else none))) X [0, 4] 11 rfl).trans (by simp (maxSteps := 10000000) only [↓F2570_9, ↓F5638_0, ↓W5650_0, bindI, Option.bind_some, if_true_, and_self, ite_true, true_and, true_or, or_true])
set_option maxRecDepth 100000 in
theorem r96_0 (d : Nat) (x1 x2 x3 x5 : Int) : Ev prog clsT X d mc96 0 [(2, 0), (0, x1), (0, x2), (1, x3), (3, 0), (0, x5)] [] (mk E c s (hh g)) =
  ((Call prog clsT X d 97 [(2, 0), (0, x1)] ((mk E c s (hh g)))).bind fun r1 => if r1.1.1 = 4 then none else
  Ev prog clsT X d mc96 3 [(2, 0), (0, x1), (0, x2), (1, x3), (3, 0), (0, x5)] (pushR r1.1 []) r1.2) :=
  (evk_at (r := (if (2 : Nat) = 2 ∧ rcv ((mk E c s (hh g))) 0 12 = true then
  ((Call prog clsT X d 97 [(2, 0), (0, x1)] ((mk E c s (hh g)))).bind fun r1 => if r1.1.1 = 4 then none else
  Ev prog clsT X d mc96 3 [(2, 0), (0, x1), (0, x2), (1, x3), (3, 0), (0, x5)] (pushR r1.1 []) r1.2) else none)) X [0, 3, 8, 13, 23, 26, 34, 44, 57] 4 rfl).trans (by simp (maxSteps := 10000000) only [R0_12, bindI, Option.bind_some, if_true_, and_self, ite_true, true_and, true_or, or_true])
set_option maxRecDepth 100000 in
theorem rc96_ (d : Nat) (x1 x2 x3 x5 : Int) : Call prog clsT X (d + 1) 96 [(2, 0), (0, x1), (0, x2), (1, x3), (0, x5)] (mk E c s (hh g)) =
  ((Call prog clsT X d 97 [(2, 0), (0, x1)] ((mk E c s (hh g)))).bind fun r1 => if r1.1.1 = 4 then none else
  Ev prog clsT X d mc96 3 [(2, 0), (0, x1), (0, x2), (1, x3), (3, 0), (0, x5)] (pushR r1.1 []) r1.2) :=
  (show Call prog clsT X (d + 1) 96 [(2, 0), (0, x1), (0, x2), (1, x3), (0, x5)] (mk E c s (hh g)) = Ev prog clsT X d mc96 0 [(2, 0), (0, x1), (0, x2), (1, x3), (3, 0), (0, x5)] [] (mk E c s (hh g)) from rfl).trans (r96_0 X E c s g d x1 x2 x3 x5 )
set_option maxRecDepth 100000 in
theorem r96_3 (d : Nat) (x1 x2 x3 x5 s0 : Int) : Ev prog clsT X d mc96 3 [(2, 0), (0, x1), (0, x2), (1, x3), (3, 0), (0, x5)] [(2, s0)] (mk E c s (hh g)) =
  (if (2 : Nat) = 2 ∧ s0 ≠ -5 then (if (decide (s0 = -1)) = true then
  (some ((0, (-1)), ((mk E c s (hh g)))))
else
  ((Call prog clsT X d 84 [(2, 1), (0, x2)] ((mk E c s (hh g)))).bind fun r1 => if r1.1.1 = 4 then none else
    Ev prog clsT X d mc96 8 [(2, 0), (0, x1), (0, x2), (1, x3), (3, 0), (0, x5)] (pushR r1.1 []) r1.2)) else none) :=
  (evk_at (r := (if (2 : Nat) = 2 ∧ s0 ≠ -5 then (if (decide (s0 = -1)) = true then
  (some ((0, (-1)), (mk E c s (hh g))))
else
  ((fget 5634 ((mk E c s (hh g))) 0).bind fun v1 =>
    if (2 : Nat) = 2 ∧ rcv ((mk E c s (hh g))) v1 11 = true then
    ((Call prog clsT X d 84 [(2, v1), (0, x2)] ((mk E c s (hh g)))).bind fun r2 => if r2.1.1 = 4 then none else
    Ev prog clsT X d mc96 8 [(2, 0), (0, x1), (0, x2), (1, x3), (3, 0), (0, x5)] (pushR r2.1 []) r2.2) else none)) else none)) X [0, 3, 8, 13, 23, 26, 34, 44, 57] 6 rfl).trans (by simp (maxSteps := 10000000) only [R1_11, ↓F5634_0, bindI, Option.bind_some, if_true_, and_self, ite_true, true_and, true_or, or_true])
set_option maxRecDepth 100000 in
theorem r96_8 (d : Nat) (x1 x2 x3 x5 s0 : Int) : Ev prog clsT X d mc96 8 [(2, 0), (0, x1), (0, x2), (1, x3), (3, 0), (0, x5)] [(0, s0)] (mk E c s (hh g)) =
  (if cmpI .eq s0 0 = true then
  (some ((0, (-1)), ((mk E c s (hh g)))))
else
  ((Call prog clsT X d 90 [(0, x5), (0, 0), (0, 9)] ((mk E c s (hh g)))).bind fun r1 => if r1.1.1 = 4 then none else
    Ev prog clsT X d mc96 13 [(2, 0), (0, x1), (0, x2), (1, x3), (3, 0), (0, x5)] (pushR r1.1 []) r1.2)) :=
  (evk_at (r := (if cmpI .eq s0 0 = true then
  (some ((0, (-1)), (mk E c s (hh g))))
else
  ((Call prog clsT X d 90 [(0, x5), (0, 0), (0, 9)] ((mk E c s (hh g)))).bind fun r1 => if r1.1.1 = 4 then none else
    Ev prog clsT X d mc96 13 [(2, 0), (0, x1), (0, x2), (1, x3), (3, 0), (0, x5)] (pushR r1.1 []) r1.2))) X [0, 3, 8, 13, 23, 26, 34, 44, 57] 6 rfl).trans (by simp (maxSteps := 10000000) only [bindI, Option.bind_some, if_true_, and_self, ite_true, true_and, true_or, or_true])
set_option maxRecDepth 100000 in
theorem r96_13 (d : Nat) (x1 x2 x3 x5 s0 : Int) : Ev prog clsT X d mc96 13 [(2, 0), (0, x1), (0, x2), (1, x3), (3, 0), (0, x5)] [(0, s0)] (mk E c s (hh g)) =
  (if cmpI .ne s0 0 = true then
  (if cmpI .ge ((g 30 0)) 40 = true then
    (some ((0, (-1)), ((mk E c s (hh g)))))
  else
    ((Call prog clsT X d 264 [(1, x3)] ((mk E c s (hh g)))).bind fun r1 => if r1.1.1 = 4 then none else
      Ev prog clsT X d mc96 23 [(2, 0), (0, x1), (0, x2), (1, x3), (3, 0), (0, x5)] (pushR r1.1 []) r1.2))
else
  (some ((0, (-1)), ((mk E c s (hh g)))))) :=
  (evk_at (r := (if cmpI .ne s0 0 = true then
  ((fget 5658 ((mk E c s (hh g))) 0).bind fun v1 =>
    (fget 1024 ((mk E c s (hh g))) v1).bind fun v2 =>
    if cmpI .ge v2 40 = true then
    (some ((0, (-1)), (mk E c s (hh g))))
  else
    ((Call prog clsT X d 264 [(1, x3)] ((mk E c s (hh g)))).bind fun r3 => if r3.1.1 = 4 then none else
      Ev prog clsT X d mc96 23 [(2, 0), (0, x1), (0, x2), (1, x3), (3, 0), (0, x5)] (pushR r3.1 []) r3.2))
else
  (some ((0, (-1)), (mk E c s (hh g)))))) X [0, 3, 8, 13, 23, 26, 34, 44, 57] 9 rfl).trans (by simp (maxSteps := 10000000) only [↓F1024_30, ↓F5658_0, bindI, Option.bind_some, if_true_, and_self, ite_true, true_and, true_or, or_true])
set_option maxRecDepth 100000 in
theorem r96_23 (d : Nat) (x1 x2 x3 x5 s0 : Int) : Ev prog clsT X d mc96 23 [(2, 0), (0, x1), (0, x2), (1, x3), (3, 0), (0, x5)] [(0, s0)] (mk E c s (hh g)) =
  ((Call prog clsT X d 90 [(0, s0), (0, 1), (0, 8)] ((mk E c s (hh g)))).bind fun r1 => if r1.1.1 = 4 then none else
  Ev prog clsT X d mc96 26 [(2, 0), (0, x1), (0, x2), (1, x3), (3, 0), (0, x5)] (pushR r1.1 []) r1.2) :=
  evk_at X [0, 3, 8, 13, 23, 26, 34, 44, 57] 4 rfl
set_option maxRecDepth 100000 in
theorem r96_26 (d : Nat) (x1 x2 x3 x5 s0 : Int) : Ev prog clsT X d mc96 26 [(2, 0), (0, x1), (0, x2), (1, x3), (3, 0), (0, x5)] [(0, s0)] (mk E c s (hh g)) =
  (if cmpI .ne s0 0 = true then
  ((Call prog clsT X d 85 [(2, 1), (0, x2)] ((mk E c s (hh g)))).bind fun r1 => if r1.1.1 = 4 then none else
    Ev prog clsT X d mc96 34 [(2, 0), (0, x1), (0, x2), (1, x3), (3, 0), (0, x5)] (pushR r1.1 [(1, x3)]) r1.2)
else
  (some ((0, (-1)), ((mk E c s (hh g)))))) :=
  (evk_at (r := (if cmpI .ne s0 0 = true then
  ((fget 5634 ((mk E c s (hh g))) 0).bind fun v1 =>
    if (2 : Nat) = 2 ∧ rcv ((mk E c s (hh g))) v1 11 = true then
    ((Call prog clsT X d 85 [(2, v1), (0, x2)] ((mk E c s (hh g)))).bind fun r2 => if r2.1.1 = 4 then none else
    Ev prog clsT X d mc96 34 [(2, 0), (0, x1), (0, x2), (1, x3), (3, 0), (0, x5)] (pushR r2.1 [(1, x3)]) r2.2) else none)
else
  (some ((0, (-1)), (mk E c s (hh g)))))) X [0, 3, 8, 13, 23, 26, 34, 44, 57] 7 rfl).trans (by simp (maxSteps := 10000000) only [R1_11, ↓F5634_0, bindI, Option.bind_some, if_true_, and_self, ite_true, true_and, true_or, or_true])
set_option maxRecDepth 100000 in
theorem r96_34 (d : Nat) (x1 x2 x3 x5 s0 s1 : Int) : Ev prog clsT X d mc96 34 [(2, 0), (0, x1), (0, x2), (1, x3), (3, 0), (0, x5)] [(1, s1), (1, s0)] (mk E c s (hh g)) =
  (if cmpI .ne ((lcmpI ((land64 s0 ((lxor64 s1 ((-1)))))) 0)) 0 = true then
  (some ((0, (-1)), ((mk E c s (hh g)))))
else
  ((Call prog clsT X d 18 [(2, 30)] ((mk E c s (hh g)))).bind fun r1 => if r1.1.1 = 4 then none else
    Ev prog clsT X d mc96 44 [(2, 0), (0, x1), (0, x2), (1, x3), (3, 0), (0, x5)] (pushR r1.1 [(1, x3)]) r1.2)) :=
  (evk_at (r := (if cmpI .ne ((lcmpI ((land64 s0 ((lxor64 s1 ((-1)))))) 0)) 0 = true then
  (some ((0, (-1)), (mk E c s (hh g))))
else
  ((fget 5658 ((mk E c s (hh g))) 0).bind fun v1 =>
    if (2 : Nat) = 2 ∧ rcv ((mk E c s (hh g))) v1 3 = true then
    ((Call prog clsT X d 18 [(2, v1)] ((mk E c s (hh g)))).bind fun r2 => if r2.1.1 = 4 then none else
    Ev prog clsT X d mc96 44 [(2, 0), (0, x1), (0, x2), (1, x3), (3, 0), (0, x5)] (pushR r2.1 [(1, x3)]) r2.2) else none))) X [0, 3, 8, 13, 23, 26, 34, 44, 57] 11 rfl).trans (by simp (maxSteps := 10000000) only [R30_3, ↓F5658_0, bindI, Option.bind_some, if_true_, and_self, ite_true, true_and, true_or, or_true])
set_option maxRecDepth 100000 in
theorem r96_44 (d : Nat) (x1 x2 x3 x5 s0 s1 : Int) : Ev prog clsT X d mc96 44 [(2, 0), (0, x1), (0, x2), (1, x3), (3, 0), (0, x5)] [(1, s1), (1, s0)] (mk E c s (hh g)) =
  (if cmpI .eq ((lcmpI ((land64 s0 s1)) 0)) 0 = true then
  ((Call prog clsT X d 21 [(2, 30), (0, x1), (0, x2), (1, x3), (0, x5)] ((mk E c s (hh g)))).bind fun r1 => if r1.1.1 = 4 then none else
    Ev prog clsT X d mc96 57 [(2, 0), (0, x1), (0, x2), (1, x3), (3, 0), (0, x5)] (pushR r1.1 []) r1.2)
else
  (some ((0, (-1)), ((mk E c s (hh g)))))) :=
  (evk_at (r := (if cmpI .eq ((lcmpI ((land64 s0 s1)) 0)) 0 = true then
  ((fget 5658 ((mk E c s (hh g))) 0).bind fun v1 =>
    if (2 : Nat) = 2 ∧ rcv ((mk E c s (hh g))) v1 3 = true then
    ((Call prog clsT X d 21 [(2, v1), (0, x1), (0, x2), (1, x3), (0, x5)] ((mk E c s (hh g)))).bind fun r2 => if r2.1.1 = 4 then none else
    Ev prog clsT X d mc96 57 [(2, 0), (0, x1), (0, x2), (1, x3), (3, 0), (0, x5)] (pushR r2.1 []) r2.2) else none)
else
  (some ((0, (-1)), (mk E c s (hh g)))))) X [0, 3, 8, 13, 23, 26, 34, 44, 57] 12 rfl).trans (by simp (maxSteps := 10000000) only [R30_3, ↓F5658_0, bindI, Option.bind_some, if_true_, and_self, ite_true, true_and, true_or, or_true])
set_option maxRecDepth 100000 in
theorem r96_57 (d : Nat) (x1 x2 x3 x5 s0 : Int) : Ev prog clsT X d mc96 57 [(2, 0), (0, x1), (0, x2), (1, x3), (3, 0), (0, x5)] [(0, s0)] (mk E c s (hh g)) =
  (some ((0, s0), ((mk E c s (hh g))))) :=
  (evk_at (r := (some ((0, s0), (mk E c s (hh g))))) X [0, 3, 8, 13, 23, 26, 34, 44, 57] 2 rfl).trans (by simp (maxSteps := 10000000) only [bindI, Option.bind_some, if_true_, and_self, ite_true, true_and, true_or, or_true])
set_option maxRecDepth 100000 in
theorem r97_0 (d : Nat) (x1 : Int) : Ev prog clsT X d mc97 0 [(2, 0), (0, x1)] [] (mk E c s (hh g)) =
  ((Call prog clsT X d 90 [(0, x1), (0, 0), (0, 9)] ((mk E c s (hh g)))).bind fun r1 => if r1.1.1 = 4 then none else
  Ev prog clsT X d mc97 4 [(2, 0), (0, x1)] (pushR r1.1 []) r1.2) :=
  evk_at X [0, 4] 5 rfl
set_option maxRecDepth 100000 in
theorem rc97_ (d : Nat) (x1 : Int) : Call prog clsT X (d + 1) 97 [(2, 0), (0, x1)] (mk E c s (hh g)) =
  ((Call prog clsT X d 90 [(0, x1), (0, 0), (0, 9)] ((mk E c s (hh g)))).bind fun r1 => if r1.1.1 = 4 then none else
  Ev prog clsT X d mc97 4 [(2, 0), (0, x1)] (pushR r1.1 []) r1.2) :=
  (show Call prog clsT X (d + 1) 97 [(2, 0), (0, x1)] (mk E c s (hh g)) = Ev prog clsT X d mc97 0 [(2, 0), (0, x1)] [] (mk E c s (hh g)) from rfl).trans (r97_0 X E c s g d x1 )
set_option maxRecDepth 100000 in
theorem r97_4 (d : Nat) (x1 s0 : Int) : Ev prog clsT X d mc97 4 [(2, 0), (0, x1)] [(0, s0)] (mk E c s (hh g)) =
  (if cmpI .eq s0 0 = true then
  (some ((2, (-1)), ((mk E c s (hh g)))))
else
  (if inb x1 10 = true then
    (some ((2, (g 16 (Int.toNat x1))), ((mk E c s (hh g)))))
  else none)) :=
  (evk_at (r := (if cmpI .eq s0 0 = true then
  (some ((2, (-1)), (mk E c s (hh g))))
else
  ((fget 5642 ((mk E c s (hh g))) 0).bind fun v1 =>
    if (lay? ((mk E c s (hh g))) v1).1 = 104 ∨ (lay? ((mk E c s (hh g))) v1).1 = 105 then (aget X (lay? ((mk E c s (hh g))) v1).1 ((mk E c s (hh g))) v1 x1).bind fun v2 =>
    (some ((2, v2), (mk E c s (hh g)))) else none))) X [0, 4] 8 rfl).trans (by simp (maxSteps := 10000000) only [lay_16, ↓A16, ↓F5642_0, bindI, Option.bind_some, if_true_, and_self, ite_true, true_and, true_or, or_true])
set_option maxRecDepth 100000 in
theorem r98_0 (d : Nat) (x1 x2 : Int) : Ev prog clsT X d mc98 0 [(2, 0), (0, x1), (0, x2), (3, 0), (3, 0), (3, 0), (3, 0), (3, 0)] [] (mk E c s (hh g)) =
  ((Call prog clsT X d 97 [(2, 0), (0, x1)] ((mk E c s (hh g)))).bind fun r1 => if r1.1.1 = 4 then none else
  Ev prog clsT X d mc98 3 [(2, 0), (0, x1), (0, x2), (3, 0), (3, 0), (3, 0), (3, 0), (3, 0)] (pushR r1.1 []) r1.2) :=
  (evk_at (r := (if (2 : Nat) = 2 ∧ rcv ((mk E c s (hh g))) 0 12 = true then
  ((Call prog clsT X d 97 [(2, 0), (0, x1)] ((mk E c s (hh g)))).bind fun r1 => if r1.1.1 = 4 then none else
  Ev prog clsT X d mc98 3 [(2, 0), (0, x1), (0, x2), (3, 0), (3, 0), (3, 0), (3, 0), (3, 0)] (pushR r1.1 []) r1.2) else none)) X [0, 3, 13, 21, 27, 42] 4 rfl).trans (by simp (maxSteps := 10000000) only [R0_12, bindI, Option.bind_some, if_true_, and_self, ite_true, true_and, true_or, or_true])
set_option maxRecDepth 100000 in
theorem rc98_ (d : Nat) (x1 x2 : Int) : Call prog clsT X (d + 1) 98 [(2, 0), (0, x1), (0, x2)] (mk E c s (hh g)) =
  ((Call prog clsT X d 97 [(2, 0), (0, x1)] ((mk E c s (hh g)))).bind fun r1 => if r1.1.1 = 4 then none else
  Ev prog clsT X d mc98 3 [(2, 0), (0, x1), (0, x2), (3, 0), (3, 0), (3, 0), (3, 0), (3, 0)] (pushR r1.1 []) r1.2) :=
  (show Call prog clsT X (d + 1) 98 [(2, 0), (0, x1), (0, x2)] (mk E c s (hh g)) = Ev prog clsT X d mc98 0 [(2, 0), (0, x1), (0, x2), (3, 0), (3, 0), (3, 0), (3, 0), (3, 0)] [] (mk E c s (hh g)) from rfl).trans (r98_0 X E c s g d x1 x2 )
set_option maxRecDepth 100000 in
theorem r98_3 (d : Nat) (x1 x2 s0 : Int) : Ev prog clsT X d mc98 3 [(2, 0), (0, x1), (0, x2), (3, 0), (3, 0), (3, 0), (3, 0), (3, 0)] [(2, s0)] (mk E c s (hh g)) =
  (if (2 : Nat) = 2 ∧ s0 ≠ -5 then (if (decide (s0 = -1)) = true then
  (some ((0, (-1)), ((mk E c s (hh g)))))
else
  ((fget 3584 ((mk E c s (hh g))) s0).bind fun v1 =>
    if cmpI .eq v1 0 = true then
    (some ((0, (-1)), ((mk E c s (hh g)))))
  else
    ((Call prog clsT X d 90 [(0, x2), (0, 0), (0, 1)] ((mk E c s (hh g)))).bind fun r2 => if r2.1.1 = 4 then none else
      Ev prog clsT X d mc98 13 [(2, 0), (0, x1), (0, x2), (2, s0), (3, 0), (3, 0), (3, 0), (3, 0)] (pushR r2.1 []) r2.2))) else none) :=
  (evk_at (r := (if (2 : Nat) = 2 ∧ s0 ≠ -5 then (if (decide (s0 = -1)) = true then
  (some ((0, (-1)), (mk E c s (hh g))))
else
  ((fget 3584 ((mk E c s (hh g))) s0).bind fun v1 =>
    if cmpI .eq v1 0 = true then
    (some ((0, (-1)), (mk E c s (hh g))))
  else
    ((Call prog clsT X d 90 [(0, x2), (0, 0), (0, 1)] ((mk E c s (hh g)))).bind fun r2 => if r2.1.1 = 4 then none else
      Ev prog clsT X d mc98 13 [(2, 0), (0, x1), (0, x2), (2, s0), (3, 0), (3, 0), (3, 0), (3, 0)] (pushR r2.1 []) r2.2))) else none)) X [0, 3, 13, 21, 27, 42] 11 rfl).trans (by simp (maxSteps := 10000000) only [bindI, Option.bind_some, if_true_, and_self, ite_true, true_and, true_or, or_true])
set_option maxRecDepth 100000 in
theorem r98_13 (d : Nat) (x1 x2 x3 s0 : Int) : Ev prog clsT X d mc98 13 [(2, 0), (0, x1), (0, x2), (2, x3), (3, 0), (3, 0), (3, 0), (3, 0)] [(0, s0)] (mk E c s (hh g)) =
  (if cmpI .ne s0 0 = true then
  ((fget 3584 ((mk E c s (hh g))) x3).bind fun v1 =>
    (Call prog clsT X d 71 [(2, 27), (0, v1)] ((mk E c s (hh g)))).bind fun r2 => if r2.1.1 = 4 then none else
    Ev prog clsT X d mc98 21 [(2, 0), (0, x1), (0, x2), (2, x3), (3, 0), (3, 0), (3, 0), (3, 0)] (pushR r2.1 []) r2.2)
else
  (some ((0, (-1)), ((mk E c s (hh g)))))) :=
  (evk_at (r := (if cmpI .ne s0 0 = true then
  ((fget 5654 ((mk E c s (hh g))) 0).bind fun v1 =>
    (fget 3584 ((mk E c s (hh g))) x3).bind fun v2 =>
    if (2 : Nat) = 2 ∧ rcv ((mk E c s (hh g))) v1 9 = true then
    ((Call prog clsT X d 71 [(2, v1), (0, v2)] ((mk E c s (hh g)))).bind fun r3 => if r3.1.1 = 4 then none else
    Ev prog clsT X d mc98 21 [(2, 0), (0, x1), (0, x2), (2, x3), (3, 0), (3, 0), (3, 0), (3, 0)] (pushR r3.1 []) r3.2) else none)
else
  (some ((0, (-1)), (mk E c s (hh g)))))) X [0, 3, 13, 21, 27, 42] 7 rfl).trans (by simp (maxSteps := 10000000) only [R27_9, ↓F5654_0, bindI, Option.bind_some, if_true_, and_self, ite_true, true_and, true_or, or_true])
set_option maxRecDepth 100000 in
theorem r98_21 (d : Nat) (x1 x2 x3 : Int) : Ev prog clsT X d mc98 21 [(2, 0), (0, x1), (0, x2), (2, x3), (3, 0), (3, 0), (3, 0), (3, 0)] [] (mk E c s (hh g)) =
  (Ev prog clsT X d mc98 27 [(2, 0), (0, x1), (0, x2), (2, x3), (0, 0), (0, (-1)), (0, 1), (3, 0)] [] (mk E c s (hh g))) :=
  evk_at X [0, 3, 13, 21, 27, 42] 8 rfl
set_option maxRecDepth 100000 in
theorem r98_27 (d : Nat) (x2 x3 x4 x5 x6 : Int) (w1 w7 : MV) : Ev prog clsT X d mc98 27 [(2, 0), w1, (0, x2), (2, x3), (0, x4), (0, x5), (0, x6), w7] [] (mk E c s (hh g)) =
  (if cmpI .gt x6 99 = true then
  (if cmpI .ne x2 0 = true then
    (some ((0, x5), ((mk E c s (hh g)))))
  else
    (some ((0, x4), ((mk E c s (hh g))))))
else
  ((Call prog clsT X d 72 [(2, 27), (2, x3), (2, (g 0 3))] ((mk E c s (hh (up g 28 7 x6))))).bind fun r1 => if r1.1.1 = 4 then none else
    Ev prog clsT X d mc98 42 [(2, 0), (3, 0), (0, x2), (2, x3), (0, x4), (0, x5), (0, x6), (3, 0)] (pushR r1.1 []) r1.2)) :=
  (evk_at (r := (if cmpI .gt x6 99 = true then
  (if cmpI .ne x2 0 = true then
    (some ((0, x5), (mk E c s (hh g))))
  else
    (some ((0, x4), (mk E c s (hh g)))))
else
  ((fget 5654 ((mk E c s (hh g))) 0).bind fun v1 =>
    (fget 4098 ((mk E c s (hh g))) v1).bind fun v2 =>
    (aput 100 ((mk E c s (hh g))) v2 7 (x6)).bind fun M3 =>
    (fget 5654 M3 0).bind fun v4 =>
    (fget 5646 M3 0).bind fun v5 =>
    if (2 : Nat) = 2 ∧ rcv M3 v4 9 = true then
    ((Call prog clsT X d 72 [(2, v4), (2, x3), (2, v5)] M3).bind fun r6 => if r6.1.1 = 4 then none else
    Ev prog clsT X d mc98 42 [(2, 0), (3, 0), (0, x2), (2, x3), (0, x4), (0, x5), (0, x6), (3, 0)] (pushR r6.1 []) r6.2) else none))) X [0, 3, 13, 21, 27, 42] 16 rfl).trans (by simp (maxSteps := 10000000) only [R27_9, inbL 7 11 rfl, tn7, uc_28_0, ↓F4098_27, ↓F5646_0, ↓F5654_0, ↓S28, bindI, Option.bind_some, if_true_, and_self, ite_true, true_and, true_or, or_true])
set_option maxRecDepth 100000 in
theorem r98_42 (d : Nat) (x2 x3 x4 x5 x6 s0 : Int) : Ev prog clsT X d mc98 42 [(2, 0), (3, 0), (0, x2), (2, x3), (0, x4), (0, x5), (0, x6), (3, 0)] [(0, s0)] (mk E c s (hh g)) =
  (if cmpI .eq s0 ((-1)) = true then
  (Ev prog clsT X d mc98 27 [(2, 0), (3, 0), (0, x2), (2, x3), (0, x4), (0, x5), (0, (w32 (x6 + 1))), (0, s0)] [] (mk E c s (hh g)))
else
  (if cmpI .ne x4 0 = true then
    (Ev prog clsT X d mc98 27 [(2, 0), (3, 0), (0, x2), (2, x3), (0, (w32 (x4 + 1))), (0, x5), (0, (w32 (x6 + 1))), (0, s0)] [] (mk E c s (hh g)))
  else
    (Ev prog clsT X d mc98 27 [(2, 0), (3, 0), (0, x2), (2, x3), (0, (w32 (x4 + 1))), (0, s0), (0, (w32 (x6 + 1))), (0, s0)] [] (mk E c s (hh g))))) :=
  evk_at X [0, 3, 13, 21, 27, 42] 14 rfl
set_option maxRecDepth 100000 in
theorem r99_0 (d : Nat) (x1 : Int) : Ev prog clsT X d mc99 0 [(2, 0), (0, x1)] [] (mk E c s (hh g)) =
  ((Call prog clsT X d 19 [(2, 30), (0, x1)] ((mk E c s (hh g)))).bind fun r1 => if r1.1.1 = 4 then none else
  Ev prog clsT X d mc99 4 [(2, 0), (0, x1)] (pushR r1.1 []) r1.2) :=
  (evk_at (r := ((fget 5658 ((mk E c s (hh g))) 0).bind fun v1 =>
  if (2 : Nat) = 2 ∧ rcv ((mk E c s (hh g))) v1 3 = true then
  ((Call prog clsT X d 19 [(2, v1), (0, x1)] ((mk E c s (hh g)))).bind fun r2 => if r2.1.1 = 4 then none else
  Ev prog clsT X d mc99 4 [(2, 0), (0, x1)] (pushR r2.1 []) r2.2) else none)) X [0, 4] 5 rfl).trans (by simp (maxSteps := 10000000) only [R30_3, ↓F5658_0, bindI, Option.bind_some, if_true_, and_self, ite_true, true_and, true_or, or_true])
set_option maxRecDepth 100000 in
theorem rc99_ (d : Nat) (x1 : Int) : Call prog clsT X (d + 1) 99 [(2, 0), (0, x1)] (mk E c s (hh g)) =
  ((Call prog clsT X d 19 [(2, 30), (0, x1)] ((mk E c s (hh g)))).bind fun r1 => if r1.1.1 = 4 then none else
  Ev prog clsT X d mc99 4 [(2, 0), (0, x1)] (pushR r1.1 []) r1.2) :=
  (show Call prog clsT X (d + 1) 99 [(2, 0), (0, x1)] (mk E c s (hh g)) = Ev prog clsT X d mc99 0 [(2, 0), (0, x1)] [] (mk E c s (hh g)) from rfl).trans (r99_0 X E c s g d x1 )
set_option maxRecDepth 100000 in
theorem r99_4 (d : Nat) (x1 s0 : Int) : Ev prog clsT X d mc99 4 [(2, 0), (0, x1)] [(0, s0)] (mk E c s (hh g)) =
  (if cmpI .ne s0 0 = true then
  (some ((0, 1), ((mk E c s (hh (up g 30 1 ((land64 ((g 30 1)) ((lxor64 ((lshl64 1 x1)) ((-1))))))))))))
else
  (some ((0, 0), ((mk E c s (hh g)))))) :=
  (evk_at (r := (if cmpI .ne s0 0 = true then
  ((fget 5658 ((mk E c s (hh g))) 0).bind fun v1 =>
    (fget 1029 ((mk E c s (hh g))) v1).bind fun v2 =>
    (fput 1029 ((mk E c s (hh g))) v1 ((land64 v2 ((lxor64 ((lshl64 1 x1)) ((-1))))))).bind fun M3 =>
    some ((0, 1), M3))
else
  (some ((0, 0), (mk E c s (hh g)))))) X [0, 4] 15 rfl).trans (by simp (maxSteps := 10000000) only [↓F1029_30, ↓F5658_0, ↓W1029_30, bindI, Option.bind_some, if_true_, and_self, ite_true, true_and, true_or, or_true])
set_option maxRecDepth 100000 in
theorem r100_0 (d : Nat) (x1 x2 : Int) : Ev prog clsT X d mc100 0 [(2, 0), (0, x1), (0, x2)] [] (mk E c s (hh g)) =
  ((Call prog clsT X d 20 [(2, 30), (0, x1)] ((mk E c s (hh g)))).bind fun r1 => if r1.1.1 = 4 then none else
  Ev prog clsT X d mc100 4 [(2, 0), (0, x1), (0, x2)] (pushR r1.1 []) r1.2) :=
  (evk_at (r := ((fget 5658 ((mk E c s (hh g))) 0).bind fun v1 =>
  if (2 : Nat) = 2 ∧ rcv ((mk E c s (hh g))) v1 3 = true then
  ((Call prog clsT X d 20 [(2, v1), (0, x1)] ((mk E c s (hh g)))).bind fun r2 => if r2.1.1 = 4 then none else
  Ev prog clsT X d mc100 4 [(2, 0), (0, x1), (0, x2)] (pushR r2.1 []) r2.2) else none)) X [0, 4, 13] 5 rfl).trans (by simp (maxSteps := 10000000) only [R30_3, ↓F5658_0, bindI, Option.bind_some, if_true_, and_self, ite_true, true_and, true_or, or_true])
set_option maxRecDepth 100000 in
theorem rc100_ (d : Nat) (x1 x2 : Int) : Call prog clsT X (d + 1) 100 [(2, 0), (0, x1), (0, x2)] (mk E c s (hh g)) =
  ((Call prog clsT X d 20 [(2, 30), (0, x1)] ((mk E c s (hh g)))).bind fun r1 => if r1.1.1 = 4 then none else
  Ev prog clsT X d mc100 4 [(2, 0), (0, x1), (0, x2)] (pushR r1.1 []) r1.2) :=
  (show Call prog clsT X (d + 1) 100 [(2, 0), (0, x1), (0, x2)] (mk E c s (hh g)) = Ev prog clsT X d mc100 0 [(2, 0), (0, x1), (0, x2)] [] (mk E c s (hh g)) from rfl).trans (r100_0 X E c s g d x1 x2 )
set_option maxRecDepth 100000 in
theorem r100_4 (d : Nat) (x1 x2 s0 : Int) : Ev prog clsT X d mc100 4 [(2, 0), (0, x1), (0, x2)] [(0, s0)] (mk E c s (hh g)) =
  (if cmpI .eq s0 0 = true then
  (some ((0, 0), ((mk E c s (hh g)))))
else
  (if inb x1 40 = true then
    ((Call prog clsT X d 90 [(0, x2), (0, 0), (0, (g 34 (Int.toNat x1)))] ((mk E c s (hh g)))).bind fun r1 => if r1.1.1 = 4 then none else
    Ev prog clsT X d mc100 13 [(2, 0), (0, x1), (0, x2)] (pushR r1.1 []) r1.2)
  else none)) :=
  (evk_at (r := (if cmpI .eq s0 0 = true then
  (some ((0, 0), (mk E c s (hh g))))
else
  ((fget 5658 ((mk E c s (hh g))) 0).bind fun v1 =>
    (fget 1046 ((mk E c s (hh g))) v1).bind fun v2 =>
    (aget X 100 ((mk E c s (hh g))) v2 x1).bind fun v3 =>
    (Call prog clsT X d 90 [(0, x2), (0, 0), (0, v3)] ((mk E c s (hh g)))).bind fun r4 => if r4.1.1 = 4 then none else
    Ev prog clsT X d mc100 13 [(2, 0), (0, x1), (0, x2)] (pushR r4.1 []) r4.2))) X [0, 4, 13] 10 rfl).trans (by simp (maxSteps := 10000000) only [↓A34, ↓F1046_30, ↓F5658_0, bindI, Option.bind_some, if_true_, and_self, ite_true, true_and, true_or, or_true])
set_option maxRecDepth 100000 in
theorem r100_13 (d : Nat) (x1 x2 s0 : Int) : Ev prog clsT X d mc100 13 [(2, 0), (0, x1), (0, x2)] [(0, s0)] (mk E c s (hh g)) =
  (if cmpI .ne s0 0 = true then
  (if inb x1 40 = true then
    (some ((0, 1), ((mk E c s (hh (up g 35 (Int.toNat x1) x2))))))
  else none)
else
  (some ((0, 0), ((mk E c s (hh g)))))) :=
  (evk_at (r := (if cmpI .ne s0 0 = true then
  ((fget 5658 ((mk E c s (hh g))) 0).bind fun v1 =>
    (fget 1050 ((mk E c s (hh g))) v1).bind fun v2 =>
    (aput 100 ((mk E c s (hh g))) v2 x1 (x2)).bind fun M3 =>
    some ((0, 1), M3))
else
  (some ((0, 0), (mk E c s (hh g)))))) X [0, 4, 13] 10 rfl).trans (by simp (maxSteps := 10000000) only [↓F1050_30, ↓F5658_0, ↓S35, bindI, Option.bind_some, if_true_, and_self, ite_true, true_and, true_or, or_true])
end
