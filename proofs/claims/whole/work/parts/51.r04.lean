/-! Part 51.r04: printed by wip/whole/emit6.py: equations with the fixed cells put in. -/
section
variable (X : MExt) (E : List (Nat × Nat)) (c s : Nat) (g : Nat → Nat → Int)
set_option maxRecDepth 100000 in
theorem r127_0 (d : Nat) (x1 : Int) : Ev prog clsT X d mc127 0 [(2, 0), (0, x1), (3, 0), (3, 0)] [] (mk E c s (hh g)) =
  (Ev prog clsT X d mc127 6 [(2, 0), (0, x1), (0, 0), (3, 0)] [] (mk E c s (hh (up g 65 2 0)))) :=
  (evk_at (r := ((fget 5678 ((mk E c s (hh g))) 0).bind fun v1 =>
  (fput 520 ((mk E c s (hh g))) v1 0).bind fun M2 =>
  Ev prog clsT X d mc127 6 [(2, 0), (0, x1), (0, 0), (3, 0)] [] M2)) X [0, 6, 21, 40] 8 rfl).trans (by simp (maxSteps := 10000000) only [↓F5678_0, ↓W520_65, bindI, Option.bind_some, if_true_, and_self, ite_true, true_and, true_or, or_true])
set_option maxRecDepth 100000 in
theorem rc127_ (d : Nat) (x1 : Int) : Call prog clsT X (d + 1) 127 [(2, 0), (0, x1)] (mk E c s (hh g)) =
  (Ev prog clsT X d mc127 6 [(2, 0), (0, x1), (0, 0), (3, 0)] [] (mk E c s (hh (up g 65 2 0)))) :=
  (show Call prog clsT X (d + 1) 127 [(2, 0), (0, x1)] (mk E c s (hh g)) = Ev prog clsT X d mc127 0 [(2, 0), (0, x1), (3, 0), (3, 0)] [] (mk E c s (hh g)) from rfl).trans (r127_0 X E c s g d x1 )
set_option maxRecDepth 100000 in
theorem r127_6 (d : Nat) (x1 x2 : Int) (w3 : MV) : Ev prog clsT X d mc127 6 [(2, 0), (0, x1), (0, x2), w3] [] (mk E c s (hh g)) =
  (if cmpI .ge x2 10 = true then
  (some ((0, 1), ((mk E c s (hh g)))))
else
  (if inb x2 10 = true then
    (if cmpI .eq ((g 39 (Int.toNat x2))) ((-1)) = true then
    ((Call prog clsT X d 128 [(2, 0), (0, x2), (0, x1)] ((mk E c s (hh g)))).bind fun r1 => if r1.1.1 = 4 then none else
      Ev prog clsT X d mc127 21 [(2, 0), (0, x1), (0, x2), (3, 0)] (pushR r1.1 []) r1.2)
  else
    (Ev prog clsT X d mc127 40 [(2, 0), (0, x1), (0, x2), (3, 0)] [] (mk E c s (hh g))))
  else none)) :=
  (evk_at (r := (if cmpI .ge x2 10 = true then
  (some ((0, 1), (mk E c s (hh g))))
else
  ((fget 5662 ((mk E c s (hh g))) 0).bind fun v1 =>
    (fget 2058 ((mk E c s (hh g))) v1).bind fun v2 =>
    (aget X 100 ((mk E c s (hh g))) v2 x2).bind fun v3 =>
    if cmpI .eq v3 ((-1)) = true then
    (if (2 : Nat) = 2 ∧ rcv ((mk E c s (hh g))) 0 12 = true then
      ((Call prog clsT X d 128 [(2, 0), (0, x2), (0, x1)] ((mk E c s (hh g)))).bind fun r4 => if r4.1.1 = 4 then none else
      Ev prog clsT X d mc127 21 [(2, 0), (0, x1), (0, x2), (3, 0)] (pushR r4.1 []) r4.2) else none)
  else
    (Ev prog clsT X d mc127 40 [(2, 0), (0, x1), (0, x2), (3, 0)] [] (mk E c s (hh g)))))) X [0, 6, 21, 40] 15 rfl).trans (by simp (maxSteps := 10000000) only [R0_12, ↓A39, ↓F2058_36, ↓F5662_0, bindI, Option.bind_some, if_true_, and_self, ite_true, true_and, true_or, or_true])
set_option maxRecDepth 100000 in
theorem r127_21 (d : Nat) (x1 x2 s0 : Int) : Ev prog clsT X d mc127 21 [(2, 0), (0, x1), (0, x2), (3, 0)] [(0, s0)] (mk E c s (hh g)) =
  (if cmpI .gt s0 5 = true then
  (some ((0, 0), ((mk E c s (hh g)))))
else
  (if cmpI .le s0 0 = true then
    (if cmpI .le s0 0 = true then
      (Ev prog clsT X d mc127 40 [(2, 0), (0, x1), (0, x2), (0, s0)] [] (mk E c s (hh g)))
    else
      ((Call prog clsT X d 11 [(2, 65), (0, s0)] ((mk E c s (hh g)))).bind fun r1 => if r1.1.1 = 4 then none else
        Ev prog clsT X d mc127 40 [(2, 0), (0, x1), (0, x2), (0, s0)] (pushR r1.1 []) r1.2))
  else
    (if cmpI .lt ((g 65 2)) 3 = true then
      (if cmpI .le s0 0 = true then
        (Ev prog clsT X d mc127 40 [(2, 0), (0, x1), (0, x2), (0, s0)] [] (mk E c s (hh g)))
      else
        ((Call prog clsT X d 11 [(2, 65), (0, s0)] ((mk E c s (hh g)))).bind fun r2 => if r2.1.1 = 4 then none else
          Ev prog clsT X d mc127 40 [(2, 0), (0, x1), (0, x2), (0, s0)] (pushR r2.1 []) r2.2))
    else
      (some ((0, 0), ((mk E c s (hh g)))))))) :=
  (evk_at (r := (if cmpI .gt s0 5 = true then
  (some ((0, 0), (mk E c s (hh g))))
else
  (if cmpI .le s0 0 = true then
    (if cmpI .le s0 0 = true then
      (Ev prog clsT X d mc127 40 [(2, 0), (0, x1), (0, x2), (0, s0)] [] (mk E c s (hh g)))
    else
      ((fget 5678 ((mk E c s (hh g))) 0).bind fun v1 =>
        if (2 : Nat) = 2 ∧ rcv ((mk E c s (hh g))) v1 2 = true then
        ((Call prog clsT X d 11 [(2, v1), (0, s0)] ((mk E c s (hh g)))).bind fun r2 => if r2.1.1 = 4 then none else
        Ev prog clsT X d mc127 40 [(2, 0), (0, x1), (0, x2), (0, s0)] (pushR r2.1 []) r2.2) else none))
  else
    ((fget 5678 ((mk E c s (hh g))) 0).bind fun v3 =>
      (fget 520 ((mk E c s (hh g))) v3).bind fun v4 =>
      if cmpI .lt v4 3 = true then
      (if cmpI .le s0 0 = true then
        (Ev prog clsT X d mc127 40 [(2, 0), (0, x1), (0, x2), (0, s0)] [] (mk E c s (hh g)))
      else
        ((fget 5678 ((mk E c s (hh g))) 0).bind fun v5 =>
          if (2 : Nat) = 2 ∧ rcv ((mk E c s (hh g))) v5 2 = true then
          ((Call prog clsT X d 11 [(2, v5), (0, s0)] ((mk E c s (hh g)))).bind fun r6 => if r6.1.1 = 4 then none else
          Ev prog clsT X d mc127 40 [(2, 0), (0, x1), (0, x2), (0, s0)] (pushR r6.1 []) r6.2) else none))
    else
      (some ((0, 0), (mk E c s (hh g)))))))) X [0, 6, 21, 40] 18 rfl).trans (by simp (maxSteps := 10000000) only [R65_2, ↓F520_65, ↓F5678_0, bindI, Option.bind_some, if_true_, and_self, ite_true, true_and, true_or, or_true])
set_option maxRecDepth 100000 in
theorem r127_40 (d : Nat) (x1 x2 : Int) (w3 : MV) : Ev prog clsT X d mc127 40 [(2, 0), (0, x1), (0, x2), w3] [] (mk E c s (hh g)) =
  (Ev prog clsT X d mc127 6 [(2, 0), (0, x1), (0, (w32 (x2 + 1))), w3] [] (mk E c s (hh g))) :=
  evk_at X [0, 6, 21, 40] 4 rfl
set_option maxRecDepth 100000 in
theorem r128_0 (d : Nat) (x1 x2 : Int) : Ev prog clsT X d mc128 0 [(2, 0), (0, x1), (0, x2), (3, 0), (3, 0), (3, 0), (3, 0)] [] (mk E c s (hh g)) =
  (Ev prog clsT X d mc128 4 [(2, 0), (0, x1), (0, x2), (0, 0), (0, 0), (3, 0), (3, 0)] [] (mk E c s (hh g))) :=
  evk_at X [0, 4, 9, 37, 42, 47, 50, 65] 6 rfl
set_option maxRecDepth 100000 in
theorem rc128_ (d : Nat) (x1 x2 : Int) : Call prog clsT X (d + 1) 128 [(2, 0), (0, x1), (0, x2)] (mk E c s (hh g)) =
  (Ev prog clsT X d mc128 4 [(2, 0), (0, x1), (0, x2), (0, 0), (0, 0), (3, 0), (3, 0)] [] (mk E c s (hh g))) :=
  (show Call prog clsT X (d + 1) 128 [(2, 0), (0, x1), (0, x2)] (mk E c s (hh g)) = Ev prog clsT X d mc128 0 [(2, 0), (0, x1), (0, x2), (3, 0), (3, 0), (3, 0), (3, 0)] [] (mk E c s (hh g)) from rfl).trans (r128_0 X E c s g d x1 x2 )
set_option maxRecDepth 100000 in
theorem r128_4 (d : Nat) (x1 x2 x3 x4 : Int) (w5 w6 : MV) : Ev prog clsT X d mc128 4 [(2, 0), (0, x1), (0, x2), (0, x3), (0, x4), w5, w6] [] (mk E c s (hh g)) =
  (if cmpI .ge x4 2 = true then
  (some ((0, x3), ((mk E c s (hh g)))))
else
  (Ev prog clsT X d mc128 9 [(2, 0), (0, x1), (0, x2), (0, x3), (0, x4), (0, 0), (3, 0)] [] (mk E c s (hh g)))) :=
  (evk_at (r := (if cmpI .ge x4 2 = true then
  (some ((0, x3), (mk E c s (hh g))))
else
  (Ev prog clsT X d mc128 9 [(2, 0), (0, x1), (0, x2), (0, x3), (0, x4), (0, 0), (3, 0)] [] (mk E c s (hh g))))) X [0, 4, 9, 37, 42, 47, 50, 65] 7 rfl).trans (by simp (maxSteps := 10000000) only [bindI, Option.bind_some, if_true_, and_self, ite_true, true_and, true_or, or_true])
set_option maxRecDepth 100000 in
theorem r128_9 (d : Nat) (x1 x2 x3 x4 x5 : Int) (w6 : MV) : Ev prog clsT X d mc128 9 [(2, 0), (0, x1), (0, x2), (0, x3), (0, x4), (0, x5), w6] [] (mk E c s (hh g)) =
  (if cmpI .ge x5 ((g 30 0)) = true then
  (Ev prog clsT X d mc128 4 [(2, 0), (0, x1), (0, x2), (0, x3), (0, (w32 (x4 + 1))), (0, x5), (3, 0)] [] (mk E c s (hh g)))
else
  (if inb x5 40 = true then
    (if cmpI .ne ((g 32 (Int.toNat x5))) x2 = true then
    (if cmpI .ne x4 0 = true then
      (if cmpI .ne 0 0 = true then
        (Ev prog clsT X d mc128 9 [(2, 0), (0, x1), (0, x2), (0, x3), (0, x4), (0, (w32 (x5 + 1))), (0, (g 32 (Int.toNat x5)))] [] (mk E c s (hh g)))
      else
        ((Call prog clsT X d 22 [(2, 30), (0, x5), (0, x1)] ((mk E c s (hh g)))).bind fun r1 => if r1.1.1 = 4 then none else
          Ev prog clsT X d mc128 37 [(2, 0), (0, x1), (0, x2), (0, x3), (0, x4), (0, x5), (0, (g 32 (Int.toNat x5)))] (pushR r1.1 []) r1.2))
    else
      (if cmpI .ne 0 1 = true then
        (Ev prog clsT X d mc128 9 [(2, 0), (0, x1), (0, x2), (0, x3), (0, x4), (0, (w32 (x5 + 1))), (0, (g 32 (Int.toNat x5)))] [] (mk E c s (hh g)))
      else
        ((Call prog clsT X d 22 [(2, 30), (0, x5), (0, x1)] ((mk E c s (hh g)))).bind fun r2 => if r2.1.1 = 4 then none else
          Ev prog clsT X d mc128 37 [(2, 0), (0, x1), (0, x2), (0, x3), (0, x4), (0, x5), (0, (g 32 (Int.toNat x5)))] (pushR r2.1 []) r2.2)))
  else
    (if cmpI .ne x4 0 = true then
      (if cmpI .ne 1 0 = true then
        (Ev prog clsT X d mc128 9 [(2, 0), (0, x1), (0, x2), (0, x3), (0, x4), (0, (w32 (x5 + 1))), (0, (g 32 (Int.toNat x5)))] [] (mk E c s (hh g)))
      else
        ((Call prog clsT X d 22 [(2, 30), (0, x5), (0, x1)] ((mk E c s (hh g)))).bind fun r3 => if r3.1.1 = 4 then none else
          Ev prog clsT X d mc128 37 [(2, 0), (0, x1), (0, x2), (0, x3), (0, x4), (0, x5), (0, (g 32 (Int.toNat x5)))] (pushR r3.1 []) r3.2))
    else
      (if cmpI .ne 1 1 = true then
        (Ev prog clsT X d mc128 9 [(2, 0), (0, x1), (0, x2), (0, x3), (0, x4), (0, (w32 (x5 + 1))), (0, (g 32 (Int.toNat x5)))] [] (mk E c s (hh g)))
      else
        ((Call prog clsT X d 22 [(2, 30), (0, x5), (0, x1)] ((mk E c s (hh g)))).bind fun r4 => if r4.1.1 = 4 then none else
          Ev prog clsT X d mc128 37 [(2, 0), (0, x1), (0, x2), (0, x3), (0, x4), (0, x5), (0, (g 32 (Int.toNat x5)))] (pushR r4.1 []) r4.2))))
  else none)) :=
  (evk_at (r := ((fget 5658 ((mk E c s (hh g))) 0).bind fun v1 =>
  (fget 1024 ((mk E c s (hh g))) v1).bind fun v2 =>
  if cmpI .ge x5 v2 = true then
  (Ev prog clsT X d mc128 4 [(2, 0), (0, x1), (0, x2), (0, x3), (0, (w32 (x4 + 1))), (0, x5), (3, 0)] [] (mk E c s (hh g)))
else
  ((fget 5658 ((mk E c s (hh g))) 0).bind fun v3 =>
    (fget 1038 ((mk E c s (hh g))) v3).bind fun v4 =>
    (aget X 100 ((mk E c s (hh g))) v4 x5).bind fun v5 =>
    if cmpI .ne v5 x2 = true then
    (if cmpI .ne x4 0 = true then
      (if cmpI .ne 0 0 = true then
        (Ev prog clsT X d mc128 9 [(2, 0), (0, x1), (0, x2), (0, x3), (0, x4), (0, (w32 (x5 + 1))), (0, v5)] [] (mk E c s (hh g)))
      else
        ((fget 5658 ((mk E c s (hh g))) 0).bind fun v6 =>
          if (2 : Nat) = 2 ∧ rcv ((mk E c s (hh g))) v6 3 = true then
          ((Call prog clsT X d 22 [(2, v6), (0, x5), (0, x1)] ((mk E c s (hh g)))).bind fun r7 => if r7.1.1 = 4 then none else
          Ev prog clsT X d mc128 37 [(2, 0), (0, x1), (0, x2), (0, x3), (0, x4), (0, x5), (0, v5)] (pushR r7.1 []) r7.2) else none))
    else
      (if cmpI .ne 0 1 = true then
        (Ev prog clsT X d mc128 9 [(2, 0), (0, x1), (0, x2), (0, x3), (0, x4), (0, (w32 (x5 + 1))), (0, v5)] [] (mk E c s (hh g)))
      else
        ((fget 5658 ((mk E c s (hh g))) 0).bind fun v8 =>
          if (2 : Nat) = 2 ∧ rcv ((mk E c s (hh g))) v8 3 = true then
          ((Call prog clsT X d 22 [(2, v8), (0, x5), (0, x1)] ((mk E c s (hh g)))).bind fun r9 => if r9.1.1 = 4 then none else
          Ev prog clsT X d mc128 37 [(2, 0), (0, x1), (0, x2), (0, x3), (0, x4), (0, x5), (0, v5)] (pushR r9.1 []) r9.2) else none)))
  else
    (if cmpI .ne x4 0 = true then
      (if cmpI .ne 1 0 = true then
        (Ev prog clsT X d mc128 9 [(2, 0), (0, x1), (0, x2), (0, x3), (0, x4), (0, (w32 (x5 + 1))), (0, v5)] [] (mk E c s (hh g)))
      else
        ((fget 5658 ((mk E c s (hh g))) 0).bind fun v10 =>
          if (2 : Nat) = 2 ∧ rcv ((mk E c s (hh g))) v10 3 = true then
          ((Call prog clsT X d 22 [(2, v10), (0, x5), (0, x1)] ((mk E c s (hh g)))).bind fun r11 => if r11.1.1 = 4 then none else
          Ev prog clsT X d mc128 37 [(2, 0), (0, x1), (0, x2), (0, x3), (0, x4), (0, x5), (0, v5)] (pushR r11.1 []) r11.2) else none))
    else
      (if cmpI .ne 1 1 = true then
        (Ev prog clsT X d mc128 9 [(2, 0), (0, x1), (0, x2), (0, x3), (0, x4), (0, (w32 (x5 + 1))), (0, v5)] [] (mk E c s (hh g)))
      else
        ((fget 5658 ((mk E c s (hh g))) 0).bind fun v12 =>
          if (2 : Nat) = 2 ∧ rcv ((mk E c s (hh g))) v12 3 = true then
          ((Call prog clsT X d 22 [(2, v12), (0, x5), (0, x1)] ((mk E c s (hh g)))).bind fun r13 => if r13.1.1 = 4 then none else
          Ev prog clsT X d mc128 37 [(2, 0), (0, x1), (0, x2), (0, x3), (0, x4), (0, x5), (0, v5)] (pushR r13.1 []) r13.2) else none)))))) X [0, 4, 9, 37, 42, 47, 50, 65] 27 rfl).trans (by simp (maxSteps := 10000000) only [R30_3, ↓A32, ↓F1024_30, ↓F1038_30, ↓F5658_0, bindI, Option.bind_some, if_true_, and_self, ite_true, true_and, true_or, or_true])
set_option maxRecDepth 100000 in
theorem r128_37 (d : Nat) (x1 x2 x3 x4 x5 x6 s0 : Int) : Ev prog clsT X d mc128 37 [(2, 0), (0, x1), (0, x2), (0, x3), (0, x4), (0, x5), (0, x6)] [(0, s0)] (mk E c s (hh g)) =
  (if cmpI .ne s0 0 = true then
  ((Call prog clsT X d 108 [(2, 0), (0, x5)] ((mk E c s (hh g)))).bind fun r1 => if r1.1.1 = 4 then none else
    Ev prog clsT X d mc128 42 [(2, 0), (0, x1), (0, x2), (0, x3), (0, x4), (0, x5), (0, x6)] (pushR r1.1 []) r1.2)
else
  (Ev prog clsT X d mc128 9 [(2, 0), (0, x1), (0, x2), (0, x3), (0, x4), (0, (w32 (x5 + 1))), (0, x6)] [] (mk E c s (hh g)))) :=
  (evk_at (r := (if cmpI .ne s0 0 = true then
  (if (2 : Nat) = 2 ∧ rcv ((mk E c s (hh g))) 0 12 = true then
    ((Call prog clsT X d 108 [(2, 0), (0, x5)] ((mk E c s (hh g)))).bind fun r1 => if r1.1.1 = 4 then none else
    Ev prog clsT X d mc128 42 [(2, 0), (0, x1), (0, x2), (0, x3), (0, x4), (0, x5), (0, x6)] (pushR r1.1 []) r1.2) else none)
else
  (Ev prog clsT X d mc128 9 [(2, 0), (0, x1), (0, x2), (0, x3), (0, x4), (0, (w32 (x5 + 1))), (0, x6)] [] (mk E c s (hh g))))) X [0, 4, 9, 37, 42, 47, 50, 65] 6 rfl).trans (by simp (maxSteps := 10000000) only [R0_12, bindI, Option.bind_some, if_true_, and_self, ite_true, true_and, true_or, or_true])
set_option maxRecDepth 100000 in
theorem r128_42 (d : Nat) (x1 x2 x3 x4 x5 x6 : Int) : Ev prog clsT X d mc128 42 [(2, 0), (0, x1), (0, x2), (0, x3), (0, x4), (0, x5), (0, x6)] [] (mk E c s (hh g)) =
  ((Call prog clsT X d 97 [(2, 0), (0, x1)] ((mk E c s (hh g)))).bind fun r1 => if r1.1.1 = 4 then none else
  Ev prog clsT X d mc128 47 [(2, 0), (0, x1), (0, x2), (0, x3), (0, x4), (0, x5), (0, x6)] (pushR r1.1 [(2, 27)]) r1.2) :=
  (evk_at (r := ((fget 5654 ((mk E c s (hh g))) 0).bind fun v1 =>
  if (2 : Nat) = 2 ∧ rcv ((mk E c s (hh g))) 0 12 = true then
  ((Call prog clsT X d 97 [(2, 0), (0, x1)] ((mk E c s (hh g)))).bind fun r2 => if r2.1.1 = 4 then none else
  Ev prog clsT X d mc128 47 [(2, 0), (0, x1), (0, x2), (0, x3), (0, x4), (0, x5), (0, x6)] (pushR r2.1 [(2, v1)]) r2.2) else none)) X [0, 4, 9, 37, 42, 47, 50, 65] 6 rfl).trans (by simp (maxSteps := 10000000) only [R0_12, ↓F5654_0, bindI, Option.bind_some, if_true_, and_self, ite_true, true_and, true_or, or_true])
set_option maxRecDepth 100000 in
theorem r128_47 (d : Nat) (x1 x2 x3 x4 x5 x6 s1 : Int) : Ev prog clsT X d mc128 47 [(2, 0), (0, x1), (0, x2), (0, x3), (0, x4), (0, x5), (0, x6)] [(2, s1), (2, 27)] (mk E c s (hh g)) =
  ((Call prog clsT X d 72 [(2, 27), (2, s1), (2, (g 0 3))] ((mk E c s (hh g)))).bind fun r1 => if r1.1.1 = 4 then none else
  Ev prog clsT X d mc128 50 [(2, 0), (0, x1), (0, x2), (0, x3), (0, x4), (0, x5), (0, x6)] (pushR r1.1 []) r1.2) :=
  (evk_at (r := ((fget 5646 ((mk E c s (hh g))) 0).bind fun v1 =>
  if (2 : Nat) = 2 ∧ rcv ((mk E c s (hh g))) 27 9 = true then
  ((Call prog clsT X d 72 [(2, 27), (2, s1), (2, v1)] ((mk E c s (hh g)))).bind fun r2 => if r2.1.1 = 4 then none else
  Ev prog clsT X d mc128 50 [(2, 0), (0, x1), (0, x2), (0, x3), (0, x4), (0, x5), (0, x6)] (pushR r2.1 []) r2.2) else none)) X [0, 4, 9, 37, 42, 47, 50, 65] 4 rfl).trans (by simp (maxSteps := 10000000) only [R27_9, ↓F5646_0, bindI, Option.bind_some, if_true_, and_self, ite_true, true_and, true_or, or_true])
set_option maxRecDepth 100000 in
theorem r128_50 (d : Nat) (x1 x2 x3 x4 x5 x6 s0 : Int) : Ev prog clsT X d mc128 50 [(2, 0), (0, x1), (0, x2), (0, x3), (0, x4), (0, x5), (0, x6)] [(0, s0)] (mk E c s (hh g)) =
  (if cmpI .ne s0 ((-1)) = true then
  (Ev prog clsT X d mc128 9 [(2, 0), (0, x1), (0, x2), (0, x3), (0, x4), (0, (w32 (x5 + 1))), (0, x6)] [] (mk E c s (hh g)))
else
  (if inb x6 10 = true then
    (if cmpI .eq ((g 4 (Int.toNat x6))) 0 = true then
    ((Call prog clsT X d 10 [(2, 65), (0, x3), (0, x6)] ((mk E c s (hh g)))).bind fun r1 => if r1.1.1 = 4 then none else
      Ev prog clsT X d mc128 65 [(2, 0), (0, x1), (0, x2), (0, x3), (0, x4), (0, x5), (0, x6)] (pushR r1.1 []) r1.2)
  else
    ((Call prog clsT X d 10 [(2, 65), (0, x3), (0, 10)] ((mk E c s (hh g)))).bind fun r2 => if r2.1.1 = 4 then none else
      Ev prog clsT X d mc128 65 [(2, 0), (0, x1), (0, x2), (0, x3), (0, x4), (0, x5), (0, x6)] (pushR r2.1 []) r2.2))
  else none)) :=
  (evk_at (r := (if cmpI .ne s0 ((-1)) = true then
  (Ev prog clsT X d mc128 9 [(2, 0), (0, x1), (0, x2), (0, x3), (0, x4), (0, (w32 (x5 + 1))), (0, x6)] [] (mk E c s (hh g)))
else
  ((fget 5678 ((mk E c s (hh g))) 0).bind fun v1 =>
    (fget 5634 ((mk E c s (hh g))) 0).bind fun v2 =>
    (fget 5130 ((mk E c s (hh g))) v2).bind fun v3 =>
    (aget X 102 ((mk E c s (hh g))) v3 x6).bind fun v4 =>
    if cmpI .eq v4 0 = true then
    (if (2 : Nat) = 2 ∧ rcv ((mk E c s (hh g))) v1 2 = true then
      ((Call prog clsT X d 10 [(2, v1), (0, x3), (0, x6)] ((mk E c s (hh g)))).bind fun r5 => if r5.1.1 = 4 then none else
      Ev prog clsT X d mc128 65 [(2, 0), (0, x1), (0, x2), (0, x3), (0, x4), (0, x5), (0, x6)] (pushR r5.1 []) r5.2) else none)
  else
    (if (2 : Nat) = 2 ∧ rcv ((mk E c s (hh g))) v1 2 = true then
      ((Call prog clsT X d 10 [(2, v1), (0, x3), (0, 10)] ((mk E c s (hh g)))).bind fun r6 => if r6.1.1 = 4 then none else
      Ev prog clsT X d mc128 65 [(2, 0), (0, x1), (0, x2), (0, x3), (0, x4), (0, x5), (0, x6)] (pushR r6.1 []) r6.2) else none)))) X [0, 4, 9, 37, 42, 47, 50, 65] 15 rfl).trans (by simp (maxSteps := 10000000) only [R65_2, ↓A4, ↓F5130_1, ↓F5634_0, ↓F5678_0, bindI, Option.bind_some, if_true_, and_self, ite_true, true_and, true_or, or_true])
set_option maxRecDepth 100000 in
theorem r128_65 (d : Nat) (x1 x2 x3 x4 x5 x6 : Int) : Ev prog clsT X d mc128 65 [(2, 0), (0, x1), (0, x2), (0, x3), (0, x4), (0, x5), (0, x6)] [] (mk E c s (hh g)) =
  (Ev prog clsT X d mc128 9 [(2, 0), (0, x1), (0, x2), (0, (w32 (x3 + 1))), (0, x4), (0, (w32 (x5 + 1))), (0, x6)] [] (mk E c s (hh g))) :=
  evk_at X [0, 4, 9, 37, 42, 47, 50, 65] 5 rfl
set_option maxRecDepth 100000 in
theorem r129_0 (d : Nat) (x1 x2 : Int) : Ev prog clsT X d mc129 0 [(2, 0), (0, x1), (0, x2), (3, 0), (3, 0), (3, 0)] [] (mk E c s (hh g)) =
  ((Call prog clsT X d 19 [(2, 30), (0, x1)] ((mk E c s (hh g)))).bind fun r1 => if r1.1.1 = 4 then none else
  Ev prog clsT X d mc129 4 [(2, 0), (0, x1), (0, x2), (3, 0), (3, 0), (3, 0)] (pushR r1.1 []) r1.2) :=
  (evk_at (r := ((fget 5658 ((mk E c s (hh g))) 0).bind fun v1 =>
  if (2 : Nat) = 2 ∧ rcv ((mk E c s (hh g))) v1 3 = true then
  ((Call prog clsT X d 19 [(2, v1), (0, x1)] ((mk E c s (hh g)))).bind fun r2 => if r2.1.1 = 4 then none else
  Ev prog clsT X d mc129 4 [(2, 0), (0, x1), (0, x2), (3, 0), (3, 0), (3, 0)] (pushR r2.1 []) r2.2) else none)) X [0, 4, 9, 25, 28, 45, 49, 63, 65] 5 rfl).trans (by simp (maxSteps := 10000000) only [R30_3, ↓F5658_0, bindI, Option.bind_some, if_true_, and_self, ite_true, true_and, true_or, or_true])
set_option maxRecDepth 100000 in
theorem rc129_ (d : Nat) (x1 x2 : Int) : Call prog clsT X (d + 1) 129 [(2, 0), (0, x1), (0, x2)] (mk E c s (hh g)) =
  ((Call prog clsT X d 19 [(2, 30), (0, x1)] ((mk E c s (hh g)))).bind fun r1 => if r1.1.1 = 4 then none else
  Ev prog clsT X d mc129 4 [(2, 0), (0, x1), (0, x2), (3, 0), (3, 0), (3, 0)] (pushR r1.1 []) r1.2) :=
  (show Call prog clsT X (d + 1) 129 [(2, 0), (0, x1), (0, x2)] (mk E c s (hh g)) = Ev prog clsT X d mc129 0 [(2, 0), (0, x1), (0, x2), (3, 0), (3, 0), (3, 0)] [] (mk E c s (hh g)) from rfl).trans (r129_0 X E c s g d x1 x2 )
set_option maxRecDepth 100000 in
theorem r129_4 (d : Nat) (x1 x2 s0 : Int) : Ev prog clsT X d mc129 4 [(2, 0), (0, x1), (0, x2), (3, 0), (3, 0), (3, 0)] [(0, s0)] (mk E c s (hh g)) =
  (if cmpI .eq s0 0 = true then
  (some ((0, (-1)), ((mk E c s (hh g)))))
else
  ((Call prog clsT X d 90 [(0, x2), (0, 0), (0, 1)] ((mk E c s (hh g)))).bind fun r1 => if r1.1.1 = 4 then none else
    Ev prog clsT X d mc129 9 [(2, 0), (0, x1), (0, x2), (3, 0), (3, 0), (3, 0)] (pushR r1.1 []) r1.2)) :=
  (evk_at (r := (if cmpI .eq s0 0 = true then
  (some ((0, (-1)), (mk E c s (hh g))))
else
  ((Call prog clsT X d 90 [(0, x2), (0, 0), (0, 1)] ((mk E c s (hh g)))).bind fun r1 => if r1.1.1 = 4 then none else
    Ev prog clsT X d mc129 9 [(2, 0), (0, x1), (0, x2), (3, 0), (3, 0), (3, 0)] (pushR r1.1 []) r1.2))) X [0, 4, 9, 25, 28, 45, 49, 63, 65] 6 rfl).trans (by simp (maxSteps := 10000000) only [bindI, Option.bind_some, if_true_, and_self, ite_true, true_and, true_or, or_true])
set_option maxRecDepth 100000 in
theorem r129_9 (d : Nat) (x1 x2 s0 : Int) : Ev prog clsT X d mc129 9 [(2, 0), (0, x1), (0, x2), (3, 0), (3, 0), (3, 0)] [(0, s0)] (mk E c s (hh g)) =
  (if cmpI .ne s0 0 = true then
  (if cmpI .ne x2 0 = true then
    ((Call prog clsT X d 123 [(2, 0)] ((mk E c s (hh (up g 30 1 ((land64 ((g 30 1)) ((lxor64 ((lshl64 1 x1)) ((-1))))))))))).bind fun r1 => if r1.1.1 = 4 then none else
      Ev prog clsT X d mc129 63 [(2, 0), (0, x1), (0, x2), (1, (g 30 1)), (3, 0), (3, 0)] (pushR r1.1 []) r1.2)
  else
    (if inb x1 40 = true then
      ((Call prog clsT X d 130 [(2, 0), (0, (g 31 (Int.toNat x1)))] ((mk E c s (hh g)))).bind fun r2 => if r2.1.1 = 4 then none else
      Ev prog clsT X d mc129 25 [(2, 0), (0, x1), (0, x2), (1, (g 30 1)), (3, 0), (3, 0)] (pushR r2.1 []) r2.2)
    else none))
else
  (some ((0, (-1)), ((mk E c s (hh g)))))) :=
  (evk_at (r := (if cmpI .ne s0 0 = true then
  ((fget 5658 ((mk E c s (hh g))) 0).bind fun v1 =>
    (fget 1029 ((mk E c s (hh g))) v1).bind fun v2 =>
    if cmpI .ne x2 0 = true then
    ((fget 5658 ((mk E c s (hh g))) 0).bind fun v3 =>
      (fput 1029 ((mk E c s (hh g))) v3 ((land64 v2 ((lxor64 ((lshl64 1 x1)) ((-1))))))).bind fun M4 =>
      if (2 : Nat) = 2 ∧ rcv M4 0 12 = true then
      ((Call prog clsT X d 123 [(2, 0)] M4).bind fun r5 => if r5.1.1 = 4 then none else
      Ev prog clsT X d mc129 63 [(2, 0), (0, x1), (0, x2), (1, v2), (3, 0), (3, 0)] (pushR r5.1 []) r5.2) else none)
  else
    ((fget 5658 ((mk E c s (hh g))) 0).bind fun v6 =>
      (fget 1034 ((mk E c s (hh g))) v6).bind fun v7 =>
      (aget X 100 ((mk E c s (hh g))) v7 x1).bind fun v8 =>
      if (2 : Nat) = 2 ∧ rcv ((mk E c s (hh g))) 0 12 = true then
      ((Call prog clsT X d 130 [(2, 0), (0, v8)] ((mk E c s (hh g)))).bind fun r9 => if r9.1.1 = 4 then none else
      Ev prog clsT X d mc129 25 [(2, 0), (0, x1), (0, x2), (1, v2), (3, 0), (3, 0)] (pushR r9.1 []) r9.2) else none))
else
  (some ((0, (-1)), (mk E c s (hh g)))))) X [0, 4, 9, 25, 28, 45, 49, 63, 65] 20 rfl).trans (by simp (maxSteps := 10000000) only [R0_12, ↓A31, ↓F1029_30, ↓F1034_30, ↓F5658_0, ↓W1029_30, bindI, Option.bind_some, if_true_, and_self, ite_true, true_and, true_or, or_true])
set_option maxRecDepth 100000 in
theorem r129_25 (d : Nat) (x1 x2 x3 : Int) : Ev prog clsT X d mc129 25 [(2, 0), (0, x1), (0, x2), (1, x3), (3, 0), (3, 0)] [] (mk E c s (hh g)) =
  ((Call prog clsT X d 7 [(2, 55)] ((mk E c s (hh g)))).bind fun r1 => if r1.1.1 = 4 then none else
  Ev prog clsT X d mc129 28 [(2, 0), (0, x1), (0, x2), (1, x3), (3, 0), (3, 0)] (pushR r1.1 []) r1.2) :=
  (evk_at (r := ((fget 5674 ((mk E c s (hh g))) 0).bind fun v1 =>
  if (2 : Nat) = 2 ∧ rcv ((mk E c s (hh g))) v1 1 = true then
  ((Call prog clsT X d 7 [(2, v1)] ((mk E c s (hh g)))).bind fun r2 => if r2.1.1 = 4 then none else
  Ev prog clsT X d mc129 28 [(2, 0), (0, x1), (0, x2), (1, x3), (3, 0), (3, 0)] (pushR r2.1 []) r2.2) else none)) X [0, 4, 9, 25, 28, 45, 49, 63, 65] 4 rfl).trans (by simp (maxSteps := 10000000) only [R55_1, ↓F5674_0, bindI, Option.bind_some, if_true_, and_self, ite_true, true_and, true_or, or_true])
set_option maxRecDepth 100000 in
theorem r129_28 (d : Nat) (x1 x2 x3 : Int) : Ev prog clsT X d mc129 28 [(2, 0), (0, x1), (0, x2), (1, x3), (3, 0), (3, 0)] [] (mk E c s (hh g)) =
  (if inb x1 40 = true then
  ((Call prog clsT X d 130 [(2, 0), (0, (g 31 (Int.toNat x1)))] ((mk E c s (hh (up g 30 1 ((land64 x3 ((lxor64 ((lshl64 1 x1)) ((-1))))))))))).bind fun r1 => if r1.1.1 = 4 then none else
  Ev prog clsT X d mc129 45 [(2, 0), (0, x1), (0, x2), (1, x3), (3, 0), (3, 0)] (pushR r1.1 []) r1.2)
else none) :=
  (evk_at (r := ((fget 5658 ((mk E c s (hh g))) 0).bind fun v1 =>
  (fput 1029 ((mk E c s (hh g))) v1 ((land64 x3 ((lxor64 ((lshl64 1 x1)) ((-1))))))).bind fun M2 =>
  (fget 5658 M2 0).bind fun v3 =>
  (fget 1034 M2 v3).bind fun v4 =>
  (aget X 100 M2 v4 x1).bind fun v5 =>
  if (2 : Nat) = 2 ∧ rcv M2 0 12 = true then
  ((Call prog clsT X d 130 [(2, 0), (0, v5)] M2).bind fun r6 => if r6.1.1 = 4 then none else
  Ev prog clsT X d mc129 45 [(2, 0), (0, x1), (0, x2), (1, x3), (3, 0), (3, 0)] (pushR r6.1 []) r6.2) else none)) X [0, 4, 9, 25, 28, 45, 49, 63, 65] 18 rfl).trans (by simp (maxSteps := 10000000) only [R0_12, uc_30_31, ↓A31, ↓F1034_30, ↓F5658_0, ↓W1029_30, bindI, Option.bind_some, if_true_, and_self, ite_true, true_and, true_or, or_true])
set_option maxRecDepth 100000 in
theorem r129_45 (d : Nat) (x1 x2 x3 : Int) : Ev prog clsT X d mc129 45 [(2, 0), (0, x1), (0, x2), (1, x3), (3, 0), (3, 0)] [] (mk E c s (hh g)) =
  ((Call prog clsT X d 8 [(2, 55), (0, x1)] ((mk E c s (hh g)))).bind fun r1 => if r1.1.1 = 4 then none else
  Ev prog clsT X d mc129 49 [(2, 0), (0, x1), (0, x2), (1, x3), (3, 0), (3, 0)] (pushR r1.1 []) r1.2) :=
  (evk_at (r := ((fget 5674 ((mk E c s (hh g))) 0).bind fun v1 =>
  if (2 : Nat) = 2 ∧ rcv ((mk E c s (hh g))) v1 1 = true then
  ((Call prog clsT X d 8 [(2, v1), (0, x1)] ((mk E c s (hh g)))).bind fun r2 => if r2.1.1 = 4 then none else
  Ev prog clsT X d mc129 49 [(2, 0), (0, x1), (0, x2), (1, x3), (3, 0), (3, 0)] (pushR r2.1 []) r2.2) else none)) X [0, 4, 9, 25, 28, 45, 49, 63, 65] 5 rfl).trans (by simp (maxSteps := 10000000) only [R55_1, ↓F5674_0, bindI, Option.bind_some, if_true_, and_self, ite_true, true_and, true_or, or_true])
set_option maxRecDepth 100000 in
theorem r129_49 (d : Nat) (x1 x2 x3 s0 : Int) : Ev prog clsT X d mc129 49 [(2, 0), (0, x1), (0, x2), (1, x3), (3, 0), (3, 0)] [(0, s0)] (mk E c s (hh g)) =
  (some ((0, s0), ((mk E c s (hh (up g 30 1 x3)))))) :=
  (evk_at (r := ((fget 5658 ((mk E c s (hh g))) 0).bind fun v1 =>
  (fput 1029 ((mk E c s (hh g))) v1 x3).bind fun M2 =>
  some ((0, s0), M2))) X [0, 4, 9, 25, 28, 45, 49, 63, 65] 9 rfl).trans (by simp (maxSteps := 10000000) only [↓F5658_0, ↓W1029_30, bindI, Option.bind_some, if_true_, and_self, ite_true, true_and, true_or, or_true])
set_option maxRecDepth 100000 in
theorem r129_63 (d : Nat) (x1 x2 x3 : Int) : Ev prog clsT X d mc129 63 [(2, 0), (0, x1), (0, x2), (1, x3), (3, 0), (3, 0)] [] (mk E c s (hh g)) =
  ((Call prog clsT X d 125 [(2, 0)] ((mk E c s (hh g)))).bind fun r1 => if r1.1.1 = 4 then none else
  Ev prog clsT X d mc129 65 [(2, 0), (0, x1), (0, x2), (1, x3), (3, 0), (3, 0)] (pushR r1.1 []) r1.2) :=
  (evk_at (r := (if (2 : Nat) = 2 ∧ rcv ((mk E c s (hh g))) 0 12 = true then
  ((Call prog clsT X d 125 [(2, 0)] ((mk E c s (hh g)))).bind fun r1 => if r1.1.1 = 4 then none else
  Ev prog clsT X d mc129 65 [(2, 0), (0, x1), (0, x2), (1, x3), (3, 0), (3, 0)] (pushR r1.1 []) r1.2) else none)) X [0, 4, 9, 25, 28, 45, 49, 63, 65] 3 rfl).trans (by simp (maxSteps := 10000000) only [R0_12, bindI, Option.bind_some, if_true_, and_self, ite_true, true_and, true_or, or_true])
set_option maxRecDepth 100000 in
theorem r129_65 (d : Nat) (x1 x2 x3 s0 : Int) : Ev prog clsT X d mc129 65 [(2, 0), (0, x1), (0, x2), (1, x3), (3, 0), (3, 0)] [(0, s0)] (mk E c s (hh g)) =
  (some ((0, s0), ((mk E c s (hh (up g 30 1 x3)))))) :=
  (evk_at (r := ((fget 5658 ((mk E c s (hh g))) 0).bind fun v1 =>
  (fput 1029 ((mk E c s (hh g))) v1 x3).bind fun M2 =>
  some ((0, s0), M2))) X [0, 4, 9, 25, 28, 45, 49, 63, 65] 8 rfl).trans (by simp (maxSteps := 10000000) only [↓F5658_0, ↓W1029_30, bindI, Option.bind_some, if_true_, and_self, ite_true, true_and, true_or, or_true])
set_option maxRecDepth 100000 in
theorem r130_0 (d : Nat) (x1 : Int) : Ev prog clsT X d mc130 0 [(2, 0), (0, x1)] [] (mk E c s (hh g)) =
  (if inb x1 10 = true then
  (if cmpI .ne ((g 39 (Int.toNat x1))) ((-1)) = true then
  (if inb x1 10 = true then
    ((Call prog clsT X d 107 [(2, 0), (0, x1), (0, (g 39 (Int.toNat x1)))] ((mk E c s (hh g)))).bind fun r1 => if r1.1.1 = 4 then none else
    Ev prog clsT X d mc130 19 [(2, 0), (0, x1)] (pushR r1.1 []) r1.2)
  else none)
else
  ((Call prog clsT X d 1 [(2, 55)] ((mk E c s (hh g)))).bind fun r2 => if r2.1.1 = 4 then none else
    Ev prog clsT X d mc130 10 [(2, 0), (0, x1)] (pushR r2.1 []) r2.2))
else none) :=
  (evk_at (r := ((fget 5662 ((mk E c s (hh g))) 0).bind fun v1 =>
  (fget 2058 ((mk E c s (hh g))) v1).bind fun v2 =>
  (aget X 100 ((mk E c s (hh g))) v2 x1).bind fun v3 =>
  if cmpI .ne v3 ((-1)) = true then
  ((fget 5662 ((mk E c s (hh g))) 0).bind fun v4 =>
    (fget 2058 ((mk E c s (hh g))) v4).bind fun v5 =>
    (aget X 100 ((mk E c s (hh g))) v5 x1).bind fun v6 =>
    if (2 : Nat) = 2 ∧ rcv ((mk E c s (hh g))) 0 12 = true then
    ((Call prog clsT X d 107 [(2, 0), (0, x1), (0, v6)] ((mk E c s (hh g)))).bind fun r7 => if r7.1.1 = 4 then none else
    Ev prog clsT X d mc130 19 [(2, 0), (0, x1)] (pushR r7.1 []) r7.2) else none)
else
  ((fget 5674 ((mk E c s (hh g))) 0).bind fun v8 =>
    if (2 : Nat) = 2 ∧ rcv ((mk E c s (hh g))) v8 1 = true then
    ((Call prog clsT X d 1 [(2, v8)] ((mk E c s (hh g)))).bind fun r9 => if r9.1.1 = 4 then none else
    Ev prog clsT X d mc130 10 [(2, 0), (0, x1)] (pushR r9.1 []) r9.2) else none))) X [0, 10, 19] 16 rfl).trans (by simp (maxSteps := 10000000) only [R0_12, R55_1, ↓A39, ↓F2058_36, ↓F5662_0, ↓F5674_0, bindI, Option.bind_some, if_true_, and_self, ite_true, true_and, true_or, or_true])
set_option maxRecDepth 100000 in
theorem rc130_ (d : Nat) (x1 : Int) : Call prog clsT X (d + 1) 130 [(2, 0), (0, x1)] (mk E c s (hh g)) =
  (if inb x1 10 = true then
  (if cmpI .ne ((g 39 (Int.toNat x1))) ((-1)) = true then
  (if inb x1 10 = true then
    ((Call prog clsT X d 107 [(2, 0), (0, x1), (0, (g 39 (Int.toNat x1)))] ((mk E c s (hh g)))).bind fun r1 => if r1.1.1 = 4 then none else
    Ev prog clsT X d mc130 19 [(2, 0), (0, x1)] (pushR r1.1 []) r1.2)
  else none)
else
  ((Call prog clsT X d 1 [(2, 55)] ((mk E c s (hh g)))).bind fun r2 => if r2.1.1 = 4 then none else
    Ev prog clsT X d mc130 10 [(2, 0), (0, x1)] (pushR r2.1 []) r2.2))
else none) :=
  (show Call prog clsT X (d + 1) 130 [(2, 0), (0, x1)] (mk E c s (hh g)) = Ev prog clsT X d mc130 0 [(2, 0), (0, x1)] [] (mk E c s (hh g)) from rfl).trans (r130_0 X E c s g d x1 )
set_option maxRecDepth 100000 in
theorem r130_10 (d : Nat) (x1 : Int) : Ev prog clsT X d mc130 10 [(2, 0), (0, x1)] [] (mk E c s (hh g)) =
  (Ev prog clsT X d mc130 19 [(2, 0), (0, x1)] [] (mk E c s (hh g))) :=
  evk_at X [0, 10, 19] 3 rfl
set_option maxRecDepth 100000 in
theorem r130_19 (d : Nat) (x1 : Int) : Ev prog clsT X d mc130 19 [(2, 0), (0, x1)] [] (mk E c s (hh g)) =
  (some ((3, 0), ((mk E c s (hh g))))) :=
  (evk_at (r := (some ((3, 0), (mk E c s (hh g))))) X [0, 10, 19] 2 rfl).trans (by simp (maxSteps := 10000000) only [bindI, Option.bind_some, if_true_, and_self, ite_true, true_and, true_or, or_true])
set_option maxRecDepth 100000 in
theorem r131_0 (d : Nat) (x1 x2 x3 : Int) : Ev prog clsT X d mc131 0 [(2, 0), (0, x1), (0, x2), (0, x3)] [] (mk E c s (hh g)) =
  ((Call prog clsT X d 90 [(0, x1), (0, 0), (0, 9)] ((mk E c s (hh g)))).bind fun r1 => if r1.1.1 = 4 then none else
  Ev prog clsT X d mc131 4 [(2, 0), (0, x1), (0, x2), (0, x3)] (pushR r1.1 []) r1.2) :=
  evk_at X [0, 4, 9, 14] 5 rfl
set_option maxRecDepth 100000 in
theorem rc131_ (d : Nat) (x1 x2 x3 : Int) : Call prog clsT X (d + 1) 131 [(2, 0), (0, x1), (0, x2), (0, x3)] (mk E c s (hh g)) =
  ((Call prog clsT X d 90 [(0, x1), (0, 0), (0, 9)] ((mk E c s (hh g)))).bind fun r1 => if r1.1.1 = 4 then none else
  Ev prog clsT X d mc131 4 [(2, 0), (0, x1), (0, x2), (0, x3)] (pushR r1.1 []) r1.2) :=
  (show Call prog clsT X (d + 1) 131 [(2, 0), (0, x1), (0, x2), (0, x3)] (mk E c s (hh g)) = Ev prog clsT X d mc131 0 [(2, 0), (0, x1), (0, x2), (0, x3)] [] (mk E c s (hh g)) from rfl).trans (r131_0 X E c s g d x1 x2 x3 )
set_option maxRecDepth 100000 in
theorem r131_4 (d : Nat) (x1 x2 x3 s0 : Int) : Ev prog clsT X d mc131 4 [(2, 0), (0, x1), (0, x2), (0, x3)] [(0, s0)] (mk E c s (hh g)) =
  (if cmpI .eq s0 0 = true then
  (some ((0, 0), ((mk E c s (hh g)))))
else
  ((Call prog clsT X d 90 [(0, x2), (0, 0), (0, 4)] ((mk E c s (hh g)))).bind fun r1 => if r1.1.1 = 4 then none else
    Ev prog clsT X d mc131 9 [(2, 0), (0, x1), (0, x2), (0, x3)] (pushR r1.1 []) r1.2)) :=
  (evk_at (r := (if cmpI .eq s0 0 = true then
  (some ((0, 0), (mk E c s (hh g))))
else
  ((Call prog clsT X d 90 [(0, x2), (0, 0), (0, 4)] ((mk E c s (hh g)))).bind fun r1 => if r1.1.1 = 4 then none else
    Ev prog clsT X d mc131 9 [(2, 0), (0, x1), (0, x2), (0, x3)] (pushR r1.1 []) r1.2))) X [0, 4, 9, 14] 6 rfl).trans (by simp (maxSteps := 10000000) only [bindI, Option.bind_some, if_true_, and_self, ite_true, true_and, true_or, or_true])
set_option maxRecDepth 100000 in
theorem r131_9 (d : Nat) (x1 x2 x3 s0 : Int) : Ev prog clsT X d mc131 9 [(2, 0), (0, x1), (0, x2), (0, x3)] [(0, s0)] (mk E c s (hh g)) =
  (if cmpI .eq s0 0 = true then
  (some ((0, 0), ((mk E c s (hh g)))))
else
  ((Call prog clsT X d 90 [(0, x3), (0, (-1)), (0, 99)] ((mk E c s (hh g)))).bind fun r1 => if r1.1.1 = 4 then none else
    Ev prog clsT X d mc131 14 [(2, 0), (0, x1), (0, x2), (0, x3)] (pushR r1.1 []) r1.2)) :=
  (evk_at (r := (if cmpI .eq s0 0 = true then
  (some ((0, 0), (mk E c s (hh g))))
else
  ((Call prog clsT X d 90 [(0, x3), (0, (-1)), (0, 99)] ((mk E c s (hh g)))).bind fun r1 => if r1.1.1 = 4 then none else
    Ev prog clsT X d mc131 14 [(2, 0), (0, x1), (0, x2), (0, x3)] (pushR r1.1 []) r1.2))) X [0, 4, 9, 14] 6 rfl).trans (by simp (maxSteps := 10000000) only [bindI, Option.bind_some, if_true_, and_self, ite_true, true_and, true_or, or_true])
set_option maxRecDepth 100000 in
theorem r131_14 (d : Nat) (x1 x2 x3 s0 : Int) : Ev prog clsT X d mc131 14 [(2, 0), (0, x1), (0, x2), (0, x3)] [(0, s0)] (mk E c s (hh g)) =
  (if cmpI .ne s0 0 = true then
  (if inb ((w32 (((w32 (x1 * 5))) + x2))) 50 = true then
    (some ((0, 1), ((mk E c s (hh (up g 44 (Int.toNat ((w32 (((w32 (x1 * 5))) + x2)))) x3))))))
  else none)
else
  (some ((0, 0), ((mk E c s (hh g)))))) :=
  (evk_at (r := (if cmpI .ne s0 0 = true then
  ((fget 5666 ((mk E c s (hh g))) 0).bind fun v1 =>
    (fget 1550 ((mk E c s (hh g))) v1).bind fun v2 =>
    (aput 100 ((mk E c s (hh g))) v2 ((w32 (((w32 (x1 * 5))) + x2))) (x3)).bind fun M3 =>
    some ((0, 1), M3))
else
  (some ((0, 0), (mk E c s (hh g)))))) X [0, 4, 9, 14] 14 rfl).trans (by simp (maxSteps := 10000000) only [↓F1550_40, ↓F5666_0, ↓S44, bindI, Option.bind_some, if_true_, and_self, ite_true, true_and, true_or, or_true])
set_option maxRecDepth 100000 in
theorem r132_0 (d : Nat) (x1 x2 : Int) : Ev prog clsT X d mc132 0 [(2, 0), (0, x1), (0, x2), (3, 0)] [] (mk E c s (hh g)) =
  ((Call prog clsT X d 97 [(2, 0), (0, x1)] ((mk E c s (hh g)))).bind fun r1 => if r1.1.1 = 4 then none else
  Ev prog clsT X d mc132 3 [(2, 0), (0, x1), (0, x2), (3, 0)] (pushR r1.1 []) r1.2) :=
  (evk_at (r := (if (2 : Nat) = 2 ∧ rcv ((mk E c s (hh g))) 0 12 = true then
  ((Call prog clsT X d 97 [(2, 0), (0, x1)] ((mk E c s (hh g)))).bind fun r1 => if r1.1.1 = 4 then none else
  Ev prog clsT X d mc132 3 [(2, 0), (0, x1), (0, x2), (3, 0)] (pushR r1.1 []) r1.2) else none)) X [0, 3, 10, 19, 25] 4 rfl).trans (by simp (maxSteps := 10000000) only [R0_12, bindI, Option.bind_some, if_true_, and_self, ite_true, true_and, true_or, or_true])
set_option maxRecDepth 100000 in
theorem rc132_ (d : Nat) (x1 x2 : Int) : Call prog clsT X (d + 1) 132 [(2, 0), (0, x1), (0, x2)] (mk E c s (hh g)) =
  ((Call prog clsT X d 97 [(2, 0), (0, x1)] ((mk E c s (hh g)))).bind fun r1 => if r1.1.1 = 4 then none else
  Ev prog clsT X d mc132 3 [(2, 0), (0, x1), (0, x2), (3, 0)] (pushR r1.1 []) r1.2) :=
  (show Call prog clsT X (d + 1) 132 [(2, 0), (0, x1), (0, x2)] (mk E c s (hh g)) = Ev prog clsT X d mc132 0 [(2, 0), (0, x1), (0, x2), (3, 0)] [] (mk E c s (hh g)) from rfl).trans (r132_0 X E c s g d x1 x2 )
set_option maxRecDepth 100000 in
theorem r132_3 (d : Nat) (x1 x2 s0 : Int) : Ev prog clsT X d mc132 3 [(2, 0), (0, x1), (0, x2), (3, 0)] [(2, s0)] (mk E c s (hh g)) =
  (if (2 : Nat) = 2 ∧ s0 ≠ -5 then (if (decide (s0 = -1)) = true then
  (some ((0, (-1)), ((mk E c s (hh g)))))
else
  ((Call prog clsT X d 90 [(0, x2), (0, 0), (0, 1)] ((mk E c s (hh g)))).bind fun r1 => if r1.1.1 = 4 then none else
    Ev prog clsT X d mc132 10 [(2, 0), (0, x1), (0, x2), (2, s0)] (pushR r1.1 []) r1.2)) else none) :=
  (evk_at (r := (if (2 : Nat) = 2 ∧ s0 ≠ -5 then (if (decide (s0 = -1)) = true then
  (some ((0, (-1)), (mk E c s (hh g))))
else
  ((Call prog clsT X d 90 [(0, x2), (0, 0), (0, 1)] ((mk E c s (hh g)))).bind fun r1 => if r1.1.1 = 4 then none else
    Ev prog clsT X d mc132 10 [(2, 0), (0, x1), (0, x2), (2, s0)] (pushR r1.1 []) r1.2)) else none)) X [0, 3, 10, 19, 25] 8 rfl).trans (by simp (maxSteps := 10000000) only [bindI, Option.bind_some, if_true_, and_self, ite_true, true_and, true_or, or_true])
set_option maxRecDepth 100000 in
theorem r132_10 (d : Nat) (x1 x2 x3 s0 : Int) : Ev prog clsT X d mc132 10 [(2, 0), (0, x1), (0, x2), (2, x3)] [(0, s0)] (mk E c s (hh g)) =
  (if cmpI .ne s0 0 = true then
  (if cmpI .ne x2 0 = true then
    ((fget 3588 ((mk E c s (hh g))) x3).bind fun v1 =>
      (Call prog clsT X d 134 [(2, 0), (0, x1), (0, v1)] ((mk E c s (hh g)))).bind fun r2 => if r2.1.1 = 4 then none else
      Ev prog clsT X d mc132 25 [(2, 0), (0, x1), (0, x2), (2, x3)] (pushR r2.1 []) r2.2)
  else
    ((Call prog clsT X d 133 [(2, 0), (0, x1), (2, x3)] ((mk E c s (hh g)))).bind fun r3 => if r3.1.1 = 4 then none else
      Ev prog clsT X d mc132 19 [(2, 0), (0, x1), (0, x2), (2, x3)] (pushR r3.1 []) r3.2))
else
  (some ((0, (-1)), ((mk E c s (hh g)))))) :=
  (evk_at (r := (if cmpI .ne s0 0 = true then
  (if cmpI .ne x2 0 = true then
    ((fget 3588 ((mk E c s (hh g))) x3).bind fun v1 =>
      if (2 : Nat) = 2 ∧ rcv ((mk E c s (hh g))) 0 12 = true then
      ((Call prog clsT X d 134 [(2, 0), (0, x1), (0, v1)] ((mk E c s (hh g)))).bind fun r2 => if r2.1.1 = 4 then none else
      Ev prog clsT X d mc132 25 [(2, 0), (0, x1), (0, x2), (2, x3)] (pushR r2.1 []) r2.2) else none)
  else
    (if (2 : Nat) = 2 ∧ rcv ((mk E c s (hh g))) 0 12 = true then
      ((Call prog clsT X d 133 [(2, 0), (0, x1), (2, x3)] ((mk E c s (hh g)))).bind fun r3 => if r3.1.1 = 4 then none else
      Ev prog clsT X d mc132 19 [(2, 0), (0, x1), (0, x2), (2, x3)] (pushR r3.1 []) r3.2) else none))
else
  (some ((0, (-1)), (mk E c s (hh g)))))) X [0, 3, 10, 19, 25] 9 rfl).trans (by simp (maxSteps := 10000000) only [R0_12, bindI, Option.bind_some, if_true_, and_self, ite_true, true_and, true_or, or_true])
set_option maxRecDepth 100000 in
theorem r132_19 (d : Nat) (x1 x2 x3 s0 : Int) : Ev prog clsT X d mc132 19 [(2, 0), (0, x1), (0, x2), (2, x3)] [(0, s0)] (mk E c s (hh g)) =
  (Ev prog clsT X d mc132 25 [(2, 0), (0, x1), (0, x2), (2, x3)] [(0, s0)] (mk E c s (hh g))) :=
  evk_at X [0, 3, 10, 19, 25] 3 rfl
set_option maxRecDepth 100000 in
theorem r132_25 (d : Nat) (x1 x2 x3 s0 : Int) : Ev prog clsT X d mc132 25 [(2, 0), (0, x1), (0, x2), (2, x3)] [(0, s0)] (mk E c s (hh g)) =
  (some ((0, s0), ((mk E c s (hh g))))) :=
  (evk_at (r := (some ((0, s0), (mk E c s (hh g))))) X [0, 3, 10, 19, 25] 2 rfl).trans (by simp (maxSteps := 10000000) only [bindI, Option.bind_some, if_true_, and_self, ite_true, true_and, true_or, or_true])
set_option maxRecDepth 100000 in
theorem r133_0 (d : Nat) (x1 x2 : Int) : Ev prog clsT X d mc133 0 [(2, 0), (0, x1), (2, x2), (3, 0)] [] (mk E c s (hh g)) =
  ((Call prog clsT X d 24 [(2, 30), (0, x1)] ((mk E c s (hh g)))).bind fun r1 => if r1.1.1 = 4 then none else
  Ev prog clsT X d mc133 9 [(2, 0), (0, x1), (2, x2), (3, 0)] (pushR r1.1 [(0, x1), (2, 40), (2, 27)]) r1.2) :=
  (evk_at (r := ((fget 5654 ((mk E c s (hh g))) 0).bind fun v1 =>
  (fget 5666 ((mk E c s (hh g))) 0).bind fun v2 =>
  (fget 5658 ((mk E c s (hh g))) 0).bind fun v3 =>
  if (2 : Nat) = 2 ∧ rcv ((mk E c s (hh g))) v3 3 = true then
  ((Call prog clsT X d 24 [(2, v3), (0, x1)] ((mk E c s (hh g)))).bind fun r4 => if r4.1.1 = 4 then none else
  Ev prog clsT X d mc133 9 [(2, 0), (0, x1), (2, x2), (3, 0)] (pushR r4.1 [(0, x1), (2, v2), (2, v1)]) r4.2) else none)) X [0, 9, 11, 13, 22] 10 rfl).trans (by simp (maxSteps := 10000000) only [R30_3, ↓F5654_0, ↓F5658_0, ↓F5666_0, bindI, Option.bind_some, if_true_, and_self, ite_true, true_and, true_or, or_true])
set_option maxRecDepth 100000 in
theorem rc133_ (d : Nat) (x1 x2 : Int) : Call prog clsT X (d + 1) 133 [(2, 0), (0, x1), (2, x2)] (mk E c s (hh g)) =
  ((Call prog clsT X d 24 [(2, 30), (0, x1)] ((mk E c s (hh g)))).bind fun r1 => if r1.1.1 = 4 then none else
  Ev prog clsT X d mc133 9 [(2, 0), (0, x1), (2, x2), (3, 0)] (pushR r1.1 [(0, x1), (2, 40), (2, 27)]) r1.2) :=
  (show Call prog clsT X (d + 1) 133 [(2, 0), (0, x1), (2, x2)] (mk E c s (hh g)) = Ev prog clsT X d mc133 0 [(2, 0), (0, x1), (2, x2), (3, 0)] [] (mk E c s (hh g)) from rfl).trans (r133_0 X E c s g d x1 x2 )
set_option maxRecDepth 100000 in
theorem r133_9 (d : Nat) (x1 x2 s2 s3 : Int) : Ev prog clsT X d mc133 9 [(2, 0), (0, x1), (2, x2), (3, 0)] [(0, s3), (0, s2), (2, 40), (2, 27)] (mk E c s (hh g)) =
  ((Call prog clsT X d 78 [(2, 27), (2, 40), (0, s2), (0, s3), (2, x2)] ((mk E c s (hh g)))).bind fun r1 => if r1.1.1 = 4 then none else
  Ev prog clsT X d mc133 11 [(2, 0), (0, x1), (2, x2), (3, 0)] (pushR r1.1 []) r1.2) :=
  (evk_at (r := (if (2 : Nat) = 2 ∧ rcv ((mk E c s (hh g))) 27 9 = true then
  ((Call prog clsT X d 78 [(2, 27), (2, 40), (0, s2), (0, s3), (2, x2)] ((mk E c s (hh g)))).bind fun r1 => if r1.1.1 = 4 then none else
  Ev prog clsT X d mc133 11 [(2, 0), (0, x1), (2, x2), (3, 0)] (pushR r1.1 []) r1.2) else none)) X [0, 9, 11, 13, 22] 3 rfl).trans (by simp (maxSteps := 10000000) only [R27_9, bindI, Option.bind_some, if_true_, and_self, ite_true, true_and, true_or, or_true])
set_option maxRecDepth 100000 in
theorem r133_11 (d : Nat) (x1 x2 : Int) : Ev prog clsT X d mc133 11 [(2, 0), (0, x1), (2, x2), (3, 0)] [] (mk E c s (hh g)) =
  (Ev prog clsT X d mc133 13 [(2, 0), (0, x1), (2, x2), (0, 8)] [] (mk E c s (hh g))) :=
  evk_at X [0, 9, 11, 13, 22] 4 rfl
set_option maxRecDepth 100000 in
theorem r133_13 (d : Nat) (x3 : Int) (w1 w2 : MV) : Ev prog clsT X d mc133 13 [(2, 0), w1, w2, (0, x3)] [] (mk E c s (hh g)) =
  (if cmpI .gt x3 10 = true then
  (some ((0, 0), ((mk E c s (hh g)))))
else
  ((Call prog clsT X d 74 [(2, 27), (2, (g 0 4)), (0, x3)] ((mk E c s (hh g)))).bind fun r1 => if r1.1.1 = 4 then none else
    Ev prog clsT X d mc133 22 [(2, 0), (3, 0), (3, 0), (0, x3)] (pushR r1.1 []) r1.2)) :=
  (evk_at (r := (if cmpI .gt x3 10 = true then
  (some ((0, 0), (mk E c s (hh g))))
else
  ((fget 5654 ((mk E c s (hh g))) 0).bind fun v1 =>
    (fget 5650 ((mk E c s (hh g))) 0).bind fun v2 =>
    if (2 : Nat) = 2 ∧ rcv ((mk E c s (hh g))) v1 9 = true then
    ((Call prog clsT X d 74 [(2, v1), (2, v2), (0, x3)] ((mk E c s (hh g)))).bind fun r3 => if r3.1.1 = 4 then none else
    Ev prog clsT X d mc133 22 [(2, 0), (3, 0), (3, 0), (0, x3)] (pushR r3.1 []) r3.2) else none))) X [0, 9, 11, 13, 22] 10 rfl).trans (by simp (maxSteps := 10000000) only [R27_9, ↓F5650_0, ↓F5654_0, bindI, Option.bind_some, if_true_, and_self, ite_true, true_and, true_or, or_true])
set_option maxRecDepth 100000 in
theorem r133_22 (d : Nat) (x3 s0 : Int) : Ev prog clsT X d mc133 22 [(2, 0), (3, 0), (3, 0), (0, x3)] [(0, s0)] (mk E c s (hh g)) =
  (if cmpI .eq s0 0 = true then
  (Ev prog clsT X d mc133 13 [(2, 0), (3, 0), (3, 0), (0, (w32 (x3 + 1)))] [] (mk E c s (hh g)))
else
  (some ((0, (w32 (((w32 (1 + x3))) - 8))), ((mk E c s (hh g)))))) :=
  (evk_at (r := (if cmpI .eq s0 0 = true then
  (Ev prog clsT X d mc133 13 [(2, 0), (3, 0), (3, 0), (0, (w32 (x3 + 1)))] [] (mk E c s (hh g)))
else
  (some ((0, (w32 (((w32 (1 + x3))) - 8))), (mk E c s (hh g)))))) X [0, 9, 11, 13, 22] 8 rfl).trans (by simp (maxSteps := 10000000) only [bindI, Option.bind_some, if_true_, and_self, ite_true, true_and, true_or, or_true])
set_option maxRecDepth 100000 in
theorem r134_0 (d : Nat) (x1 x2 : Int) : Ev prog clsT X d mc134 0 [(2, 0), (0, x1), (0, x2), (3, 0), (3, 0), (3, 0)] [] (mk E c s (hh g)) =
  (Ev prog clsT X d mc134 4 [(2, 0), (0, x1), (0, x2), (0, (-1)), (0, 0), (3, 0)] [] (mk E c s (hh g))) :=
  evk_at X [0, 4, 10, 21] 6 rfl
set_option maxRecDepth 100000 in
theorem rc134_ (d : Nat) (x1 x2 : Int) : Call prog clsT X (d + 1) 134 [(2, 0), (0, x1), (0, x2)] (mk E c s (hh g)) =
  (Ev prog clsT X d mc134 4 [(2, 0), (0, x1), (0, x2), (0, (-1)), (0, 0), (3, 0)] [] (mk E c s (hh g))) :=
  (show Call prog clsT X (d + 1) 134 [(2, 0), (0, x1), (0, x2)] (mk E c s (hh g)) = Ev prog clsT X d mc134 0 [(2, 0), (0, x1), (0, x2), (3, 0), (3, 0), (3, 0)] [] (mk E c s (hh g)) from rfl).trans (r134_0 X E c s g d x1 x2 )
set_option maxRecDepth 100000 in
theorem r134_4 (d : Nat) (x1 x2 x3 x4 : Int) (w5 : MV) : Ev prog clsT X d mc134 4 [(2, 0), (0, x1), (0, x2), (0, x3), (0, x4), w5] [] (mk E c s (hh g)) =
  (if cmpI .ge x4 10 = true then
  (some ((0, (-1)), ((mk E c s (hh g)))))
else
  ((Call prog clsT X d 97 [(2, 0), (0, x4)] ((mk E c s (hh g)))).bind fun r1 => if r1.1.1 = 4 then none else
    Ev prog clsT X d mc134 10 [(2, 0), (0, x1), (0, x2), (0, x3), (0, x4), (3, 0)] (pushR r1.1 []) r1.2)) :=
  (evk_at (r := (if cmpI .ge x4 10 = true then
  (some ((0, (-1)), (mk E c s (hh g))))
else
  (if (2 : Nat) = 2 ∧ rcv ((mk E c s (hh g))) 0 12 = true then
    ((Call prog clsT X d 97 [(2, 0), (0, x4)] ((mk E c s (hh g)))).bind fun r1 => if r1.1.1 = 4 then none else
    Ev prog clsT X d mc134 10 [(2, 0), (0, x1), (0, x2), (0, x3), (0, x4), (3, 0)] (pushR r1.1 []) r1.2) else none))) X [0, 4, 10, 21] 7 rfl).trans (by simp (maxSteps := 10000000) only [R0_12, bindI, Option.bind_some, if_true_, and_self, ite_true, true_and, true_or, or_true])
set_option maxRecDepth 100000 in
theorem r134_10 (d : Nat) (x1 x2 x3 x4 s0 : Int) : Ev prog clsT X d mc134 10 [(2, 0), (0, x1), (0, x2), (0, x3), (0, x4), (3, 0)] [(2, s0)] (mk E c s (hh g)) =
  (if (2 : Nat) = 2 ∧ s0 ≠ -5 then (if (decide (s0 = -1)) = true then
  (Ev prog clsT X d mc134 4 [(2, 0), (0, x1), (0, x2), (0, x3), (0, (w32 (x4 + 1))), (2, s0)] [] (mk E c s (hh g)))
else
  ((fget 3588 ((mk E c s (hh g))) s0).bind fun v1 =>
    if cmpI .ne v1 x2 = true then
    (Ev prog clsT X d mc134 4 [(2, 0), (0, x1), (0, x2), (0, x3), (0, (w32 (x4 + 1))), (2, s0)] [] (mk E c s (hh g)))
  else
    ((Call prog clsT X d 133 [(2, 0), (0, x4), (2, s0)] ((mk E c s (hh g)))).bind fun r2 => if r2.1.1 = 4 then none else
      Ev prog clsT X d mc134 21 [(2, 0), (0, x1), (0, x2), (0, x3), (0, x4), (2, s0)] (pushR r2.1 []) r2.2))) else none) :=
  (evk_at (r := (if (2 : Nat) = 2 ∧ s0 ≠ -5 then (if (decide (s0 = -1)) = true then
  (Ev prog clsT X d mc134 4 [(2, 0), (0, x1), (0, x2), (0, x3), (0, (w32 (x4 + 1))), (2, s0)] [] (mk E c s (hh g)))
else
  ((fget 3588 ((mk E c s (hh g))) s0).bind fun v1 =>
    if cmpI .ne v1 x2 = true then
    (Ev prog clsT X d mc134 4 [(2, 0), (0, x1), (0, x2), (0, x3), (0, (w32 (x4 + 1))), (2, s0)] [] (mk E c s (hh g)))
  else
    (if (2 : Nat) = 2 ∧ rcv ((mk E c s (hh g))) 0 12 = true then
      ((Call prog clsT X d 133 [(2, 0), (0, x4), (2, s0)] ((mk E c s (hh g)))).bind fun r2 => if r2.1.1 = 4 then none else
      Ev prog clsT X d mc134 21 [(2, 0), (0, x1), (0, x2), (0, x3), (0, x4), (2, s0)] (pushR r2.1 []) r2.2) else none))) else none)) X [0, 4, 10, 21] 12 rfl).trans (by simp (maxSteps := 10000000) only [R0_12, bindI, Option.bind_some, if_true_, and_self, ite_true, true_and, true_or, or_true])
set_option maxRecDepth 100000 in
theorem r134_21 (d : Nat) (x1 x2 x3 x4 x5 s0 : Int) : Ev prog clsT X d mc134 21 [(2, 0), (0, x1), (0, x2), (0, x3), (0, x4), (2, x5)] [(0, s0)] (mk E c s (hh g)) =
  (if cmpI .eq s0 3 = true then
  (if cmpI .ne x3 ((-1)) = true then
    (if cmpI .eq x3 x1 = true then
      (if cmpI .ne x3 x1 = true then
        (some ((0, x3), ((mk E c s (hh g)))))
      else
        (some ((0, x4), ((mk E c s (hh g))))))
    else
      (if cmpI .ne x4 x1 = true then
        (Ev prog clsT X d mc134 4 [(2, 0), (0, x1), (0, x2), (0, (-1)), (0, (w32 (x4 + 1))), (2, x5)] [] (mk E c s (hh g)))
      else
        (if cmpI .ne x3 x1 = true then
          (some ((0, x3), ((mk E c s (hh g)))))
        else
          (some ((0, x4), ((mk E c s (hh g))))))))
  else
    (Ev prog clsT X d mc134 4 [(2, 0), (0, x1), (0, x2), (0, x4), (0, (w32 (x4 + 1))), (2, x5)] [] (mk E c s (hh g))))
else
  (Ev prog clsT X d mc134 4 [(2, 0), (0, x1), (0, x2), (0, x3), (0, (w32 (x4 + 1))), (2, x5)] [] (mk E c s (hh g)))) :=
  (evk_at (r := (if cmpI .eq s0 3 = true then
  (if cmpI .ne x3 ((-1)) = true then
    (if cmpI .eq x3 x1 = true then
      (if cmpI .ne x3 x1 = true then
        (some ((0, x3), (mk E c s (hh g))))
      else
        (some ((0, x4), (mk E c s (hh g)))))
    else
      (if cmpI .ne x4 x1 = true then
        (Ev prog clsT X d mc134 4 [(2, 0), (0, x1), (0, x2), (0, (-1)), (0, (w32 (x4 + 1))), (2, x5)] [] (mk E c s (hh g)))
      else
        (if cmpI .ne x3 x1 = true then
          (some ((0, x3), (mk E c s (hh g))))
        else
          (some ((0, x4), (mk E c s (hh g)))))))
  else
    (Ev prog clsT X d mc134 4 [(2, 0), (0, x1), (0, x2), (0, x4), (0, (w32 (x4 + 1))), (2, x5)] [] (mk E c s (hh g))))
else
  (Ev prog clsT X d mc134 4 [(2, 0), (0, x1), (0, x2), (0, x3), (0, (w32 (x4 + 1))), (2, x5)] [] (mk E c s (hh g))))) X [0, 4, 10, 21] 18 rfl).trans (by simp (maxSteps := 10000000) only [bindI, Option.bind_some, if_true_, and_self, ite_true, true_and, true_or, or_true])
set_option maxRecDepth 100000 in
theorem r135_0 (d : Nat) (x1 x2 : Int) : Ev prog clsT X d mc135 0 [(2, 0), (0, x1), (0, x2)] [] (mk E c s (hh g)) =
  ((Call prog clsT X d 90 [(0, x1), (0, 0), (0, 3)] ((mk E c s (hh g)))).bind fun r1 => if r1.1.1 = 4 then none else
  Ev prog clsT X d mc135 4 [(2, 0), (0, x1), (0, x2)] (pushR r1.1 []) r1.2) :=
  evk_at X [0, 4, 11, 14, 24, 33] 5 rfl
set_option maxRecDepth 100000 in
theorem rc135_ (d : Nat) (x1 x2 : Int) : Call prog clsT X (d + 1) 135 [(2, 0), (0, x1), (0, x2)] (mk E c s (hh g)) =
  ((Call prog clsT X d 90 [(0, x1), (0, 0), (0, 3)] ((mk E c s (hh g)))).bind fun r1 => if r1.1.1 = 4 then none else
  Ev prog clsT X d mc135 4 [(2, 0), (0, x1), (0, x2)] (pushR r1.1 []) r1.2) :=
  (show Call prog clsT X (d + 1) 135 [(2, 0), (0, x1), (0, x2)] (mk E c s (hh g)) = Ev prog clsT X d mc135 0 [(2, 0), (0, x1), (0, x2)] [] (mk E c s (hh g)) from rfl).trans (r135_0 X E c s g d x1 x2 )
set_option maxRecDepth 100000 in
theorem r135_4 (d : Nat) (x1 x2 s0 : Int) : Ev prog clsT X d mc135 4 [(2, 0), (0, x1), (0, x2)] [(0, s0)] (mk E c s (hh g)) =
  (if cmpI .eq s0 0 = true then
  (some ((0, 0), ((mk E c s (hh g)))))
else
  (if cmpI .eq x2 0 = true then
    (Ev prog clsT X d mc135 14 [(2, 0), (0, x1), (0, x2)] [] (mk E c s (hh g)))
  else
    ((Call prog clsT X d 80 [(2, 72), (0, x1)] ((mk E c s (hh g)))).bind fun r1 => if r1.1.1 = 4 then none else
      Ev prog clsT X d mc135 11 [(2, 0), (0, x1), (0, x2)] (pushR r1.1 []) r1.2))) :=
  (evk_at (r := (if cmpI .eq s0 0 = true then
  (some ((0, 0), (mk E c s (hh g))))
else
  (if cmpI .eq x2 0 = true then
    (Ev prog clsT X d mc135 14 [(2, 0), (0, x1), (0, x2)] [] (mk E c s (hh g)))
  else
    ((fget 5682 ((mk E c s (hh g))) 0).bind fun v1 =>
      if (2 : Nat) = 2 ∧ rcv ((mk E c s (hh g))) v1 10 = true then
      ((Call prog clsT X d 80 [(2, v1), (0, x1)] ((mk E c s (hh g)))).bind fun r2 => if r2.1.1 = 4 then none else
      Ev prog clsT X d mc135 11 [(2, 0), (0, x1), (0, x2)] (pushR r2.1 []) r2.2) else none)))) X [0, 4, 11, 14, 24, 33] 8 rfl).trans (by simp (maxSteps := 10000000) only [R72_10, ↓F5682_0, bindI, Option.bind_some, if_true_, and_self, ite_true, true_and, true_or, or_true])
set_option maxRecDepth 100000 in
theorem r135_11 (d : Nat) (x1 x2 s0 : Int) : Ev prog clsT X d mc135 11 [(2, 0), (0, x1), (0, x2)] [(0, s0)] (mk E c s (hh g)) =
  (if cmpI .ne s0 0 = true then
  (Ev prog clsT X d mc135 14 [(2, 0), (0, x1), (0, x2)] [] (mk E c s (hh g)))
else
  (some ((0, 0), ((mk E c s (hh g)))))) :=
  (evk_at (r := (if cmpI .ne s0 0 = true then
  (Ev prog clsT X d mc135 14 [(2, 0), (0, x1), (0, x2)] [] (mk E c s (hh g)))
else
  (some ((0, 0), (mk E c s (hh g)))))) X [0, 4, 11, 14, 24, 33] 4 rfl).trans (by simp (maxSteps := 10000000) only [bindI, Option.bind_some, if_true_, and_self, ite_true, true_and, true_or, or_true])
set_option maxRecDepth 100000 in
theorem r135_14 (d : Nat) (x1 x2 : Int) : Ev prog clsT X d mc135 14 [(2, 0), (0, x1), (0, x2)] [] (mk E c s (hh g)) =
  (if cmpI .eq x2 0 = true then
  ((Call prog clsT X d 82 [(2, 72), (0, x1), (2, 30), (2, 36)] ((mk E c s (hh g)))).bind fun r1 => if r1.1.1 = 4 then none else
    Ev prog clsT X d mc135 33 [(2, 0), (0, x1), (0, x2)] (pushR r1.1 []) r1.2)
else
  ((Call prog clsT X d 81 [(2, 72), (0, x1), (2, 30), (2, 36)] ((mk E c s (hh g)))).bind fun r2 => if r2.1.1 = 4 then none else
    Ev prog clsT X d mc135 24 [(2, 0), (0, x1), (0, x2)] (pushR r2.1 []) r2.2)) :=
  (evk_at (r := (if cmpI .eq x2 0 = true then
  ((fget 5682 ((mk E c s (hh g))) 0).bind fun v1 =>
    (fget 5658 ((mk E c s (hh g))) 0).bind fun v2 =>
    (fget 5662 ((mk E c s (hh g))) 0).bind fun v3 =>
    if (2 : Nat) = 2 ∧ rcv ((mk E c s (hh g))) v1 10 = true then
    ((Call prog clsT X d 82 [(2, v1), (0, x1), (2, v2), (2, v3)] ((mk E c s (hh g)))).bind fun r4 => if r4.1.1 = 4 then none else
    Ev prog clsT X d mc135 33 [(2, 0), (0, x1), (0, x2)] (pushR r4.1 []) r4.2) else none)
else
  ((fget 5682 ((mk E c s (hh g))) 0).bind fun v5 =>
    (fget 5658 ((mk E c s (hh g))) 0).bind fun v6 =>
    (fget 5662 ((mk E c s (hh g))) 0).bind fun v7 =>
    if (2 : Nat) = 2 ∧ rcv ((mk E c s (hh g))) v5 10 = true then
    ((Call prog clsT X d 81 [(2, v5), (0, x1), (2, v6), (2, v7)] ((mk E c s (hh g)))).bind fun r8 => if r8.1.1 = 4 then none else
    Ev prog clsT X d mc135 24 [(2, 0), (0, x1), (0, x2)] (pushR r8.1 []) r8.2) else none))) X [0, 4, 11, 14, 24, 33] 11 rfl).trans (by simp (maxSteps := 10000000) only [R72_10, ↓F5658_0, ↓F5662_0, ↓F5682_0, bindI, Option.bind_some, if_true_, and_self, ite_true, true_and, true_or, or_true])
set_option maxRecDepth 100000 in
theorem r135_24 (d : Nat) (x1 x2 : Int) : Ev prog clsT X d mc135 24 [(2, 0), (0, x1), (0, x2)] [] (mk E c s (hh g)) =
  (Ev prog clsT X d mc135 33 [(2, 0), (0, x1), (0, x2)] [] (mk E c s (hh g))) :=
  evk_at X [0, 4, 11, 14, 24, 33] 3 rfl
set_option maxRecDepth 100000 in
theorem r135_33 (d : Nat) (x1 x2 : Int) : Ev prog clsT X d mc135 33 [(2, 0), (0, x1), (0, x2)] [] (mk E c s (hh g)) =
  (some ((0, 1), ((mk E c s (hh g))))) :=
  (evk_at (r := (some ((0, 1), (mk E c s (hh g))))) X [0, 4, 11, 14, 24, 33] 3 rfl).trans (by simp (maxSteps := 10000000) only [bindI, Option.bind_some, if_true_, and_self, ite_true, true_and, true_or, or_true])
set_option maxRecDepth 100000 in
theorem r136_0 (d : Nat) (x1 : Int) : Ev prog clsT X d mc136 0 [(2, 0), (0, x1)] [] (mk E c s (hh g)) =
  (Ev prog clsT X d mc136 1 [(2, 0), (0, x1)] [(0, x1)] (mk E c s (hh g))) :=
  evk_at X [0, 1, 2, 5, 6, 9, 10, 12, 13, 17, 21, 22, 24, 25, 28, 29, 32, 33, 37, 41, 44, 45] 3 rfl
set_option maxRecDepth 100000 in
theorem rc136_ (d : Nat) (x1 : Int) : Call prog clsT X (d + 1) 136 [(2, 0), (0, x1)] (mk E c s (hh g)) =
  (Ev prog clsT X d mc136 1 [(2, 0), (0, x1)] [(0, x1)] (mk E c s (hh g))) :=
  (show Call prog clsT X (d + 1) 136 [(2, 0), (0, x1)] (mk E c s (hh g)) = Ev prog clsT X d mc136 0 [(2, 0), (0, x1)] [] (mk E c s (hh g)) from rfl).trans (r136_0 X E c s g d x1 )
set_option maxRecDepth 100000 in
theorem r136_1 (d : Nat) (x1 s0 : Int) : Ev prog clsT X d mc136 1 [(2, 0), (0, x1)] [(0, s0)] (mk E c s (hh g)) =
  (if s0 < 0 ∨ 10 < s0 then Ev prog clsT X d mc136 45 [(2, 0), (0, x1)] [] ((mk E c s (hh g))) else ((#[2, 6, 10, 13, 17, 22, 25, 29, 33, 37, 41] : Array Int)[(Int.toNat (s0 - 0))]?).bind fun t1 => Ev prog clsT X d mc136 (Int.toNat t1) [(2, 0), (0, x1)] [] ((mk E c s (hh g)))) :=
  (evk_at (r := (if s0 < 0 ∨ 10 < s0 then Ev prog clsT X d mc136 45 [(2, 0), (0, x1)] [] (mk E c s (hh g)) else ((#[2, 6, 10, 13, 17, 22, 25, 29, 33, 37, 41] : Array Int)[(Int.toNat (s0 - 0))]?).bind fun t1 => Ev prog clsT X d mc136 (Int.toNat t1) [(2, 0), (0, x1)] [] (mk E c s (hh g)))) X [] 1 rfl).trans (by simp (maxSteps := 10000000) only [bindI, Option.bind_some, if_true_, and_self, ite_true, true_and, true_or, or_true])
set_option maxRecDepth 100000 in
theorem r136_2 (d : Nat) (x1 : Int) : Ev prog clsT X d mc136 2 [(2, 0), (0, x1)] [] (mk E c s (hh g)) =
  ((Call prog clsT X d 86 [(2, 1)] ((mk E c s (hh g)))).bind fun r1 => if r1.1.1 = 4 then none else
  Ev prog clsT X d mc136 5 [(2, 0), (0, x1)] (pushR r1.1 []) r1.2) :=
  (evk_at (r := ((fget 5634 ((mk E c s (hh g))) 0).bind fun v1 =>
  if (2 : Nat) = 2 ∧ rcv ((mk E c s (hh g))) v1 11 = true then
  ((Call prog clsT X d 86 [(2, v1)] ((mk E c s (hh g)))).bind fun r2 => if r2.1.1 = 4 then none else
  Ev prog clsT X d mc136 5 [(2, 0), (0, x1)] (pushR r2.1 []) r2.2) else none)) X [0, 1, 2, 5, 6, 9, 10, 12, 13, 17, 21, 22, 24, 25, 28, 29, 32, 33, 37, 41, 44, 45] 4 rfl).trans (by simp (maxSteps := 10000000) only [R1_11, ↓F5634_0, bindI, Option.bind_some, if_true_, and_self, ite_true, true_and, true_or, or_true])
set_option maxRecDepth 100000 in
theorem r136_5 (d : Nat) (x1 s0 : Int) : Ev prog clsT X d mc136 5 [(2, 0), (0, x1)] [(0, s0)] (mk E c s (hh g)) =
  (some ((0, s0), ((mk E c s (hh g))))) :=
  (evk_at (r := (some ((0, s0), (mk E c s (hh g))))) X [0, 1, 2, 5, 6, 9, 10, 12, 13, 17, 21, 22, 24, 25, 28, 29, 32, 33, 37, 41, 44, 45] 2 rfl).trans (by simp (maxSteps := 10000000) only [bindI, Option.bind_some, if_true_, and_self, ite_true, true_and, true_or, or_true])
set_option maxRecDepth 100000 in
theorem r136_6 (d : Nat) (x1 : Int) : Ev prog clsT X d mc136 6 [(2, 0), (0, x1)] [] (mk E c s (hh g)) =
  ((Call prog clsT X d 87 [(2, 1)] ((mk E c s (hh g)))).bind fun r1 => if r1.1.1 = 4 then none else
  Ev prog clsT X d mc136 9 [(2, 0), (0, x1)] (pushR r1.1 []) r1.2) :=
  (evk_at (r := ((fget 5634 ((mk E c s (hh g))) 0).bind fun v1 =>
  if (2 : Nat) = 2 ∧ rcv ((mk E c s (hh g))) v1 11 = true then
  ((Call prog clsT X d 87 [(2, v1)] ((mk E c s (hh g)))).bind fun r2 => if r2.1.1 = 4 then none else
  Ev prog clsT X d mc136 9 [(2, 0), (0, x1)] (pushR r2.1 []) r2.2) else none)) X [0, 1, 2, 5, 6, 9, 10, 12, 13, 17, 21, 22, 24, 25, 28, 29, 32, 33, 37, 41, 44, 45] 4 rfl).trans (by simp (maxSteps := 10000000) only [R1_11, ↓F5634_0, bindI, Option.bind_some, if_true_, and_self, ite_true, true_and, true_or, or_true])
set_option maxRecDepth 100000 in
theorem r136_9 (d : Nat) (x1 s0 : Int) : Ev prog clsT X d mc136 9 [(2, 0), (0, x1)] [(0, s0)] (mk E c s (hh g)) =
  (some ((0, s0), ((mk E c s (hh g))))) :=
  (evk_at (r := (some ((0, s0), (mk E c s (hh g))))) X [0, 1, 2, 5, 6, 9, 10, 12, 13, 17, 21, 22, 24, 25, 28, 29, 32, 33, 37, 41, 44, 45] 2 rfl).trans (by simp (maxSteps := 10000000) only [bindI, Option.bind_some, if_true_, and_self, ite_true, true_and, true_or, or_true])
set_option maxRecDepth 100000 in
theorem r136_10 (d : Nat) (x1 : Int) : Ev prog clsT X d mc136 10 [(2, 0), (0, x1)] [] (mk E c s (hh g)) =
  ((Call prog clsT X d 137 [(2, 0)] ((mk E c s (hh g)))).bind fun r1 => if r1.1.1 = 4 then none else
  Ev prog clsT X d mc136 12 [(2, 0), (0, x1)] (pushR r1.1 []) r1.2) :=
  (evk_at (r := (if (2 : Nat) = 2 ∧ rcv ((mk E c s (hh g))) 0 12 = true then
  ((Call prog clsT X d 137 [(2, 0)] ((mk E c s (hh g)))).bind fun r1 => if r1.1.1 = 4 then none else
  Ev prog clsT X d mc136 12 [(2, 0), (0, x1)] (pushR r1.1 []) r1.2) else none)) X [0, 1, 2, 5, 6, 9, 10, 12, 13, 17, 21, 22, 24, 25, 28, 29, 32, 33, 37, 41, 44, 45] 3 rfl).trans (by simp (maxSteps := 10000000) only [R0_12, bindI, Option.bind_some, if_true_, and_self, ite_true, true_and, true_or, or_true])
set_option maxRecDepth 100000 in
theorem r136_12 (d : Nat) (x1 s0 : Int) : Ev prog clsT X d mc136 12 [(2, 0), (0, x1)] [(0, s0)] (mk E c s (hh g)) =
  (some ((0, s0), ((mk E c s (hh g))))) :=
  (evk_at (r := (some ((0, s0), (mk E c s (hh g))))) X [0, 1, 2, 5, 6, 9, 10, 12, 13, 17, 21, 22, 24, 25, 28, 29, 32, 33, 37, 41, 44, 45] 2 rfl).trans (by simp (maxSteps := 10000000) only [bindI, Option.bind_some, if_true_, and_self, ite_true, true_and, true_or, or_true])
set_option maxRecDepth 100000 in
theorem r136_13 (d : Nat) (x1 : Int) : Ev prog clsT X d mc136 13 [(2, 0), (0, x1)] [] (mk E c s (hh g)) =
  (some ((0, (g 30 0)), ((mk E c s (hh g))))) :=
  (evk_at (r := ((fget 5658 ((mk E c s (hh g))) 0).bind fun v1 =>
  (fget 1024 ((mk E c s (hh g))) v1).bind fun v2 =>
  some ((0, v2), (mk E c s (hh g))))) X [0, 1, 2, 5, 6, 9, 10, 12, 13, 17, 21, 22, 24, 25, 28, 29, 32, 33, 37, 41, 44, 45] 5 rfl).trans (by simp (maxSteps := 10000000) only [↓F1024_30, ↓F5658_0, bindI, Option.bind_some, if_true_, and_self, ite_true, true_and, true_or, or_true])
set_option maxRecDepth 100000 in
theorem r136_17 (d : Nat) (x1 : Int) : Ev prog clsT X d mc136 17 [(2, 0), (0, x1)] [] (mk E c s (hh g)) =
  ((Call prog clsT X d 264 [(1, (g 30 1))] ((mk E c s (hh g)))).bind fun r1 => if r1.1.1 = 4 then none else
  Ev prog clsT X d mc136 21 [(2, 0), (0, x1)] (pushR r1.1 []) r1.2) :=
  (evk_at (r := ((fget 5658 ((mk E c s (hh g))) 0).bind fun v1 =>
  (fget 1029 ((mk E c s (hh g))) v1).bind fun v2 =>
  (Call prog clsT X d 264 [(1, v2)] ((mk E c s (hh g)))).bind fun r3 => if r3.1.1 = 4 then none else
  Ev prog clsT X d mc136 21 [(2, 0), (0, x1)] (pushR r3.1 []) r3.2)) X [0, 1, 2, 5, 6, 9, 10, 12, 13, 17, 21, 22, 24, 25, 28, 29, 32, 33, 37, 41, 44, 45] 5 rfl).trans (by simp (maxSteps := 10000000) only [↓F1029_30, ↓F5658_0, bindI, Option.bind_some, if_true_, and_self, ite_true, true_and, true_or, or_true])
set_option maxRecDepth 100000 in
theorem r136_21 (d : Nat) (x1 s0 : Int) : Ev prog clsT X d mc136 21 [(2, 0), (0, x1)] [(0, s0)] (mk E c s (hh g)) =
  (some ((0, s0), ((mk E c s (hh g))))) :=
  (evk_at (r := (some ((0, s0), (mk E c s (hh g))))) X [0, 1, 2, 5, 6, 9, 10, 12, 13, 17, 21, 22, 24, 25, 28, 29, 32, 33, 37, 41, 44, 45] 2 rfl).trans (by simp (maxSteps := 10000000) only [bindI, Option.bind_some, if_true_, and_self, ite_true, true_and, true_or, or_true])
set_option maxRecDepth 100000 in
theorem r136_22 (d : Nat) (x1 : Int) : Ev prog clsT X d mc136 22 [(2, 0), (0, x1)] [] (mk E c s (hh g)) =
  ((Call prog clsT X d 138 [(2, 0)] ((mk E c s (hh g)))).bind fun r1 => if r1.1.1 = 4 then none else
  Ev prog clsT X d mc136 24 [(2, 0), (0, x1)] (pushR r1.1 []) r1.2) :=
  (evk_at (r := (if (2 : Nat) = 2 ∧ rcv ((mk E c s (hh g))) 0 12 = true then
  ((Call prog clsT X d 138 [(2, 0)] ((mk E c s (hh g)))).bind fun r1 => if r1.1.1 = 4 then none else
  Ev prog clsT X d mc136 24 [(2, 0), (0, x1)] (pushR r1.1 []) r1.2) else none)) X [0, 1, 2, 5, 6, 9, 10, 12, 13, 17, 21, 22, 24, 25, 28, 29, 32, 33, 37, 41, 44, 45] 3 rfl).trans (by simp (maxSteps := 10000000) only [R0_12, bindI, Option.bind_some, if_true_, and_self, ite_true, true_and, true_or, or_true])
set_option maxRecDepth 100000 in
theorem r136_24 (d : Nat) (x1 s0 : Int) : Ev prog clsT X d mc136 24 [(2, 0), (0, x1)] [(0, s0)] (mk E c s (hh g)) =
  (some ((0, s0), ((mk E c s (hh g))))) :=
  (evk_at (r := (some ((0, s0), (mk E c s (hh g))))) X [0, 1, 2, 5, 6, 9, 10, 12, 13, 17, 21, 22, 24, 25, 28, 29, 32, 33, 37, 41, 44, 45] 2 rfl).trans (by simp (maxSteps := 10000000) only [bindI, Option.bind_some, if_true_, and_self, ite_true, true_and, true_or, or_true])
set_option maxRecDepth 100000 in
theorem r136_25 (d : Nat) (x1 : Int) : Ev prog clsT X d mc136 25 [(2, 0), (0, x1)] [] (mk E c s (hh g)) =
  ((Call prog clsT X d 35 [(2, 36)] ((mk E c s (hh g)))).bind fun r1 => if r1.1.1 = 4 then none else
  Ev prog clsT X d mc136 28 [(2, 0), (0, x1)] (pushR r1.1 []) r1.2) :=
  (evk_at (r := ((fget 5662 ((mk E c s (hh g))) 0).bind fun v1 =>
  if (2 : Nat) = 2 ∧ rcv ((mk E c s (hh g))) v1 5 = true then
  ((Call prog clsT X d 35 [(2, v1)] ((mk E c s (hh g)))).bind fun r2 => if r2.1.1 = 4 then none else
  Ev prog clsT X d mc136 28 [(2, 0), (0, x1)] (pushR r2.1 []) r2.2) else none)) X [0, 1, 2, 5, 6, 9, 10, 12, 13, 17, 21, 22, 24, 25, 28, 29, 32, 33, 37, 41, 44, 45] 4 rfl).trans (by simp (maxSteps := 10000000) only [R36_5, ↓F5662_0, bindI, Option.bind_some, if_true_, and_self, ite_true, true_and, true_or, or_true])
set_option maxRecDepth 100000 in
theorem r136_28 (d : Nat) (x1 s0 : Int) : Ev prog clsT X d mc136 28 [(2, 0), (0, x1)] [(0, s0)] (mk E c s (hh g)) =
  (some ((0, s0), ((mk E c s (hh g))))) :=
  (evk_at (r := (some ((0, s0), (mk E c s (hh g))))) X [0, 1, 2, 5, 6, 9, 10, 12, 13, 17, 21, 22, 24, 25, 28, 29, 32, 33, 37, 41, 44, 45] 2 rfl).trans (by simp (maxSteps := 10000000) only [bindI, Option.bind_some, if_true_, and_self, ite_true, true_and, true_or, or_true])
set_option maxRecDepth 100000 in
theorem r136_29 (d : Nat) (x1 : Int) : Ev prog clsT X d mc136 29 [(2, 0), (0, x1)] [] (mk E c s (hh g)) =
  ((Call prog clsT X d 36 [(2, 36)] ((mk E c s (hh g)))).bind fun r1 => if r1.1.1 = 4 then none else
  Ev prog clsT X d mc136 32 [(2, 0), (0, x1)] (pushR r1.1 []) r1.2) :=
  (evk_at (r := ((fget 5662 ((mk E c s (hh g))) 0).bind fun v1 =>
  if (2 : Nat) = 2 ∧ rcv ((mk E c s (hh g))) v1 5 = true then
  ((Call prog clsT X d 36 [(2, v1)] ((mk E c s (hh g)))).bind fun r2 => if r2.1.1 = 4 then none else
  Ev prog clsT X d mc136 32 [(2, 0), (0, x1)] (pushR r2.1 []) r2.2) else none)) X [0, 1, 2, 5, 6, 9, 10, 12, 13, 17, 21, 22, 24, 25, 28, 29, 32, 33, 37, 41, 44, 45] 4 rfl).trans (by simp (maxSteps := 10000000) only [R36_5, ↓F5662_0, bindI, Option.bind_some, if_true_, and_self, ite_true, true_and, true_or, or_true])
set_option maxRecDepth 100000 in
theorem r136_32 (d : Nat) (x1 s0 : Int) : Ev prog clsT X d mc136 32 [(2, 0), (0, x1)] [(0, s0)] (mk E c s (hh g)) =
  (some ((0, s0), ((mk E c s (hh g))))) :=
  (evk_at (r := (some ((0, s0), (mk E c s (hh g))))) X [0, 1, 2, 5, 6, 9, 10, 12, 13, 17, 21, 22, 24, 25, 28, 29, 32, 33, 37, 41, 44, 45] 2 rfl).trans (by simp (maxSteps := 10000000) only [bindI, Option.bind_some, if_true_, and_self, ite_true, true_and, true_or, or_true])
set_option maxRecDepth 100000 in
theorem r136_33 (d : Nat) (x1 : Int) : Ev prog clsT X d mc136 33 [(2, 0), (0, x1)] [] (mk E c s (hh g)) =
  ((fget 3592 ((mk E c s (hh g))) ((g 0 3))).bind fun v1 =>
  some ((0, v1), ((mk E c s (hh g))))) :=
  (evk_at (r := ((fget 5646 ((mk E c s (hh g))) 0).bind fun v1 =>
  (fget 3592 ((mk E c s (hh g))) v1).bind fun v2 =>
  some ((0, v2), (mk E c s (hh g))))) X [0, 1, 2, 5, 6, 9, 10, 12, 13, 17, 21, 22, 24, 25, 28, 29, 32, 33, 37, 41, 44, 45] 5 rfl).trans (by simp (maxSteps := 10000000) only [↓F5646_0, bindI, Option.bind_some, if_true_, and_self, ite_true, true_and, true_or, or_true])
set_option maxRecDepth 100000 in
theorem r136_37 (d : Nat) (x1 : Int) : Ev prog clsT X d mc136 37 [(2, 0), (0, x1)] [] (mk E c s (hh g)) =
  (some ((0, (g 9 1)), ((mk E c s (hh g))))) :=
  (evk_at (r := ((fget 5638 ((mk E c s (hh g))) 0).bind fun v1 =>
  (fget 2564 ((mk E c s (hh g))) v1).bind fun v2 =>
  some ((0, v2), (mk E c s (hh g))))) X [0, 1, 2, 5, 6, 9, 10, 12, 13, 17, 21, 22, 24, 25, 28, 29, 32, 33, 37, 41, 44, 45] 5 rfl).trans (by simp (maxSteps := 10000000) only [↓F2564_9, ↓F5638_0, bindI, Option.bind_some, if_true_, and_self, ite_true, true_and, true_or, or_true])
set_option maxRecDepth 100000 in
theorem r136_41 (d : Nat) (x1 : Int) : Ev prog clsT X d mc136 41 [(2, 0), (0, x1)] [] (mk E c s (hh g)) =
  ((Call prog clsT X d 25 [(2, 30)] ((mk E c s (hh g)))).bind fun r1 => if r1.1.1 = 4 then none else
  Ev prog clsT X d mc136 44 [(2, 0), (0, x1)] (pushR r1.1 []) r1.2) :=
  (evk_at (r := ((fget 5658 ((mk E c s (hh g))) 0).bind fun v1 =>
  if (2 : Nat) = 2 ∧ rcv ((mk E c s (hh g))) v1 3 = true then
  ((Call prog clsT X d 25 [(2, v1)] ((mk E c s (hh g)))).bind fun r2 => if r2.1.1 = 4 then none else
  Ev prog clsT X d mc136 44 [(2, 0), (0, x1)] (pushR r2.1 []) r2.2) else none)) X [0, 1, 2, 5, 6, 9, 10, 12, 13, 17, 21, 22, 24, 25, 28, 29, 32, 33, 37, 41, 44, 45] 4 rfl).trans (by simp (maxSteps := 10000000) only [R30_3, ↓F5658_0, bindI, Option.bind_some, if_true_, and_self, ite_true, true_and, true_or, or_true])
set_option maxRecDepth 100000 in
theorem r136_44 (d : Nat) (x1 s0 : Int) : Ev prog clsT X d mc136 44 [(2, 0), (0, x1)] [(0, s0)] (mk E c s (hh g)) =
  (some ((0, s0), ((mk E c s (hh g))))) :=
  (evk_at (r := (some ((0, s0), (mk E c s (hh g))))) X [0, 1, 2, 5, 6, 9, 10, 12, 13, 17, 21, 22, 24, 25, 28, 29, 32, 33, 37, 41, 44, 45] 2 rfl).trans (by simp (maxSteps := 10000000) only [bindI, Option.bind_some, if_true_, and_self, ite_true, true_and, true_or, or_true])
set_option maxRecDepth 100000 in
theorem r136_45 (d : Nat) (x1 : Int) : Ev prog clsT X d mc136 45 [(2, 0), (0, x1)] [] (mk E c s (hh g)) =
  (some ((0, (-1)), ((mk E c s (hh g))))) :=
  (evk_at (r := (some ((0, (-1)), (mk E c s (hh g))))) X [0, 1, 2, 5, 6, 9, 10, 12, 13, 17, 21, 22, 24, 25, 28, 29, 32, 33, 37, 41, 44, 45] 3 rfl).trans (by simp (maxSteps := 10000000) only [bindI, Option.bind_some, if_true_, and_self, ite_true, true_and, true_or, or_true])
set_option maxRecDepth 100000 in
theorem r137_0 (d : Nat) : Ev prog clsT X d mc137 0 [(2, 0), (3, 0), (3, 0)] [] (mk E c s (hh g)) =
  (Ev prog clsT X d mc137 4 [(2, 0), (0, 0), (0, 0)] [] (mk E c s (hh g))) :=
  evk_at X [0, 4] 6 rfl
set_option maxRecDepth 100000 in
theorem rc137_ (d : Nat) : Call prog clsT X (d + 1) 137 [(2, 0)] (mk E c s (hh g)) =
  (Ev prog clsT X d mc137 4 [(2, 0), (0, 0), (0, 0)] [] (mk E c s (hh g))) :=
  (show Call prog clsT X (d + 1) 137 [(2, 0)] (mk E c s (hh g)) = Ev prog clsT X d mc137 0 [(2, 0), (3, 0), (3, 0)] [] (mk E c s (hh g)) from rfl).trans (r137_0 X E c s g d  )
set_option maxRecDepth 100000 in
theorem r137_4 (d : Nat) (x1 x2 : Int) : Ev prog clsT X d mc137 4 [(2, 0), (0, x1), (0, x2)] [] (mk E c s (hh g)) =
  (if cmpI .ge x2 10 = true then
  (some ((0, x1), ((mk E c s (hh g)))))
else
  (if inb x2 10 = true then
    (if (2 : Nat) = 2 ∧ (g 16 (Int.toNat x2)) ≠ -5 then (if (decide ((g 16 (Int.toNat x2)) = -1)) = true then
    (Ev prog clsT X d mc137 4 [(2, 0), (0, (w32 (x1 + 0))), (0, (w32 (x2 + 1)))] [] (mk E c s (hh g)))
  else
    (Ev prog clsT X d mc137 4 [(2, 0), (0, (w32 (x1 + 1))), (0, (w32 (x2 + 1)))] [] (mk E c s (hh g)))) else none)
  else none)) :=
  (evk_at (r := (if cmpI .ge x2 10 = true then
  (some ((0, x1), (mk E c s (hh g))))
else
  ((fget 5642 ((mk E c s (hh g))) 0).bind fun v1 =>
    if (lay? ((mk E c s (hh g))) v1).1 = 104 ∨ (lay? ((mk E c s (hh g))) v1).1 = 105 then (aget X (lay? ((mk E c s (hh g))) v1).1 ((mk E c s (hh g))) v1 x2).bind fun v2 =>
    (if (2 : Nat) = 2 ∧ v2 ≠ -5 then (if (decide (v2 = -1)) = true then
    (Ev prog clsT X d mc137 4 [(2, 0), (0, (w32 (x1 + 0))), (0, (w32 (x2 + 1)))] [] (mk E c s (hh g)))
  else
    (Ev prog clsT X d mc137 4 [(2, 0), (0, (w32 (x1 + 1))), (0, (w32 (x2 + 1)))] [] (mk E c s (hh g)))) else none) else none))) X [0, 4] 17 rfl).trans (by simp (maxSteps := 10000000) only [lay_16, ↓A16, ↓F5642_0, bindI, Option.bind_some, if_true_, and_self, ite_true, true_and, true_or, or_true])
set_option maxRecDepth 100000 in
theorem r138_0 (d : Nat) : Ev prog clsT X d mc138 0 [(2, 0), (3, 0), (3, 0)] [] (mk E c s (hh g)) =
  (Ev prog clsT X d mc138 4 [(2, 0), (0, 0), (0, 0)] [] (mk E c s (hh g))) :=
  evk_at X [0, 4, 14, 18] 6 rfl
set_option maxRecDepth 100000 in
theorem rc138_ (d : Nat) : Call prog clsT X (d + 1) 138 [(2, 0)] (mk E c s (hh g)) =
  (Ev prog clsT X d mc138 4 [(2, 0), (0, 0), (0, 0)] [] (mk E c s (hh g))) :=
  (show Call prog clsT X (d + 1) 138 [(2, 0)] (mk E c s (hh g)) = Ev prog clsT X d mc138 0 [(2, 0), (3, 0), (3, 0)] [] (mk E c s (hh g)) from rfl).trans (r138_0 X E c s g d  )
set_option maxRecDepth 100000 in
theorem r138_4 (d : Nat) (x1 x2 : Int) : Ev prog clsT X d mc138 4 [(2, 0), (0, x1), (0, x2)] [] (mk E c s (hh g)) =
  (if cmpI .ge x2 ((g 30 0)) = true then
  (some ((0, x1), ((mk E c s (hh g)))))
else
  ((Call prog clsT X d 19 [(2, 30), (0, x2)] ((mk E c s (hh g)))).bind fun r1 => if r1.1.1 = 4 then none else
    Ev prog clsT X d mc138 14 [(2, 0), (0, x1), (0, x2)] (pushR r1.1 [(0, x1)]) r1.2)) :=
  (evk_at (r := ((fget 5658 ((mk E c s (hh g))) 0).bind fun v1 =>
  (fget 1024 ((mk E c s (hh g))) v1).bind fun v2 =>
  if cmpI .ge x2 v2 = true then
  (some ((0, x1), (mk E c s (hh g))))
else
  ((fget 5658 ((mk E c s (hh g))) 0).bind fun v3 =>
    if (2 : Nat) = 2 ∧ rcv ((mk E c s (hh g))) v3 3 = true then
    ((Call prog clsT X d 19 [(2, v3), (0, x2)] ((mk E c s (hh g)))).bind fun r4 => if r4.1.1 = 4 then none else
    Ev prog clsT X d mc138 14 [(2, 0), (0, x1), (0, x2)] (pushR r4.1 [(0, x1)]) r4.2) else none))) X [0, 4, 14, 18] 11 rfl).trans (by simp (maxSteps := 10000000) only [R30_3, ↓F1024_30, ↓F5658_0, bindI, Option.bind_some, if_true_, and_self, ite_true, true_and, true_or, or_true])
set_option maxRecDepth 100000 in
theorem r138_14 (d : Nat) (x1 x2 s0 s1 : Int) : Ev prog clsT X d mc138 14 [(2, 0), (0, x1), (0, x2)] [(0, s1), (0, s0)] (mk E c s (hh g)) =
  (if cmpI .eq s1 0 = true then
  (Ev prog clsT X d mc138 4 [(2, 0), (0, (w32 (s0 + 0))), (0, (w32 (x2 + 1)))] [] (mk E c s (hh g)))
else
  ((Call prog clsT X d 139 [(2, 0), (0, x2)] ((mk E c s (hh g)))).bind fun r1 => if r1.1.1 = 4 then none else
    Ev prog clsT X d mc138 18 [(2, 0), (0, x1), (0, x2)] (pushR r1.1 [(0, s0)]) r1.2)) :=
  (evk_at (r := (if cmpI .eq s1 0 = true then
  (Ev prog clsT X d mc138 4 [(2, 0), (0, (w32 (s0 + 0))), (0, (w32 (x2 + 1)))] [] (mk E c s (hh g)))
else
  (if (2 : Nat) = 2 ∧ rcv ((mk E c s (hh g))) 0 12 = true then
    ((Call prog clsT X d 139 [(2, 0), (0, x2)] ((mk E c s (hh g)))).bind fun r1 => if r1.1.1 = 4 then none else
    Ev prog clsT X d mc138 18 [(2, 0), (0, x1), (0, x2)] (pushR r1.1 [(0, s0)]) r1.2) else none))) X [0, 4, 14, 18] 8 rfl).trans (by simp (maxSteps := 10000000) only [R0_12, bindI, Option.bind_some, if_true_, and_self, ite_true, true_and, true_or, or_true])
set_option maxRecDepth 100000 in
theorem r138_18 (d : Nat) (x1 x2 s0 s1 : Int) : Ev prog clsT X d mc138 18 [(2, 0), (0, x1), (0, x2)] [(0, s1), (0, s0)] (mk E c s (hh g)) =
  (if cmpI .eq s1 ((-1)) = true then
  (Ev prog clsT X d mc138 4 [(2, 0), (0, (w32 (s0 + 0))), (0, (w32 (x2 + 1)))] [] (mk E c s (hh g)))
else
  (Ev prog clsT X d mc138 4 [(2, 0), (0, (w32 (s0 + 1))), (0, (w32 (x2 + 1)))] [] (mk E c s (hh g)))) :=
  evk_at X [0, 4, 14, 18] 10 rfl
set_option maxRecDepth 100000 in
theorem r139_0 (d : Nat) (x1 : Int) : Ev prog clsT X d mc139 0 [(2, 0), (0, x1)] [] (mk E c s (hh g)) =
  ((Call prog clsT X d 108 [(2, 0), (0, x1)] ((mk E c s (hh g)))).bind fun r1 => if r1.1.1 = 4 then none else
  Ev prog clsT X d mc139 3 [(2, 0), (0, x1)] (pushR r1.1 []) r1.2) :=
  (evk_at (r := (if (2 : Nat) = 2 ∧ rcv ((mk E c s (hh g))) 0 12 = true then
  ((Call prog clsT X d 108 [(2, 0), (0, x1)] ((mk E c s (hh g)))).bind fun r1 => if r1.1.1 = 4 then none else
  Ev prog clsT X d mc139 3 [(2, 0), (0, x1)] (pushR r1.1 []) r1.2) else none)) X [0, 3, 12, 15] 4 rfl).trans (by simp (maxSteps := 10000000) only [R0_12, bindI, Option.bind_some, if_true_, and_self, ite_true, true_and, true_or, or_true])
set_option maxRecDepth 100000 in
theorem rc139_ (d : Nat) (x1 : Int) : Call prog clsT X (d + 1) 139 [(2, 0), (0, x1)] (mk E c s (hh g)) =
  ((Call prog clsT X d 108 [(2, 0), (0, x1)] ((mk E c s (hh g)))).bind fun r1 => if r1.1.1 = 4 then none else
  Ev prog clsT X d mc139 3 [(2, 0), (0, x1)] (pushR r1.1 []) r1.2) :=
  (show Call prog clsT X (d + 1) 139 [(2, 0), (0, x1)] (mk E c s (hh g)) = Ev prog clsT X d mc139 0 [(2, 0), (0, x1)] [] (mk E c s (hh g)) from rfl).trans (r139_0 X E c s g d x1 )
set_option maxRecDepth 100000 in
theorem r139_3 (d : Nat) (x1 : Int) : Ev prog clsT X d mc139 3 [(2, 0), (0, x1)] [] (mk E c s (hh g)) =
  (if inb x1 40 = true then
  ((Call prog clsT X d 97 [(2, 0), (0, (g 31 (Int.toNat x1)))] ((mk E c s (hh g)))).bind fun r1 => if r1.1.1 = 4 then none else
  Ev prog clsT X d mc139 12 [(2, 0), (0, x1)] (pushR r1.1 [(2, 27)]) r1.2)
else none) :=
  (evk_at (r := ((fget 5654 ((mk E c s (hh g))) 0).bind fun v1 =>
  (fget 5658 ((mk E c s (hh g))) 0).bind fun v2 =>
  (fget 1034 ((mk E c s (hh g))) v2).bind fun v3 =>
  (aget X 100 ((mk E c s (hh g))) v3 x1).bind fun v4 =>
  if (2 : Nat) = 2 ∧ rcv ((mk E c s (hh g))) 0 12 = true then
  ((Call prog clsT X d 97 [(2, 0), (0, v4)] ((mk E c s (hh g)))).bind fun r5 => if r5.1.1 = 4 then none else
  Ev prog clsT X d mc139 12 [(2, 0), (0, x1)] (pushR r5.1 [(2, v1)]) r5.2) else none)) X [0, 3, 12, 15] 10 rfl).trans (by simp (maxSteps := 10000000) only [R0_12, ↓A31, ↓F1034_30, ↓F5654_0, ↓F5658_0, bindI, Option.bind_some, if_true_, and_self, ite_true, true_and, true_or, or_true])
set_option maxRecDepth 100000 in
theorem r139_12 (d : Nat) (x1 s1 : Int) : Ev prog clsT X d mc139 12 [(2, 0), (0, x1)] [(2, s1), (2, 27)] (mk E c s (hh g)) =
  ((Call prog clsT X d 72 [(2, 27), (2, s1), (2, (g 0 3))] ((mk E c s (hh g)))).bind fun r1 => if r1.1.1 = 4 then none else
  Ev prog clsT X d mc139 15 [(2, 0), (0, x1)] (pushR r1.1 []) r1.2) :=
  (evk_at (r := ((fget 5646 ((mk E c s (hh g))) 0).bind fun v1 =>
  if (2 : Nat) = 2 ∧ rcv ((mk E c s (hh g))) 27 9 = true then
  ((Call prog clsT X d 72 [(2, 27), (2, s1), (2, v1)] ((mk E c s (hh g)))).bind fun r2 => if r2.1.1 = 4 then none else
  Ev prog clsT X d mc139 15 [(2, 0), (0, x1)] (pushR r2.1 []) r2.2) else none)) X [0, 3, 12, 15] 4 rfl).trans (by simp (maxSteps := 10000000) only [R27_9, ↓F5646_0, bindI, Option.bind_some, if_true_, and_self, ite_true, true_and, true_or, or_true])
set_option maxRecDepth 100000 in
theorem r139_15 (d : Nat) (x1 s0 : Int) : Ev prog clsT X d mc139 15 [(2, 0), (0, x1)] [(0, s0)] (mk E c s (hh g)) =
  (some ((0, s0), ((mk E c s (hh g))))) :=
  (evk_at (r := (some ((0, s0), (mk E c s (hh g))))) X [0, 3, 12, 15] 2 rfl).trans (by simp (maxSteps := 10000000) only [bindI, Option.bind_some, if_true_, and_self, ite_true, true_and, true_or, or_true])
set_option maxRecDepth 100000 in
theorem r140_0 (d : Nat) (x1 : Int) : Ev prog clsT X d mc140 0 [(2, 0), (0, x1)] [] (mk E c s (hh g)) =
  ((Call prog clsT X d 20 [(2, 30), (0, x1)] ((mk E c s (hh g)))).bind fun r1 => if r1.1.1 = 4 then none else
  Ev prog clsT X d mc140 4 [(2, 0), (0, x1)] (pushR r1.1 []) r1.2) :=
  (evk_at (r := ((fget 5658 ((mk E c s (hh g))) 0).bind fun v1 =>
  if (2 : Nat) = 2 ∧ rcv ((mk E c s (hh g))) v1 3 = true then
  ((Call prog clsT X d 20 [(2, v1), (0, x1)] ((mk E c s (hh g)))).bind fun r2 => if r2.1.1 = 4 then none else
  Ev prog clsT X d mc140 4 [(2, 0), (0, x1)] (pushR r2.1 []) r2.2) else none)) X [0, 4, 13] 5 rfl).trans (by simp (maxSteps := 10000000) only [R30_3, ↓F5658_0, bindI, Option.bind_some, if_true_, and_self, ite_true, true_and, true_or, or_true])
set_option maxRecDepth 100000 in
theorem rc140_ (d : Nat) (x1 : Int) : Call prog clsT X (d + 1) 140 [(2, 0), (0, x1)] (mk E c s (hh g)) =
  ((Call prog clsT X d 20 [(2, 30), (0, x1)] ((mk E c s (hh g)))).bind fun r1 => if r1.1.1 = 4 then none else
  Ev prog clsT X d mc140 4 [(2, 0), (0, x1)] (pushR r1.1 []) r1.2) :=
  (show Call prog clsT X (d + 1) 140 [(2, 0), (0, x1)] (mk E c s (hh g)) = Ev prog clsT X d mc140 0 [(2, 0), (0, x1)] [] (mk E c s (hh g)) from rfl).trans (r140_0 X E c s g d x1 )
set_option maxRecDepth 100000 in
theorem r140_4 (d : Nat) (x1 s0 : Int) : Ev prog clsT X d mc140 4 [(2, 0), (0, x1)] [(0, s0)] (mk E c s (hh g)) =
  (if cmpI .ne s0 0 = true then
  ((Call prog clsT X d 139 [(2, 0), (0, x1)] ((mk E c s (hh g)))).bind fun r1 => if r1.1.1 = 4 then none else
    Ev prog clsT X d mc140 13 [(2, 0), (0, x1)] (pushR r1.1 []) r1.2)
else
  (some ((4, 0), ((((mk E c s (hh g)))).1, (((mk E c s (hh g)))).2.1, (((mk E c s (hh g)))).2.2.1 + 8, (((mk E c s (hh g)))).2.2.2 + 64)))) :=
  (evk_at (r := (if cmpI .ne s0 0 = true then
  (if (2 : Nat) = 2 ∧ rcv ((mk E c s (hh g))) 0 12 = true then
    ((Call prog clsT X d 139 [(2, 0), (0, x1)] ((mk E c s (hh g)))).bind fun r1 => if r1.1.1 = 4 then none else
    Ev prog clsT X d mc140 13 [(2, 0), (0, x1)] (pushR r1.1 []) r1.2) else none)
else
  (some ((4, 0), ((((mk E c s (hh g)))).1, (((mk E c s (hh g)))).2.1, (((mk E c s (hh g)))).2.2.1 + 8, (((mk E c s (hh g)))).2.2.2 + 64))))) X [0, 4, 13] 5 rfl).trans (by simp (maxSteps := 10000000) only [R0_12, bindI, Option.bind_some, if_true_, and_self, ite_true, true_and, true_or, or_true])
set_option maxRecDepth 100000 in
theorem r140_13 (d : Nat) (x1 s0 : Int) : Ev prog clsT X d mc140 13 [(2, 0), (0, x1)] [(0, s0)] (mk E c s (hh g)) =
  (some ((0, s0), ((mk E c s (hh g))))) :=
  (evk_at (r := (some ((0, s0), (mk E c s (hh g))))) X [0, 4, 13] 2 rfl).trans (by simp (maxSteps := 10000000) only [bindI, Option.bind_some, if_true_, and_self, ite_true, true_and, true_or, or_true])
set_option maxRecDepth 100000 in
theorem r141_0 (d : Nat) (x1 x2 : Int) : Ev prog clsT X d mc141 0 [(2, 0), (0, x1), (0, x2)] [] (mk E c s (hh g)) =
  ((Call prog clsT X d 20 [(2, 30), (0, x1)] ((mk E c s (hh g)))).bind fun r1 => if r1.1.1 = 4 then none else
  Ev prog clsT X d mc141 4 [(2, 0), (0, x1), (0, x2)] (pushR r1.1 []) r1.2) :=
  (evk_at (r := ((fget 5658 ((mk E c s (hh g))) 0).bind fun v1 =>
  if (2 : Nat) = 2 ∧ rcv ((mk E c s (hh g))) v1 3 = true then
  ((Call prog clsT X d 20 [(2, v1), (0, x1)] ((mk E c s (hh g)))).bind fun r2 => if r2.1.1 = 4 then none else
  Ev prog clsT X d mc141 4 [(2, 0), (0, x1), (0, x2)] (pushR r2.1 []) r2.2) else none)) X [0, 4, 9, 40, 48] 5 rfl).trans (by simp (maxSteps := 10000000) only [R30_3, ↓F5658_0, bindI, Option.bind_some, if_true_, and_self, ite_true, true_and, true_or, or_true])
set_option maxRecDepth 100000 in
theorem rc141_ (d : Nat) (x1 x2 : Int) : Call prog clsT X (d + 1) 141 [(2, 0), (0, x1), (0, x2)] (mk E c s (hh g)) =
  ((Call prog clsT X d 20 [(2, 30), (0, x1)] ((mk E c s (hh g)))).bind fun r1 => if r1.1.1 = 4 then none else
  Ev prog clsT X d mc141 4 [(2, 0), (0, x1), (0, x2)] (pushR r1.1 []) r1.2) :=
  (show Call prog clsT X (d + 1) 141 [(2, 0), (0, x1), (0, x2)] (mk E c s (hh g)) = Ev prog clsT X d mc141 0 [(2, 0), (0, x1), (0, x2)] [] (mk E c s (hh g)) from rfl).trans (r141_0 X E c s g d x1 x2 )
set_option maxRecDepth 100000 in
theorem r141_4 (d : Nat) (x1 x2 s0 : Int) : Ev prog clsT X d mc141 4 [(2, 0), (0, x1), (0, x2)] [(0, s0)] (mk E c s (hh g)) =
  (if cmpI .eq s0 0 = true then
  (some ((4, 0), ((((mk E c s (hh g)))).1, (((mk E c s (hh g)))).2.1, (((mk E c s (hh g)))).2.2.1 + 8, (((mk E c s (hh g)))).2.2.2 + 64)))
else
  ((Call prog clsT X d 90 [(0, x2), (0, 0), (0, 13)] ((mk E c s (hh g)))).bind fun r1 => if r1.1.1 = 4 then none else
    Ev prog clsT X d mc141 9 [(2, 0), (0, x1), (0, x2)] (pushR r1.1 []) r1.2)) :=
  evk_at X [0, 4, 9, 40, 48] 6 rfl
set_option maxRecDepth 100000 in
theorem r141_9 (d : Nat) (x1 x2 s0 : Int) : Ev prog clsT X d mc141 9 [(2, 0), (0, x1), (0, x2)] [(0, s0)] (mk E c s (hh g)) =
  (if cmpI .ne s0 0 = true then
  (if cmpI .ne x2 11 = true then
    (if cmpI .ne x2 12 = true then
      (if cmpI .ne x2 13 = true then
        ((Call prog clsT X d 108 [(2, 0), (0, x1)] ((mk E c s (hh g)))).bind fun r1 => if r1.1.1 = 4 then none else
          Ev prog clsT X d mc141 48 [(2, 0), (0, x1), (0, x2)] (pushR r1.1 []) r1.2)
      else
        ((Call prog clsT X d 19 [(2, 30), (0, x1)] ((mk E c s (hh g)))).bind fun r2 => if r2.1.1 = 4 then none else
          Ev prog clsT X d mc141 40 [(2, 0), (0, x1), (0, x2)] (pushR r2.1 []) r2.2))
    else
      (if inb x1 40 = true then
        (some ((0, (g 32 (Int.toNat x1))), ((mk E c s (hh g)))))
      else none))
  else
    (if inb x1 40 = true then
      (some ((0, (g 31 (Int.toNat x1))), ((mk E c s (hh g)))))
    else none))
else
  (some ((4, 0), ((((mk E c s (hh g)))).1, (((mk E c s (hh g)))).2.1, (((mk E c s (hh g)))).2.2.1 + 8, (((mk E c s (hh g)))).2.2.2 + 64)))) :=
  (evk_at (r := (if cmpI .ne s0 0 = true then
  (if cmpI .ne x2 11 = true then
    (if cmpI .ne x2 12 = true then
      (if cmpI .ne x2 13 = true then
        (if (2 : Nat) = 2 ∧ rcv ((mk E c s (hh g))) 0 12 = true then
          ((Call prog clsT X d 108 [(2, 0), (0, x1)] ((mk E c s (hh g)))).bind fun r1 => if r1.1.1 = 4 then none else
          Ev prog clsT X d mc141 48 [(2, 0), (0, x1), (0, x2)] (pushR r1.1 []) r1.2) else none)
      else
        ((fget 5658 ((mk E c s (hh g))) 0).bind fun v2 =>
          if (2 : Nat) = 2 ∧ rcv ((mk E c s (hh g))) v2 3 = true then
          ((Call prog clsT X d 19 [(2, v2), (0, x1)] ((mk E c s (hh g)))).bind fun r3 => if r3.1.1 = 4 then none else
          Ev prog clsT X d mc141 40 [(2, 0), (0, x1), (0, x2)] (pushR r3.1 []) r3.2) else none))
    else
      ((fget 5658 ((mk E c s (hh g))) 0).bind fun v4 =>
        (fget 1038 ((mk E c s (hh g))) v4).bind fun v5 =>
        (aget X 100 ((mk E c s (hh g))) v5 x1).bind fun v6 =>
        some ((0, v6), (mk E c s (hh g)))))
  else
    ((fget 5658 ((mk E c s (hh g))) 0).bind fun v7 =>
      (fget 1034 ((mk E c s (hh g))) v7).bind fun v8 =>
      (aget X 100 ((mk E c s (hh g))) v8 x1).bind fun v9 =>
      some ((0, v9), (mk E c s (hh g)))))
else
  (some ((4, 0), ((((mk E c s (hh g)))).1, (((mk E c s (hh g)))).2.1, (((mk E c s (hh g)))).2.2.1 + 8, (((mk E c s (hh g)))).2.2.2 + 64))))) X [0, 4, 9, 40, 48] 15 rfl).trans (by simp (maxSteps := 10000000) only [R0_12, R30_3, ↓A31, ↓A32, ↓F1034_30, ↓F1038_30, ↓F5658_0, bindI, Option.bind_some, if_true_, and_self, ite_true, true_and, true_or, or_true])
set_option maxRecDepth 100000 in
theorem r141_40 (d : Nat) (x1 x2 s0 : Int) : Ev prog clsT X d mc141 40 [(2, 0), (0, x1), (0, x2)] [(0, s0)] (mk E c s (hh g)) =
  (if cmpI .eq s0 0 = true then
  (some ((0, 0), ((mk E c s (hh g)))))
else
  (some ((0, 1), ((mk E c s (hh g)))))) :=
  (evk_at (r := (if cmpI .eq s0 0 = true then
  (some ((0, 0), (mk E c s (hh g))))
else
  (some ((0, 1), (mk E c s (hh g)))))) X [0, 4, 9, 40, 48] 5 rfl).trans (by simp (maxSteps := 10000000) only [bindI, Option.bind_some, if_true_, and_self, ite_true, true_and, true_or, or_true])
set_option maxRecDepth 100000 in
theorem r141_48 (d : Nat) (x1 x2 : Int) : Ev prog clsT X d mc141 48 [(2, 0), (0, x1), (0, x2)] [] (mk E c s (hh g)) =
  (if inb x2 11 = true then
  (some ((0, (g 28 (Int.toNat x2))), ((mk E c s (hh g)))))
else none) :=
  (evk_at (r := ((fget 5654 ((mk E c s (hh g))) 0).bind fun v1 =>
  (fget 4098 ((mk E c s (hh g))) v1).bind fun v2 =>
  (aget X 100 ((mk E c s (hh g))) v2 x2).bind fun v3 =>
  some ((0, v3), (mk E c s (hh g))))) X [0, 4, 9, 40, 48] 7 rfl).trans (by simp (maxSteps := 10000000) only [↓A28, ↓F4098_27, ↓F5654_0, bindI, Option.bind_some, if_true_, and_self, ite_true, true_and, true_or, or_true])
set_option maxRecDepth 100000 in
theorem r142_0 (d : Nat) (x1 x2 : Int) : Ev prog clsT X d mc142 0 [(2, 0), (0, x1), (0, x2)] [] (mk E c s (hh g)) =
  ((Call prog clsT X d 20 [(2, 30), (0, x1)] ((mk E c s (hh g)))).bind fun r1 => if r1.1.1 = 4 then none else
  Ev prog clsT X d mc142 4 [(2, 0), (0, x1), (0, x2)] (pushR r1.1 []) r1.2) :=
  (evk_at (r := ((fget 5658 ((mk E c s (hh g))) 0).bind fun v1 =>
  if (2 : Nat) = 2 ∧ rcv ((mk E c s (hh g))) v1 3 = true then
  ((Call prog clsT X d 20 [(2, v1), (0, x1)] ((mk E c s (hh g)))).bind fun r2 => if r2.1.1 = 4 then none else
  Ev prog clsT X d mc142 4 [(2, 0), (0, x1), (0, x2)] (pushR r2.1 []) r2.2) else none)) X [0, 4, 9, 18, 27, 28] 5 rfl).trans (by simp (maxSteps := 10000000) only [R30_3, ↓F5658_0, bindI, Option.bind_some, if_true_, and_self, ite_true, true_and, true_or, or_true])
set_option maxRecDepth 100000 in
theorem rc142_ (d : Nat) (x1 x2 : Int) : Call prog clsT X (d + 1) 142 [(2, 0), (0, x1), (0, x2)] (mk E c s (hh g)) =
  ((Call prog clsT X d 20 [(2, 30), (0, x1)] ((mk E c s (hh g)))).bind fun r1 => if r1.1.1 = 4 then none else
  Ev prog clsT X d mc142 4 [(2, 0), (0, x1), (0, x2)] (pushR r1.1 []) r1.2) :=
  (show Call prog clsT X (d + 1) 142 [(2, 0), (0, x1), (0, x2)] (mk E c s (hh g)) = Ev prog clsT X d mc142 0 [(2, 0), (0, x1), (0, x2)] [] (mk E c s (hh g)) from rfl).trans (r142_0 X E c s g d x1 x2 )
set_option maxRecDepth 100000 in
theorem r142_4 (d : Nat) (x1 x2 s0 : Int) : Ev prog clsT X d mc142 4 [(2, 0), (0, x1), (0, x2)] [(0, s0)] (mk E c s (hh g)) =
  (if cmpI .eq s0 0 = true then
  (some ((4, 0), ((((mk E c s (hh g)))).1, (((mk E c s (hh g)))).2.1, (((mk E c s (hh g)))).2.2.1 + 8, (((mk E c s (hh g)))).2.2.2 + 64)))
else
  ((Call prog clsT X d 34 [(2, 36), (0, x2)] ((mk E c s (hh g)))).bind fun r1 => if r1.1.1 = 4 then none else
    Ev prog clsT X d mc142 9 [(2, 0), (0, x1), (0, x2)] (pushR r1.1 []) r1.2)) :=
  (evk_at (r := (if cmpI .eq s0 0 = true then
  (some ((4, 0), ((((mk E c s (hh g)))).1, (((mk E c s (hh g)))).2.1, (((mk E c s (hh g)))).2.2.1 + 8, (((mk E c s (hh g)))).2.2.2 + 64)))
else
  ((fget 5662 ((mk E c s (hh g))) 0).bind fun v1 =>
    if (2 : Nat) = 2 ∧ rcv ((mk E c s (hh g))) v1 5 = true then
    ((Call prog clsT X d 34 [(2, v1), (0, x2)] ((mk E c s (hh g)))).bind fun r2 => if r2.1.1 = 4 then none else
    Ev prog clsT X d mc142 9 [(2, 0), (0, x1), (0, x2)] (pushR r2.1 []) r2.2) else none))) X [0, 4, 9, 18, 27, 28] 6 rfl).trans (by simp (maxSteps := 10000000) only [R36_5, ↓F5662_0, bindI, Option.bind_some, if_true_, and_self, ite_true, true_and, true_or, or_true])
set_option maxRecDepth 100000 in
theorem r142_9 (d : Nat) (x1 x2 s0 : Int) : Ev prog clsT X d mc142 9 [(2, 0), (0, x1), (0, x2)] [(0, s0)] (mk E c s (hh g)) =
  (if cmpI .ne s0 0 = true then
  ((Call prog clsT X d 108 [(2, 0), (0, x1)] ((mk E c s (hh g)))).bind fun r1 => if r1.1.1 = 4 then none else
    Ev prog clsT X d mc142 18 [(2, 0), (0, x1), (0, x2)] (pushR r1.1 []) r1.2)
else
  (some ((4, 0), ((((mk E c s (hh g)))).1, (((mk E c s (hh g)))).2.1, (((mk E c s (hh g)))).2.2.1 + 8, (((mk E c s (hh g)))).2.2.2 + 64)))) :=
  (evk_at (r := (if cmpI .ne s0 0 = true then
  (if (2 : Nat) = 2 ∧ rcv ((mk E c s (hh g))) 0 12 = true then
    ((Call prog clsT X d 108 [(2, 0), (0, x1)] ((mk E c s (hh g)))).bind fun r1 => if r1.1.1 = 4 then none else
    Ev prog clsT X d mc142 18 [(2, 0), (0, x1), (0, x2)] (pushR r1.1 []) r1.2) else none)
else
  (some ((4, 0), ((((mk E c s (hh g)))).1, (((mk E c s (hh g)))).2.1, (((mk E c s (hh g)))).2.2.1 + 8, (((mk E c s (hh g)))).2.2.2 + 64))))) X [0, 4, 9, 18, 27, 28] 5 rfl).trans (by simp (maxSteps := 10000000) only [R0_12, bindI, Option.bind_some, if_true_, and_self, ite_true, true_and, true_or, or_true])
set_option maxRecDepth 100000 in
theorem r142_18 (d : Nat) (x1 x2 : Int) : Ev prog clsT X d mc142 18 [(2, 0), (0, x1), (0, x2)] [] (mk E c s (hh g)) =
  (if inb x1 40 = true then
  ((Call prog clsT X d 97 [(2, 0), (0, (g 31 (Int.toNat x1)))] ((mk E c s (hh g)))).bind fun r1 => if r1.1.1 = 4 then none else
  Ev prog clsT X d mc142 27 [(2, 0), (0, x1), (0, x2)] (pushR r1.1 [(0, x2), (2, 0)]) r1.2)
else none) :=
  (evk_at (r := ((fget 5658 ((mk E c s (hh g))) 0).bind fun v1 =>
  (fget 1034 ((mk E c s (hh g))) v1).bind fun v2 =>
  (aget X 100 ((mk E c s (hh g))) v2 x1).bind fun v3 =>
  if (2 : Nat) = 2 ∧ rcv ((mk E c s (hh g))) 0 12 = true then
  ((Call prog clsT X d 97 [(2, 0), (0, v3)] ((mk E c s (hh g)))).bind fun r4 => if r4.1.1 = 4 then none else
  Ev prog clsT X d mc142 27 [(2, 0), (0, x1), (0, x2)] (pushR r4.1 [(0, x2), (2, 0)]) r4.2) else none)) X [0, 4, 9, 18, 27, 28] 10 rfl).trans (by simp (maxSteps := 10000000) only [R0_12, ↓A31, ↓F1034_30, ↓F5658_0, bindI, Option.bind_some, if_true_, and_self, ite_true, true_and, true_or, or_true])
set_option maxRecDepth 100000 in
theorem r142_27 (d : Nat) (x1 x2 s1 s2 : Int) : Ev prog clsT X d mc142 27 [(2, 0), (0, x1), (0, x2)] [(2, s2), (0, s1), (2, 0)] (mk E c s (hh g)) =
  ((Call prog clsT X d 109 [(2, 0), (0, s1), (2, s2)] ((mk E c s (hh g)))).bind fun r1 => if r1.1.1 = 4 then none else
  Ev prog clsT X d mc142 28 [(2, 0), (0, x1), (0, x2)] (pushR r1.1 []) r1.2) :=
  (evk_at (r := (if (2 : Nat) = 2 ∧ rcv ((mk E c s (hh g))) 0 12 = true then
  ((Call prog clsT X d 109 [(2, 0), (0, s1), (2, s2)] ((mk E c s (hh g)))).bind fun r1 => if r1.1.1 = 4 then none else
  Ev prog clsT X d mc142 28 [(2, 0), (0, x1), (0, x2)] (pushR r1.1 []) r1.2) else none)) X [0, 4, 9, 18, 27, 28] 2 rfl).trans (by simp (maxSteps := 10000000) only [R0_12, bindI, Option.bind_some, if_true_, and_self, ite_true, true_and, true_or, or_true])
set_option maxRecDepth 100000 in
theorem r142_28 (d : Nat) (x1 x2 s0 : Int) : Ev prog clsT X d mc142 28 [(2, 0), (0, x1), (0, x2)] [(0, s0)] (mk E c s (hh g)) =
  (some ((0, s0), ((mk E c s (hh g))))) :=
  (evk_at (r := (some ((0, s0), (mk E c s (hh g))))) X [0, 4, 9, 18, 27, 28] 2 rfl).trans (by simp (maxSteps := 10000000) only [bindI, Option.bind_some, if_true_, and_self, ite_true, true_and, true_or, or_true])
set_option maxRecDepth 100000 in
theorem r143_0 (d : Nat) (x1 : Int) : Ev prog clsT X d mc143 0 [(2, 0), (0, x1), (3, 0), (3, 0)] [] (mk E c s (hh g)) =
  ((Call prog clsT X d 84 [(2, 1), (0, x1)] ((mk E c s (hh g)))).bind fun r1 => if r1.1.1 = 4 then none else
  Ev prog clsT X d mc143 4 [(2, 0), (0, x1), (3, 0), (3, 0)] (pushR r1.1 []) r1.2) :=
  (evk_at (r := ((fget 5634 ((mk E c s (hh g))) 0).bind fun v1 =>
  if (2 : Nat) = 2 ∧ rcv ((mk E c s (hh g))) v1 11 = true then
  ((Call prog clsT X d 84 [(2, v1), (0, x1)] ((mk E c s (hh g)))).bind fun r2 => if r2.1.1 = 4 then none else
  Ev prog clsT X d mc143 4 [(2, 0), (0, x1), (3, 0), (3, 0)] (pushR r2.1 []) r2.2) else none)) X [0, 4, 12, 20] 5 rfl).trans (by simp (maxSteps := 10000000) only [R1_11, ↓F5634_0, bindI, Option.bind_some, if_true_, and_self, ite_true, true_and, true_or, or_true])
set_option maxRecDepth 100000 in
theorem rc143_ (d : Nat) (x1 : Int) : Call prog clsT X (d + 1) 143 [(2, 0), (0, x1)] (mk E c s (hh g)) =
  ((Call prog clsT X d 84 [(2, 1), (0, x1)] ((mk E c s (hh g)))).bind fun r1 => if r1.1.1 = 4 then none else
  Ev prog clsT X d mc143 4 [(2, 0), (0, x1), (3, 0), (3, 0)] (pushR r1.1 []) r1.2) :=
  (show Call prog clsT X (d + 1) 143 [(2, 0), (0, x1)] (mk E c s (hh g)) = Ev prog clsT X d mc143 0 [(2, 0), (0, x1), (3, 0), (3, 0)] [] (mk E c s (hh g)) from rfl).trans (r143_0 X E c s g d x1 )
set_option maxRecDepth 100000 in
theorem r143_4 (d : Nat) (x1 s0 : Int) : Ev prog clsT X d mc143 4 [(2, 0), (0, x1), (3, 0), (3, 0)] [(0, s0)] (mk E c s (hh g)) =
  (if cmpI .ne s0 0 = true then
  ((Call prog clsT X d 123 [(2, 0)] ((mk E c s (hh g)))).bind fun r1 => if r1.1.1 = 4 then none else
    Ev prog clsT X d mc143 12 [(2, 0), (0, x1), (3, 0), (3, 0)] (pushR r1.1 []) r1.2)
else
  (some ((4, 0), ((((mk E c s (hh g)))).1, (((mk E c s (hh g)))).2.1, (((mk E c s (hh g)))).2.2.1 + 8, (((mk E c s (hh g)))).2.2.2 + 64)))) :=
  (evk_at (r := (if cmpI .ne s0 0 = true then
  (if (2 : Nat) = 2 ∧ rcv ((mk E c s (hh g))) 0 12 = true then
    ((Call prog clsT X d 123 [(2, 0)] ((mk E c s (hh g)))).bind fun r1 => if r1.1.1 = 4 then none else
    Ev prog clsT X d mc143 12 [(2, 0), (0, x1), (3, 0), (3, 0)] (pushR r1.1 []) r1.2) else none)
else
  (some ((4, 0), ((((mk E c s (hh g)))).1, (((mk E c s (hh g)))).2.1, (((mk E c s (hh g)))).2.2.1 + 8, (((mk E c s (hh g)))).2.2.2 + 64))))) X [0, 4, 12, 20] 4 rfl).trans (by simp (maxSteps := 10000000) only [R0_12, bindI, Option.bind_some, if_true_, and_self, ite_true, true_and, true_or, or_true])
set_option maxRecDepth 100000 in
theorem r143_12 (d : Nat) (x1 : Int) : Ev prog clsT X d mc143 12 [(2, 0), (0, x1), (3, 0), (3, 0)] [] (mk E c s (hh g)) =
  (if inb x1 10 = true then
  (Ev prog clsT X d mc143 20 [(2, 0), (0, x1), (0, (g 64 (Int.toNat x1))), (0, 0)] [] (mk E c s (hh g)))
else none) :=
  (evk_at (r := ((fget 5674 ((mk E c s (hh g))) 0).bind fun v1 =>
  (fget 42 ((mk E c s (hh g))) v1).bind fun v2 =>
  (aget X 100 ((mk E c s (hh g))) v2 x1).bind fun v3 =>
  Ev prog clsT X d mc143 20 [(2, 0), (0, x1), (0, v3), (0, 0)] [] (mk E c s (hh g)))) X [0, 4, 12, 20] 10 rfl).trans (by simp (maxSteps := 10000000) only [↓A64, ↓F42_55, ↓F5674_0, bindI, Option.bind_some, if_true_, and_self, ite_true, true_and, true_or, or_true])
set_option maxRecDepth 100000 in
theorem r143_20 (d : Nat) (x1 x2 x3 : Int) : Ev prog clsT X d mc143 20 [(2, 0), (0, x1), (0, x2), (0, x3)] [] (mk E c s (hh g)) =
  (if cmpI .ge x3 ((g 30 0)) = true then
  (some ((0, x2), ((mk E c s (hh g)))))
else
  (if inb x3 40 = true then
    (if cmpI .ne ((g 32 (Int.toNat x3))) x1 = true then
    (Ev prog clsT X d mc143 20 [(2, 0), (0, x1), (0, x2), (0, (w32 (x3 + 1)))] [] (mk E c s (hh g)))
  else
    (if inb x3 40 = true then
      (Ev prog clsT X d mc143 20 [(2, 0), (0, x1), (0, (w32 (x2 - ((w32 (((g 55 6)) + ((w32 (((g 55 7)) * ((g 35 (Int.toNat x3)))))))))))), (0, (w32 (x3 + 1)))] [] (mk E c s (hh g)))
    else none))
  else none)) :=
  (evk_at (r := ((fget 5658 ((mk E c s (hh g))) 0).bind fun v1 =>
  (fget 1024 ((mk E c s (hh g))) v1).bind fun v2 =>
  if cmpI .ge x3 v2 = true then
  (some ((0, x2), (mk E c s (hh g))))
else
  ((fget 5658 ((mk E c s (hh g))) 0).bind fun v3 =>
    (fget 1038 ((mk E c s (hh g))) v3).bind fun v4 =>
    (aget X 100 ((mk E c s (hh g))) v4 x3).bind fun v5 =>
    if cmpI .ne v5 x1 = true then
    (Ev prog clsT X d mc143 20 [(2, 0), (0, x1), (0, x2), (0, (w32 (x3 + 1)))] [] (mk E c s (hh g)))
  else
    ((fget 5674 ((mk E c s (hh g))) 0).bind fun v6 =>
      (fget 24 ((mk E c s (hh g))) v6).bind fun v7 =>
      (fget 5674 ((mk E c s (hh g))) 0).bind fun v8 =>
      (fget 28 ((mk E c s (hh g))) v8).bind fun v9 =>
      (fget 5658 ((mk E c s (hh g))) 0).bind fun v10 =>
      (fget 1050 ((mk E c s (hh g))) v10).bind fun v11 =>
      (aget X 100 ((mk E c s (hh g))) v11 x3).bind fun v12 =>
      Ev prog clsT X d mc143 20 [(2, 0), (0, x1), (0, (w32 (x2 - ((w32 (v7 + ((w32 (v9 * v12))))))))), (0, (w32 (x3 + 1)))] [] (mk E c s (hh g)))))) X [0, 4, 12, 20] 32 rfl).trans (by simp (maxSteps := 10000000) only [↓A32, ↓A35, ↓F1024_30, ↓F1038_30, ↓F1050_30, ↓F24_55, ↓F28_55, ↓F5658_0, ↓F5674_0, bindI, Option.bind_some, if_true_, and_self, ite_true, true_and, true_or, or_true])
set_option maxRecDepth 100000 in
theorem r144_0 (d : Nat) (x1 x2 x3 x4 : Int) : Ev prog clsT X d mc144 0 [(2, 0), (0, x1), (0, x2), (0, x3), (0, x4), (3, 0), (3, 0), (3, 0), (3, 0), (3, 0), (3, 0), (3, 0), (3, 0), (3, 0), (3, 0)] [] (mk E c s (hh g)) =
  ((Call prog clsT X d 97 [(2, 0), (0, x2)] ((mk E c s (hh g)))).bind fun r1 => if r1.1.1 = 4 then none else
  Ev prog clsT X d mc144 3 [(2, 0), (0, x1), (0, x2), (0, x3), (0, x4), (3, 0), (3, 0), (3, 0), (3, 0), (3, 0), (3, 0), (3, 0), (3, 0), (3, 0), (3, 0)] (pushR r1.1 []) r1.2) :=
  (evk_at (r := (if (2 : Nat) = 2 ∧ rcv ((mk E c s (hh g))) 0 12 = true then
  ((Call prog clsT X d 97 [(2, 0), (0, x2)] ((mk E c s (hh g)))).bind fun r1 => if r1.1.1 = 4 then none else
  Ev prog clsT X d mc144 3 [(2, 0), (0, x1), (0, x2), (0, x3), (0, x4), (3, 0), (3, 0), (3, 0), (3, 0), (3, 0), (3, 0), (3, 0), (3, 0), (3, 0), (3, 0)] (pushR r1.1 []) r1.2) else none)) X [0, 3, 7, 19, 24, 33, 54, 60, 69, 121] 4 rfl).trans (by simp (maxSteps := 10000000) only [R0_12, bindI, Option.bind_some, if_true_, and_self, ite_true, true_and, true_or, or_true])
set_option maxRecDepth 100000 in
theorem rc144_ (d : Nat) (x1 x2 x3 x4 : Int) : Call prog clsT X (d + 1) 144 [(2, 0), (0, x1), (0, x2), (0, x3), (0, x4)] (mk E c s (hh g)) =
  ((Call prog clsT X d 97 [(2, 0), (0, x2)] ((mk E c s (hh g)))).bind fun r1 => if r1.1.1 = 4 then none else
  Ev prog clsT X d mc144 3 [(2, 0), (0, x1), (0, x2), (0, x3), (0, x4), (3, 0), (3, 0), (3, 0), (3, 0), (3, 0), (3, 0), (3, 0), (3, 0), (3, 0), (3, 0)] (pushR r1.1 []) r1.2) :=
  (show Call prog clsT X (d + 1) 144 [(2, 0), (0, x1), (0, x2), (0, x3), (0, x4)] (mk E c s (hh g)) = Ev prog clsT X d mc144 0 [(2, 0), (0, x1), (0, x2), (0, x3), (0, x4), (3, 0), (3, 0), (3, 0), (3, 0), (3, 0), (3, 0), (3, 0), (3, 0), (3, 0), (3, 0)] [] (mk E c s (hh g)) from rfl).trans (r144_0 X E c s g d x1 x2 x3 x4 )
set_option maxRecDepth 100000 in
theorem r144_3 (d : Nat) (x1 x2 x3 x4 s0 : Int) : Ev prog clsT X d mc144 3 [(2, 0), (0, x1), (0, x2), (0, x3), (0, x4), (3, 0), (3, 0), (3, 0), (3, 0), (3, 0), (3, 0), (3, 0), (3, 0), (3, 0), (3, 0)] [(2, s0)] (mk E c s (hh g)) =
  ((Call prog clsT X d 97 [(2, 0), (0, x3)] ((mk E c s (hh g)))).bind fun r1 => if r1.1.1 = 4 then none else
  Ev prog clsT X d mc144 7 [(2, 0), (0, x1), (0, x2), (0, x3), (0, x4), (2, s0), (3, 0), (3, 0), (3, 0), (3, 0), (3, 0), (3, 0), (3, 0), (3, 0), (3, 0)] (pushR r1.1 []) r1.2) :=
  (evk_at (r := (if (2 : Nat) = 2 ∧ rcv ((mk E c s (hh g))) 0 12 = true then
  ((Call prog clsT X d 97 [(2, 0), (0, x3)] ((mk E c s (hh g)))).bind fun r1 => if r1.1.1 = 4 then none else
  Ev prog clsT X d mc144 7 [(2, 0), (0, x1), (0, x2), (0, x3), (0, x4), (2, s0), (3, 0), (3, 0), (3, 0), (3, 0), (3, 0), (3, 0), (3, 0), (3, 0), (3, 0)] (pushR r1.1 []) r1.2) else none)) X [0, 3, 7, 19, 24, 33, 54, 60, 69, 121] 5 rfl).trans (by simp (maxSteps := 10000000) only [R0_12, bindI, Option.bind_some, if_true_, and_self, ite_true, true_and, true_or, or_true])
set_option maxRecDepth 100000 in
theorem r144_7 (d : Nat) (x1 x2 x3 x4 x5 s0 : Int) : Ev prog clsT X d mc144 7 [(2, 0), (0, x1), (0, x2), (0, x3), (0, x4), (2, x5), (3, 0), (3, 0), (3, 0), (3, 0), (3, 0), (3, 0), (3, 0), (3, 0), (3, 0)] [(2, s0)] (mk E c s (hh g)) =
  (if (2 : Nat) = 2 ∧ x5 ≠ -5 then (if (decide (x5 = -1)) = true then
  (some ((4, 0), ((((mk E c s (hh g)))).1, (((mk E c s (hh g)))).2.1, (((mk E c s (hh g)))).2.2.1 + 8, (((mk E c s (hh g)))).2.2.2 + 64)))
else
  (if (2 : Nat) = 2 ∧ s0 ≠ -5 then (if (decide (s0 = -1)) = true then
    (some ((4, 0), ((((mk E c s (hh g)))).1, (((mk E c s (hh g)))).2.1, (((mk E c s (hh g)))).2.2.1 + 8, (((mk E c s (hh g)))).2.2.2 + 64)))
  else
    (if cmpI .eq x2 x3 = true then
      (some ((4, 0), ((((mk E c s (hh g)))).1, (((mk E c s (hh g)))).2.1, (((mk E c s (hh g)))).2.2.1 + 8, (((mk E c s (hh g)))).2.2.2 + 64)))
    else
      ((Call prog clsT X d 90 [(0, x4), (0, 0), (0, 2)] ((mk E c s (hh g)))).bind fun r1 => if r1.1.1 = 4 then none else
        Ev prog clsT X d mc144 19 [(2, 0), (0, x1), (0, x2), (0, x3), (0, x4), (2, x5), (2, s0), (3, 0), (3, 0), (3, 0), (3, 0), (3, 0), (3, 0), (3, 0), (3, 0)] (pushR r1.1 []) r1.2))) else none)) else none) :=
  evk_at X [0, 3, 7, 19, 24, 33, 54, 60, 69, 121] 13 rfl
set_option maxRecDepth 100000 in
theorem r144_19 (d : Nat) (x1 x2 x3 x4 x5 x6 s0 : Int) : Ev prog clsT X d mc144 19 [(2, 0), (0, x1), (0, x2), (0, x3), (0, x4), (2, x5), (2, x6), (3, 0), (3, 0), (3, 0), (3, 0), (3, 0), (3, 0), (3, 0), (3, 0)] [(0, s0)] (mk E c s (hh g)) =
  (if cmpI .eq s0 0 = true then
  (some ((4, 0), ((((mk E c s (hh g)))).1, (((mk E c s (hh g)))).2.1, (((mk E c s (hh g)))).2.2.1 + 8, (((mk E c s (hh g)))).2.2.2 + 64)))
else
  ((Call prog clsT X d 84 [(2, 1), (0, x1)] ((mk E c s (hh g)))).bind fun r1 => if r1.1.1 = 4 then none else
    Ev prog clsT X d mc144 24 [(2, 0), (0, x1), (0, x2), (0, x3), (0, x4), (2, x5), (2, x6), (3, 0), (3, 0), (3, 0), (3, 0), (3, 0), (3, 0), (3, 0), (3, 0)] (pushR r1.1 []) r1.2)) :=
  (evk_at (r := (if cmpI .eq s0 0 = true then
  (some ((4, 0), ((((mk E c s (hh g)))).1, (((mk E c s (hh g)))).2.1, (((mk E c s (hh g)))).2.2.1 + 8, (((mk E c s (hh g)))).2.2.2 + 64)))
else
  ((fget 5634 ((mk E c s (hh g))) 0).bind fun v1 =>
    if (2 : Nat) = 2 ∧ rcv ((mk E c s (hh g))) v1 11 = true then
    ((Call prog clsT X d 84 [(2, v1), (0, x1)] ((mk E c s (hh g)))).bind fun r2 => if r2.1.1 = 4 then none else
    Ev prog clsT X d mc144 24 [(2, 0), (0, x1), (0, x2), (0, x3), (0, x4), (2, x5), (2, x6), (3, 0), (3, 0), (3, 0), (3, 0), (3, 0), (3, 0), (3, 0), (3, 0)] (pushR r2.1 []) r2.2) else none))) X [0, 3, 7, 19, 24, 33, 54, 60, 69, 121] 6 rfl).trans (by simp (maxSteps := 10000000) only [R1_11, ↓F5634_0, bindI, Option.bind_some, if_true_, and_self, ite_true, true_and, true_or, or_true])
set_option maxRecDepth 100000 in
theorem r144_24 (d : Nat) (x1 x2 x3 x4 x5 x6 s0 : Int) : Ev prog clsT X d mc144 24 [(2, 0), (0, x1), (0, x2), (0, x3), (0, x4), (2, x5), (2, x6), (3, 0), (3, 0), (3, 0), (3, 0), (3, 0), (3, 0), (3, 0), (3, 0)] [(0, s0)] (mk E c s (hh g)) =
  (if cmpI .ne s0 0 = true then
  ((Call prog clsT X d 145 [(2, 0), (0, x1)] ((mk E c s (hh g)))).bind fun r1 => if r1.1.1 = 4 then none else
    Ev prog clsT X d mc144 33 [(2, 0), (0, x1), (0, x2), (0, x3), (0, x4), (2, x5), (2, x6), (3, 0), (3, 0), (3, 0), (3, 0), (3, 0), (3, 0), (3, 0), (3, 0)] (pushR r1.1 []) r1.2)
else
  (some ((4, 0), ((((mk E c s (hh g)))).1, (((mk E c s (hh g)))).2.1, (((mk E c s (hh g)))).2.2.1 + 8, (((mk E c s (hh g)))).2.2.2 + 64)))) :=
  (evk_at (r := (if cmpI .ne s0 0 = true then
  (if (2 : Nat) = 2 ∧ rcv ((mk E c s (hh g))) 0 12 = true then
    ((Call prog clsT X d 145 [(2, 0), (0, x1)] ((mk E c s (hh g)))).bind fun r1 => if r1.1.1 = 4 then none else
    Ev prog clsT X d mc144 33 [(2, 0), (0, x1), (0, x2), (0, x3), (0, x4), (2, x5), (2, x6), (3, 0), (3, 0), (3, 0), (3, 0), (3, 0), (3, 0), (3, 0), (3, 0)] (pushR r1.1 []) r1.2) else none)
else
  (some ((4, 0), ((((mk E c s (hh g)))).1, (((mk E c s (hh g)))).2.1, (((mk E c s (hh g)))).2.2.1 + 8, (((mk E c s (hh g)))).2.2.2 + 64))))) X [0, 3, 7, 19, 24, 33, 54, 60, 69, 121] 5 rfl).trans (by simp (maxSteps := 10000000) only [R0_12, bindI, Option.bind_some, if_true_, and_self, ite_true, true_and, true_or, or_true])
set_option maxRecDepth 100000 in
theorem r144_33 (d : Nat) (x1 x2 x3 x4 x5 x6 s0 : Int) : Ev prog clsT X d mc144 33 [(2, 0), (0, x1), (0, x2), (0, x3), (0, x4), (2, x5), (2, x6), (3, 0), (3, 0), (3, 0), (3, 0), (3, 0), (3, 0), (3, 0), (3, 0)] [(0, s0)] (mk E c s (hh g)) =
  (if cmpI .le s0 10 = true then
  ((Call prog clsT X d 146 [(2, 0), (0, x1), (0, x3), (2, x6), (0, (w32 (((ishl32 1 s0)) - 1)))] ((mk E c s (hh g)))).bind fun r1 => if r1.1.1 = 4 then none else
    Ev prog clsT X d mc144 54 [(2, 0), (0, x1), (0, x2), (0, x3), (0, x4), (2, x5), (2, x6), (0, s0), (0, (w32 (((ishl32 1 s0)) - 1))), (3, 0), (3, 0), (3, 0), (3, 0), (3, 0), (3, 0)] (pushR r1.1 []) r1.2)
else
  (some ((4, 0), ((((mk E c s (hh g)))).1, (((mk E c s (hh g)))).2.1, (((mk E c s (hh g)))).2.2.1 + 8, (((mk E c s (hh g)))).2.2.2 + 64)))) :=
  (evk_at (r := (if cmpI .le s0 10 = true then
  (if (2 : Nat) = 2 ∧ rcv ((mk E c s (hh g))) 0 12 = true then
    ((Call prog clsT X d 146 [(2, 0), (0, x1), (0, x3), (2, x6), (0, (w32 (((ishl32 1 s0)) - 1)))] ((mk E c s (hh g)))).bind fun r1 => if r1.1.1 = 4 then none else
    Ev prog clsT X d mc144 54 [(2, 0), (0, x1), (0, x2), (0, x3), (0, x4), (2, x5), (2, x6), (0, s0), (0, (w32 (((ishl32 1 s0)) - 1))), (3, 0), (3, 0), (3, 0), (3, 0), (3, 0), (3, 0)] (pushR r1.1 []) r1.2) else none)
else
  (some ((4, 0), ((((mk E c s (hh g)))).1, (((mk E c s (hh g)))).2.1, (((mk E c s (hh g)))).2.2.1 + 8, (((mk E c s (hh g)))).2.2.2 + 64))))) X [0, 3, 7, 19, 24, 33, 54, 60, 69, 121] 17 rfl).trans (by simp (maxSteps := 10000000) only [R0_12, bindI, Option.bind_some, if_true_, and_self, ite_true, true_and, true_or, or_true])
set_option maxRecDepth 100000 in
theorem r144_54 (d : Nat) (x1 x2 x3 x4 x5 x6 x7 x8 : Int) : Ev prog clsT X d mc144 54 [(2, 0), (0, x1), (0, x2), (0, x3), (0, x4), (2, x5), (2, x6), (0, x7), (0, x8), (3, 0), (3, 0), (3, 0), (3, 0), (3, 0), (3, 0)] [] (mk E c s (hh g)) =
  (Ev prog clsT X d mc144 60 [(2, 0), (0, x1), (0, x2), (0, x3), (0, x4), (2, x5), (2, x6), (0, x7), (0, x8), (1, (-4611686018427387904)), (3, 0), (0, 0), (0, 0), (3, 0), (3, 0)] [] (mk E c s (hh g))) :=
  evk_at X [0, 3, 7, 19, 24, 33, 54, 60, 69, 121] 8 rfl
set_option maxRecDepth 100000 in
theorem r144_60 (d : Nat) (x1 x2 x4 x5 x8 x9 x11 x12 : Int) (w3 w6 w7 w10 w13 w14 : MV) : Ev prog clsT X d mc144 60 [(2, 0), (0, x1), (0, x2), w3, (0, x4), (2, x5), w6, w7, (0, x8), (1, x9), w10, (0, x11), (0, x12), w13, w14] [] (mk E c s (hh g)) =
  (if cmpI .gt x12 x8 = true then
  (if cmpI .ne x4 0 = true then
    (if cmpI .ne x4 1 = true then
      (if inb ((iand32 x8 ((ixor32 x11 ((-1)))))) 1024 = true then
        ((Call prog clsT X d 148 [(2, 0), (0, (g 88 (Int.toNat ((iand32 x8 ((ixor32 x11 ((-1)))))))))] ((mk E c s (hh g)))).bind fun r1 => if r1.1.1 = 4 then none else
        Ev prog clsT X d mc144 121 [(2, 0), (0, x1), (0, x2), (3, 0), (0, x4), (2, x5), (3, 0), (3, 0), (0, x8), (1, x9), (3, 0), (0, x11), (0, x12), (3, 0), (3, 0)] (pushR r1.1 []) r1.2)
      else none)
    else
      ((Call prog clsT X d 148 [(2, 0), (0, x11)] ((mk E c s (hh g)))).bind fun r2 => if r2.1.1 = 4 then none else
        Ev prog clsT X d mc144 121 [(2, 0), (0, x1), (0, x2), (3, 0), (0, x4), (2, x5), (3, 0), (3, 0), (0, x8), (1, x9), (3, 0), (0, x11), (0, x12), (3, 0), (3, 0)] (pushR r2.1 []) r2.2))
  else
    (some ((1, x9), ((mk E c s (hh g))))))
else
  ((Call prog clsT X d 147 [(2, 0), (0, x1), (0, x2), (2, x5), (0, x12)] ((mk E c s (hh g)))).bind fun r3 => if r3.1.1 = 4 then none else
    Ev prog clsT X d mc144 69 [(2, 0), (0, x1), (0, x2), (3, 0), (0, x4), (2, x5), (3, 0), (3, 0), (0, x8), (1, x9), (3, 0), (0, x11), (0, x12), (3, 0), (3, 0)] (pushR r3.1 []) r3.2)) :=
  (evk_at (r := (if cmpI .gt x12 x8 = true then
  (if cmpI .ne x4 0 = true then
    (if cmpI .ne x4 1 = true then
      ((fget 5694 ((mk E c s (hh g))) 0).bind fun v1 =>
        (aget X 100 ((mk E c s (hh g))) v1 ((iand32 x8 ((ixor32 x11 ((-1))))))).bind fun v2 =>
        if (2 : Nat) = 2 ∧ rcv ((mk E c s (hh g))) 0 12 = true then
        ((Call prog clsT X d 148 [(2, 0), (0, v2)] ((mk E c s (hh g)))).bind fun r3 => if r3.1.1 = 4 then none else
        Ev prog clsT X d mc144 121 [(2, 0), (0, x1), (0, x2), (3, 0), (0, x4), (2, x5), (3, 0), (3, 0), (0, x8), (1, x9), (3, 0), (0, x11), (0, x12), (3, 0), (3, 0)] (pushR r3.1 []) r3.2) else none)
    else
      (if (2 : Nat) = 2 ∧ rcv ((mk E c s (hh g))) 0 12 = true then
        ((Call prog clsT X d 148 [(2, 0), (0, x11)] ((mk E c s (hh g)))).bind fun r4 => if r4.1.1 = 4 then none else
        Ev prog clsT X d mc144 121 [(2, 0), (0, x1), (0, x2), (3, 0), (0, x4), (2, x5), (3, 0), (3, 0), (0, x8), (1, x9), (3, 0), (0, x11), (0, x12), (3, 0), (3, 0)] (pushR r4.1 []) r4.2) else none))
  else
    (some ((1, x9), (mk E c s (hh g)))))
else
  (if (2 : Nat) = 2 ∧ rcv ((mk E c s (hh g))) 0 12 = true then
    ((Call prog clsT X d 147 [(2, 0), (0, x1), (0, x2), (2, x5), (0, x12)] ((mk E c s (hh g)))).bind fun r5 => if r5.1.1 = 4 then none else
    Ev prog clsT X d mc144 69 [(2, 0), (0, x1), (0, x2), (3, 0), (0, x4), (2, x5), (3, 0), (3, 0), (0, x8), (1, x9), (3, 0), (0, x11), (0, x12), (3, 0), (3, 0)] (pushR r5.1 []) r5.2) else none))) X [0, 3, 7, 19, 24, 33, 54, 60, 69, 121] 19 rfl).trans (by simp (maxSteps := 10000000) only [R0_12, ↓A88, ↓F5694_0, bindI, Option.bind_some, if_true_, and_self, ite_true, true_and, true_or, or_true])
set_option maxRecDepth 100000 in
theorem r144_69 (d : Nat) (x1 x2 x4 x5 x8 x9 x11 x12 s0 : Int) : Ev prog clsT X d mc144 69 [(2, 0), (0, x1), (0, x2), (3, 0), (0, x4), (2, x5), (3, 0), (3, 0), (0, x8), (1, x9), (3, 0), (0, x11), (0, x12), (3, 0), (3, 0)] [(1, s0)] (mk E c s (hh g)) =
  (if cmpI .eq ((lcmpI s0 ((-4611686018427387904)))) 0 = true then
  (Ev prog clsT X d mc144 60 [(2, 0), (0, x1), (0, x2), (3, 0), (0, x4), (2, x5), (3, 0), (3, 0), (0, x8), (1, x9), (3, 0), (0, x11), (0, (w32 (x12 + 1))), (1, s0), (3, 0)] [] (mk E c s (hh g)))
else
  (if inb ((iand32 x8 ((ixor32 x12 ((-1)))))) 1024 = true then
    (if cmpI .le ((lcmpI ((w64 (s0 + ((g 87 (Int.toNat ((iand32 x8 ((ixor32 x12 ((-1)))))))))))) x9)) 0 = true then
    (Ev prog clsT X d mc144 60 [(2, 0), (0, x1), (0, x2), (3, 0), (0, x4), (2, x5), (3, 0), (3, 0), (0, x8), (1, x9), (3, 0), (0, x11), (0, (w32 (x12 + 1))), (1, s0), (3, 0)] [] (mk E c s (hh g)))
  else
    (if inb ((iand32 x8 ((ixor32 x12 ((-1)))))) 1024 = true then
      (Ev prog clsT X d mc144 60 [(2, 0), (0, x1), (0, x2), (3, 0), (0, x4), (2, x5), (3, 0), (3, 0), (0, x8), (1, (w64 (s0 + ((g 87 (Int.toNat ((iand32 x8 ((ixor32 x12 ((-1)))))))))))), (3, 0), (0, x12), (0, (w32 (x12 + 1))), (1, s0), (3, 0)] [] (mk E c s (hh g)))
    else none))
  else none)) :=
  (evk_at (r := (if cmpI .eq ((lcmpI s0 ((-4611686018427387904)))) 0 = true then
  (Ev prog clsT X d mc144 60 [(2, 0), (0, x1), (0, x2), (3, 0), (0, x4), (2, x5), (3, 0), (3, 0), (0, x8), (1, x9), (3, 0), (0, x11), (0, (w32 (x12 + 1))), (1, s0), (3, 0)] [] (mk E c s (hh g)))
else
  ((fget 5690 ((mk E c s (hh g))) 0).bind fun v1 =>
    (aget X 101 ((mk E c s (hh g))) v1 ((iand32 x8 ((ixor32 x12 ((-1))))))).bind fun v2 =>
    if cmpI .le ((lcmpI ((w64 (s0 + v2))) x9)) 0 = true then
    (Ev prog clsT X d mc144 60 [(2, 0), (0, x1), (0, x2), (3, 0), (0, x4), (2, x5), (3, 0), (3, 0), (0, x8), (1, x9), (3, 0), (0, x11), (0, (w32 (x12 + 1))), (1, s0), (3, 0)] [] (mk E c s (hh g)))
  else
    ((fget 5690 ((mk E c s (hh g))) 0).bind fun v3 =>
      (aget X 101 ((mk E c s (hh g))) v3 ((iand32 x8 ((ixor32 x12 ((-1))))))).bind fun v4 =>
      Ev prog clsT X d mc144 60 [(2, 0), (0, x1), (0, x2), (3, 0), (0, x4), (2, x5), (3, 0), (3, 0), (0, x8), (1, (w64 (s0 + v4))), (3, 0), (0, x12), (0, (w32 (x12 + 1))), (1, s0), (3, 0)] [] (mk E c s (hh g)))))) X [0, 3, 7, 19, 24, 33, 54, 60, 69, 121] 35 rfl).trans (by simp (maxSteps := 10000000) only [↓A87, ↓F5690_0, bindI, Option.bind_some, if_true_, and_self, ite_true, true_and, true_or, or_true])
set_option maxRecDepth 100000 in
theorem r144_121 (d : Nat) (x1 x2 x4 x5 x8 x9 x11 x12 s0 : Int) : Ev prog clsT X d mc144 121 [(2, 0), (0, x1), (0, x2), (3, 0), (0, x4), (2, x5), (3, 0), (3, 0), (0, x8), (1, x9), (3, 0), (0, x11), (0, x12), (3, 0), (3, 0)] [(1, s0)] (mk E c s (hh g)) =
  (some ((1, s0), ((mk E c s (hh g))))) :=
  (evk_at (r := (some ((1, s0), (mk E c s (hh g))))) X [0, 3, 7, 19, 24, 33, 54, 60, 69, 121] 2 rfl).trans (by simp (maxSteps := 10000000) only [bindI, Option.bind_some, if_true_, and_self, ite_true, true_and, true_or, or_true])
set_option maxRecDepth 100000 in
theorem r145_0 (d : Nat) (x1 : Int) : Ev prog clsT X d mc145 0 [(2, 0), (0, x1), (3, 0), (3, 0), (3, 0), (3, 0)] [] (mk E c s (hh g)) =
  ((Call prog clsT X d 85 [(2, 1), (0, x1)] ((mk E c s (hh g)))).bind fun r1 => if r1.1.1 = 4 then none else
  Ev prog clsT X d mc145 4 [(2, 0), (0, x1), (3, 0), (3, 0), (3, 0), (3, 0)] (pushR r1.1 []) r1.2) :=
  (evk_at (r := ((fget 5634 ((mk E c s (hh g))) 0).bind fun v1 =>
  if (2 : Nat) = 2 ∧ rcv ((mk E c s (hh g))) v1 11 = true then
  ((Call prog clsT X d 85 [(2, v1), (0, x1)] ((mk E c s (hh g)))).bind fun r2 => if r2.1.1 = 4 then none else
  Ev prog clsT X d mc145 4 [(2, 0), (0, x1), (3, 0), (3, 0), (3, 0), (3, 0)] (pushR r2.1 []) r2.2) else none)) X [0, 4, 7, 15] 5 rfl).trans (by simp (maxSteps := 10000000) only [R1_11, ↓F5634_0, bindI, Option.bind_some, if_true_, and_self, ite_true, true_and, true_or, or_true])
set_option maxRecDepth 100000 in
theorem rc145_ (d : Nat) (x1 : Int) : Call prog clsT X (d + 1) 145 [(2, 0), (0, x1)] (mk E c s (hh g)) =
  ((Call prog clsT X d 85 [(2, 1), (0, x1)] ((mk E c s (hh g)))).bind fun r1 => if r1.1.1 = 4 then none else
  Ev prog clsT X d mc145 4 [(2, 0), (0, x1), (3, 0), (3, 0), (3, 0), (3, 0)] (pushR r1.1 []) r1.2) :=
  (show Call prog clsT X (d + 1) 145 [(2, 0), (0, x1)] (mk E c s (hh g)) = Ev prog clsT X d mc145 0 [(2, 0), (0, x1), (3, 0), (3, 0), (3, 0), (3, 0)] [] (mk E c s (hh g)) from rfl).trans (r145_0 X E c s g d x1 )
set_option maxRecDepth 100000 in
theorem r145_4 (d : Nat) (x1 s0 : Int) : Ev prog clsT X d mc145 4 [(2, 0), (0, x1), (3, 0), (3, 0), (3, 0), (3, 0)] [(1, s0)] (mk E c s (hh g)) =
  ((Call prog clsT X d 18 [(2, 30)] ((mk E c s (hh g)))).bind fun r1 => if r1.1.1 = 4 then none else
  Ev prog clsT X d mc145 7 [(2, 0), (0, x1), (3, 0), (3, 0), (3, 0), (3, 0)] (pushR r1.1 [(1, s0)]) r1.2) :=
  (evk_at (r := ((fget 5658 ((mk E c s (hh g))) 0).bind fun v1 =>
  if (2 : Nat) = 2 ∧ rcv ((mk E c s (hh g))) v1 3 = true then
  ((Call prog clsT X d 18 [(2, v1)] ((mk E c s (hh g)))).bind fun r2 => if r2.1.1 = 4 then none else
  Ev prog clsT X d mc145 7 [(2, 0), (0, x1), (3, 0), (3, 0), (3, 0), (3, 0)] (pushR r2.1 [(1, s0)]) r2.2) else none)) X [0, 4, 7, 15] 4 rfl).trans (by simp (maxSteps := 10000000) only [R30_3, ↓F5658_0, bindI, Option.bind_some, if_true_, and_self, ite_true, true_and, true_or, or_true])
set_option maxRecDepth 100000 in
theorem r145_7 (d : Nat) (x1 s0 s1 : Int) : Ev prog clsT X d mc145 7 [(2, 0), (0, x1), (3, 0), (3, 0), (3, 0), (3, 0)] [(1, s1), (1, s0)] (mk E c s (hh g)) =
  (Ev prog clsT X d mc145 15 [(2, 0), (0, x1), (1, (land64 s0 ((lxor64 s1 ((-1)))))), (3, 0), (0, 0), (0, 0)] [] (mk E c s (hh g))) :=
  evk_at X [0, 4, 7, 15] 10 rfl
set_option maxRecDepth 100000 in
theorem r145_15 (d : Nat) (x2 x4 x5 : Int) (w1 w3 : MV) : Ev prog clsT X d mc145 15 [(2, 0), w1, (1, x2), w3, (0, x4), (0, x5)] [] (mk E c s (hh g)) =
  (if cmpI .ge x5 40 = true then
  (some ((0, x4), ((mk E c s (hh g)))))
else
  (if cmpI .eq ((lcmpI ((land64 ((lshr64 x2 x5)) 1)) 0)) 0 = true then
    (Ev prog clsT X d mc145 15 [(2, 0), (3, 0), (1, x2), (3, 0), (0, x4), (0, (w32 (x5 + 1)))] [] (mk E c s (hh g)))
  else
    (if cmpI .ge x4 10 = true then
      (Ev prog clsT X d mc145 15 [(2, 0), (3, 0), (1, x2), (3, 0), (0, (w32 (x4 + 1))), (0, (w32 (x5 + 1)))] [] (mk E c s (hh g)))
    else
      (if inb x4 10 = true then
        (Ev prog clsT X d mc145 15 [(2, 0), (3, 0), (1, x2), (3, 0), (0, (w32 (x4 + 1))), (0, (w32 (x5 + 1)))] [] (mk E c s (hh (up g 86 (Int.toNat x4) x5))))
      else none)))) :=
  (evk_at (r := (if cmpI .ge x5 40 = true then
  (some ((0, x4), (mk E c s (hh g))))
else
  (if cmpI .eq ((lcmpI ((land64 ((lshr64 x2 x5)) 1)) 0)) 0 = true then
    (Ev prog clsT X d mc145 15 [(2, 0), (3, 0), (1, x2), (3, 0), (0, x4), (0, (w32 (x5 + 1)))] [] (mk E c s (hh g)))
  else
    (if cmpI .ge x4 10 = true then
      (Ev prog clsT X d mc145 15 [(2, 0), (3, 0), (1, x2), (3, 0), (0, (w32 (x4 + 1))), (0, (w32 (x5 + 1)))] [] (mk E c s (hh g)))
    else
      ((fget 5686 ((mk E c s (hh g))) 0).bind fun v1 =>
        (aput 100 ((mk E c s (hh g))) v1 x4 (x5)).bind fun M2 =>
        Ev prog clsT X d mc145 15 [(2, 0), (3, 0), (1, x2), (3, 0), (0, (w32 (x4 + 1))), (0, (w32 (x5 + 1)))] [] M2))))) X [0, 4, 7, 15] 24 rfl).trans (by simp (maxSteps := 10000000) only [↓F5686_0, ↓S86, bindI, Option.bind_some, if_true_, and_self, ite_true, true_and, true_or, or_true])
set_option maxRecDepth 100000 in
theorem r146_0 (d : Nat) (x1 x2 x3 x4 : Int) : Ev prog clsT X d mc146 0 [(2, 0), (0, x1), (0, x2), (2, x3), (0, x4), (3, 0), (3, 0), (3, 0), (3, 0), (3, 0), (3, 0)] [] (mk E c s (hh g)) =
  (Ev prog clsT X d mc146 2 [(2, 0), (0, x1), (0, x2), (2, x3), (0, x4), (0, 0), (3, 0), (3, 0), (3, 0), (3, 0), (3, 0)] [] (mk E c s (hh g))) :=
  evk_at X [0, 2, 11, 16] 4 rfl
set_option maxRecDepth 100000 in
theorem rc146_ (d : Nat) (x1 x2 x3 x4 : Int) : Call prog clsT X (d + 1) 146 [(2, 0), (0, x1), (0, x2), (2, x3), (0, x4)] (mk E c s (hh g)) =
  (Ev prog clsT X d mc146 2 [(2, 0), (0, x1), (0, x2), (2, x3), (0, x4), (0, 0), (3, 0), (3, 0), (3, 0), (3, 0), (3, 0)] [] (mk E c s (hh g))) :=
  (show Call prog clsT X (d + 1) 146 [(2, 0), (0, x1), (0, x2), (2, x3), (0, x4)] (mk E c s (hh g)) = Ev prog clsT X d mc146 0 [(2, 0), (0, x1), (0, x2), (2, x3), (0, x4), (3, 0), (3, 0), (3, 0), (3, 0), (3, 0), (3, 0)] [] (mk E c s (hh g)) from rfl).trans (r146_0 X E c s g d x1 x2 x3 x4 )
set_option maxRecDepth 100000 in
theorem r146_2 (d : Nat) (x1 x2 x3 x4 x5 : Int) (w6 w7 w8 w9 w10 : MV) : Ev prog clsT X d mc146 2 [(2, 0), (0, x1), (0, x2), (2, x3), (0, x4), (0, x5), w6, w7, w8, w9, w10] [] (mk E c s (hh g)) =
  (if cmpI .gt x5 x4 = true then
  (some ((3, 0), ((mk E c s (hh g)))))
else
  ((Call prog clsT X d 147 [(2, 0), (0, x1), (0, x2), (2, x3), (0, x5)] ((mk E c s (hh g)))).bind fun r1 => if r1.1.1 = 4 then none else
    Ev prog clsT X d mc146 11 [(2, 0), (0, x1), (0, x2), (2, x3), (0, x4), (0, x5), (3, 0), (3, 0), (3, 0), (3, 0), (3, 0)] (pushR r1.1 []) r1.2)) :=
  (evk_at (r := (if cmpI .gt x5 x4 = true then
  (some ((3, 0), (mk E c s (hh g))))
else
  (if (2 : Nat) = 2 ∧ rcv ((mk E c s (hh g))) 0 12 = true then
    ((Call prog clsT X d 147 [(2, 0), (0, x1), (0, x2), (2, x3), (0, x5)] ((mk E c s (hh g)))).bind fun r1 => if r1.1.1 = 4 then none else
    Ev prog clsT X d mc146 11 [(2, 0), (0, x1), (0, x2), (2, x3), (0, x4), (0, x5), (3, 0), (3, 0), (3, 0), (3, 0), (3, 0)] (pushR r1.1 []) r1.2) else none))) X [0, 2, 11, 16] 10 rfl).trans (by simp (maxSteps := 10000000) only [R0_12, bindI, Option.bind_some, if_true_, and_self, ite_true, true_and, true_or, or_true])
set_option maxRecDepth 100000 in
theorem r146_11 (d : Nat) (x1 x2 x3 x4 x5 s0 : Int) : Ev prog clsT X d mc146 11 [(2, 0), (0, x1), (0, x2), (2, x3), (0, x4), (0, x5), (3, 0), (3, 0), (3, 0), (3, 0), (3, 0)] [(1, s0)] (mk E c s (hh g)) =
  (Ev prog clsT X d mc146 16 [(2, 0), (0, x1), (0, x2), (2, x3), (0, x4), (0, x5), (1, s0), (3, 0), (0, x5), (0, 0), (3, 0)] [] (mk E c s (hh g))) :=
  evk_at X [0, 2, 11, 16] 7 rfl
set_option maxRecDepth 100000 in
theorem r146_16 (d : Nat) (x1 x2 x3 x4 x5 x6 x8 x9 : Int) (w7 w10 : MV) : Ev prog clsT X d mc146 16 [(2, 0), (0, x1), (0, x2), (2, x3), (0, x4), (0, x5), (1, x6), w7, (0, x8), (0, x9), w10] [] (mk E c s (hh g)) =
  (if cmpI .ge x9 10 = true then
  (if inb x5 1024 = true then
    (if inb x5 1024 = true then
    (Ev prog clsT X d mc146 2 [(2, 0), (0, x1), (0, x2), (2, x3), (0, x4), (0, (w32 (x5 + 1))), (1, x6), (3, 0), (0, x8), (0, x9), (3, 0)] [] (mk E c s (hh (up (up g 87 (Int.toNat x5) x6) 88 (Int.toNat x5) x8))))
  else none)
  else none)
else
  (if cmpI .eq ((iand32 x5 ((ixor32 ((ishl32 1 x9)) ((-1)))))) x5 = true then
    (Ev prog clsT X d mc146 16 [(2, 0), (0, x1), (0, x2), (2, x3), (0, x4), (0, x5), (1, x6), (3, 0), (0, x8), (0, (w32 (x9 + 1))), (0, (iand32 x5 ((ixor32 ((ishl32 1 x9)) ((-1))))))] [] (mk E c s (hh g)))
  else
    (if inb ((iand32 x5 ((ixor32 ((ishl32 1 x9)) ((-1)))))) 1024 = true then
      (if cmpI .ge ((lcmpI ((g 87 (Int.toNat ((iand32 x5 ((ixor32 ((ishl32 1 x9)) ((-1))))))))) x6)) 0 = true then
      (if inb ((iand32 x5 ((ixor32 ((ishl32 1 x9)) ((-1)))))) 1024 = true then
        (if cmpI .gt ((lcmpI ((g 87 (Int.toNat ((iand32 x5 ((ixor32 ((ishl32 1 x9)) ((-1))))))))) x6)) 0 = true then
        (if inb ((iand32 x5 ((ixor32 ((ishl32 1 x9)) ((-1)))))) 1024 = true then
          (if inb ((iand32 x5 ((ixor32 ((ishl32 1 x9)) ((-1)))))) 1024 = true then
          (Ev prog clsT X d mc146 16 [(2, 0), (0, x1), (0, x2), (2, x3), (0, x4), (0, x5), (1, (g 87 (Int.toNat ((iand32 x5 ((ixor32 ((ishl32 1 x9)) ((-1))))))))), (3, 0), (0, (g 88 (Int.toNat ((iand32 x5 ((ixor32 ((ishl32 1 x9)) ((-1))))))))), (0, (w32 (x9 + 1))), (0, (iand32 x5 ((ixor32 ((ishl32 1 x9)) ((-1))))))] [] (mk E c s (hh g)))
        else none)
        else none)
      else
        (if inb ((iand32 x5 ((ixor32 ((ishl32 1 x9)) ((-1)))))) 1024 = true then
          (if cmpI .ge ((g 88 (Int.toNat ((iand32 x5 ((ixor32 ((ishl32 1 x9)) ((-1))))))))) x8 = true then
          (Ev prog clsT X d mc146 16 [(2, 0), (0, x1), (0, x2), (2, x3), (0, x4), (0, x5), (1, x6), (3, 0), (0, x8), (0, (w32 (x9 + 1))), (0, (iand32 x5 ((ixor32 ((ishl32 1 x9)) ((-1))))))] [] (mk E c s (hh g)))
        else
          (if inb ((iand32 x5 ((ixor32 ((ishl32 1 x9)) ((-1)))))) 1024 = true then
            (if inb ((iand32 x5 ((ixor32 ((ishl32 1 x9)) ((-1)))))) 1024 = true then
            (Ev prog clsT X d mc146 16 [(2, 0), (0, x1), (0, x2), (2, x3), (0, x4), (0, x5), (1, (g 87 (Int.toNat ((iand32 x5 ((ixor32 ((ishl32 1 x9)) ((-1))))))))), (3, 0), (0, (g 88 (Int.toNat ((iand32 x5 ((ixor32 ((ishl32 1 x9)) ((-1))))))))), (0, (w32 (x9 + 1))), (0, (iand32 x5 ((ixor32 ((ishl32 1 x9)) ((-1))))))] [] (mk E c s (hh g)))
          else none)
          else none))
        else none))
      else none)
    else
      (Ev prog clsT X d mc146 16 [(2, 0), (0, x1), (0, x2), (2, x3), (0, x4), (0, x5), (1, x6), (3, 0), (0, x8), (0, (w32 (x9 + 1))), (0, (iand32 x5 ((ixor32 ((ishl32 1 x9)) ((-1))))))] [] (mk E c s (hh g))))
    else none))) :=
  (evk_at (r := (if cmpI .ge x9 10 = true then
  ((fget 5690 ((mk E c s (hh g))) 0).bind fun v1 =>
    (aput 101 ((mk E c s (hh g))) v1 x5 (x6)).bind fun M2 =>
    (fget 5694 M2 0).bind fun v3 =>
    (aput 100 M2 v3 x5 (x8)).bind fun M4 =>
    Ev prog clsT X d mc146 2 [(2, 0), (0, x1), (0, x2), (2, x3), (0, x4), (0, (w32 (x5 + 1))), (1, x6), (3, 0), (0, x8), (0, x9), (3, 0)] [] M4)
else
  (if cmpI .eq ((iand32 x5 ((ixor32 ((ishl32 1 x9)) ((-1)))))) x5 = true then
    (Ev prog clsT X d mc146 16 [(2, 0), (0, x1), (0, x2), (2, x3), (0, x4), (0, x5), (1, x6), (3, 0), (0, x8), (0, (w32 (x9 + 1))), (0, (iand32 x5 ((ixor32 ((ishl32 1 x9)) ((-1))))))] [] (mk E c s (hh g)))
  else
    ((fget 5690 ((mk E c s (hh g))) 0).bind fun v5 =>
      (aget X 101 ((mk E c s (hh g))) v5 ((iand32 x5 ((ixor32 ((ishl32 1 x9)) ((-1))))))).bind fun v6 =>
      if cmpI .ge ((lcmpI v6 x6)) 0 = true then
      ((fget 5690 ((mk E c s (hh g))) 0).bind fun v7 =>
        (aget X 101 ((mk E c s (hh g))) v7 ((iand32 x5 ((ixor32 ((ishl32 1 x9)) ((-1))))))).bind fun v8 =>
        if cmpI .gt ((lcmpI v8 x6)) 0 = true then
        ((fget 5690 ((mk E c s (hh g))) 0).bind fun v9 =>
          (aget X 101 ((mk E c s (hh g))) v9 ((iand32 x5 ((ixor32 ((ishl32 1 x9)) ((-1))))))).bind fun v10 =>
          (fget 5694 ((mk E c s (hh g))) 0).bind fun v11 =>
          (aget X 100 ((mk E c s (hh g))) v11 ((iand32 x5 ((ixor32 ((ishl32 1 x9)) ((-1))))))).bind fun v12 =>
          Ev prog clsT X d mc146 16 [(2, 0), (0, x1), (0, x2), (2, x3), (0, x4), (0, x5), (1, v10), (3, 0), (0, v12), (0, (w32 (x9 + 1))), (0, (iand32 x5 ((ixor32 ((ishl32 1 x9)) ((-1))))))] [] (mk E c s (hh g)))
      else
        ((fget 5694 ((mk E c s (hh g))) 0).bind fun v13 =>
          (aget X 100 ((mk E c s (hh g))) v13 ((iand32 x5 ((ixor32 ((ishl32 1 x9)) ((-1))))))).bind fun v14 =>
          if cmpI .ge v14 x8 = true then
          (Ev prog clsT X d mc146 16 [(2, 0), (0, x1), (0, x2), (2, x3), (0, x4), (0, x5), (1, x6), (3, 0), (0, x8), (0, (w32 (x9 + 1))), (0, (iand32 x5 ((ixor32 ((ishl32 1 x9)) ((-1))))))] [] (mk E c s (hh g)))
        else
          ((fget 5690 ((mk E c s (hh g))) 0).bind fun v15 =>
            (aget X 101 ((mk E c s (hh g))) v15 ((iand32 x5 ((ixor32 ((ishl32 1 x9)) ((-1))))))).bind fun v16 =>
            (fget 5694 ((mk E c s (hh g))) 0).bind fun v17 =>
            (aget X 100 ((mk E c s (hh g))) v17 ((iand32 x5 ((ixor32 ((ishl32 1 x9)) ((-1))))))).bind fun v18 =>
            Ev prog clsT X d mc146 16 [(2, 0), (0, x1), (0, x2), (2, x3), (0, x4), (0, x5), (1, v16), (3, 0), (0, v18), (0, (w32 (x9 + 1))), (0, (iand32 x5 ((ixor32 ((ishl32 1 x9)) ((-1))))))] [] (mk E c s (hh g)))))
    else
      (Ev prog clsT X d mc146 16 [(2, 0), (0, x1), (0, x2), (2, x3), (0, x4), (0, x5), (1, x6), (3, 0), (0, x8), (0, (w32 (x9 + 1))), (0, (iand32 x5 ((ixor32 ((ishl32 1 x9)) ((-1))))))] [] (mk E c s (hh g))))))) X [0, 2, 11, 16] 48 rfl).trans (by simp (maxSteps := 10000000) only [↓A87, ↓A88, ↓F5690_0, ↓F5694_0, ↓S87, ↓S88, bindI, Option.bind_some, if_true_, and_self, ite_true, true_and, true_or, or_true])
set_option maxRecDepth 100000 in
theorem r147_0 (d : Nat) (x1 x2 x3 x4 : Int) : Ev prog clsT X d mc147 0 [(2, 0), (0, x1), (0, x2), (2, x3), (0, x4)] [] (mk E c s (hh g)) =
  (if cmpI .ne x4 0 = true then
  ((Call prog clsT X d 262 [(0, x4)] ((mk E c s (hh g)))).bind fun r1 => if r1.1.1 = 4 then none else
    Ev prog clsT X d mc147 6 [(2, 0), (0, x1), (0, x2), (2, x3), (0, x4)] (pushR r1.1 []) r1.2)
else
  (some ((1, 0), ((mk E c s (hh g)))))) :=
  (evk_at (r := (if cmpI .ne x4 0 = true then
  ((Call prog clsT X d 262 [(0, x4)] ((mk E c s (hh g)))).bind fun r1 => if r1.1.1 = 4 then none else
    Ev prog clsT X d mc147 6 [(2, 0), (0, x1), (0, x2), (2, x3), (0, x4)] (pushR r1.1 []) r1.2)
else
  (some ((1, 0), (mk E c s (hh g)))))) X [0, 6, 17, 19, 29, 32, 38, 45] 5 rfl).trans (by simp (maxSteps := 10000000) only [bindI, Option.bind_some, if_true_, and_self, ite_true, true_and, true_or, or_true])
set_option maxRecDepth 100000 in
theorem rc147_ (d : Nat) (x1 x2 x3 x4 : Int) : Call prog clsT X (d + 1) 147 [(2, 0), (0, x1), (0, x2), (2, x3), (0, x4)] (mk E c s (hh g)) =
  (if cmpI .ne x4 0 = true then
  ((Call prog clsT X d 262 [(0, x4)] ((mk E c s (hh g)))).bind fun r1 => if r1.1.1 = 4 then none else
    Ev prog clsT X d mc147 6 [(2, 0), (0, x1), (0, x2), (2, x3), (0, x4)] (pushR r1.1 []) r1.2)
else
  (some ((1, 0), ((mk E c s (hh g)))))) :=
  (show Call prog clsT X (d + 1) 147 [(2, 0), (0, x1), (0, x2), (2, x3), (0, x4)] (mk E c s (hh g)) = Ev prog clsT X d mc147 0 [(2, 0), (0, x1), (0, x2), (2, x3), (0, x4)] [] (mk E c s (hh g)) from rfl).trans (r147_0 X E c s g d x1 x2 x3 x4 )
set_option maxRecDepth 100000 in
theorem r147_6 (d : Nat) (x1 x2 x3 x4 s0 : Int) : Ev prog clsT X d mc147 6 [(2, 0), (0, x1), (0, x2), (2, x3), (0, x4)] [(0, s0)] (mk E c s (hh g)) =
  (if cmpI .le s0 8 = true then
  ((Call prog clsT X d 148 [(2, 0), (0, x4)] ((mk E c s (hh g)))).bind fun r1 => if r1.1.1 = 4 then none else
    Ev prog clsT X d mc147 17 [(2, 0), (0, x1), (0, x2), (2, x3), (0, x4)] (pushR r1.1 [(2, 1), (2, 27)]) r1.2)
else
  (some ((1, (-4611686018427387904)), ((mk E c s (hh g)))))) :=
  (evk_at (r := (if cmpI .le s0 8 = true then
  ((fget 5654 ((mk E c s (hh g))) 0).bind fun v1 =>
    (fget 5634 ((mk E c s (hh g))) 0).bind fun v2 =>
    if (2 : Nat) = 2 ∧ rcv ((mk E c s (hh g))) 0 12 = true then
    ((Call prog clsT X d 148 [(2, 0), (0, x4)] ((mk E c s (hh g)))).bind fun r3 => if r3.1.1 = 4 then none else
    Ev prog clsT X d mc147 17 [(2, 0), (0, x1), (0, x2), (2, x3), (0, x4)] (pushR r3.1 [(2, v2), (2, v1)]) r3.2) else none)
else
  (some ((1, (-4611686018427387904)), (mk E c s (hh g)))))) X [0, 6, 17, 19, 29, 32, 38, 45] 10 rfl).trans (by simp (maxSteps := 10000000) only [R0_12, ↓F5634_0, ↓F5654_0, bindI, Option.bind_some, if_true_, and_self, ite_true, true_and, true_or, or_true])
set_option maxRecDepth 100000 in
theorem r147_17 (d : Nat) (x1 x2 x3 x4 s2 : Int) : Ev prog clsT X d mc147 17 [(2, 0), (0, x1), (0, x2), (2, x3), (0, x4)] [(1, s2), (2, 1), (2, 27)] (mk E c s (hh g)) =
  ((Call prog clsT X d 76 [(2, 27), (2, 1), (1, s2), (2, x3)] ((mk E c s (hh g)))).bind fun r1 => if r1.1.1 = 4 then none else
  Ev prog clsT X d mc147 19 [(2, 0), (0, x1), (0, x2), (2, x3), (0, x4)] (pushR r1.1 []) r1.2) :=
  (evk_at (r := (if (2 : Nat) = 2 ∧ rcv ((mk E c s (hh g))) 27 9 = true then
  ((Call prog clsT X d 76 [(2, 27), (2, 1), (1, s2), (2, x3)] ((mk E c s (hh g)))).bind fun r1 => if r1.1.1 = 4 then none else
  Ev prog clsT X d mc147 19 [(2, 0), (0, x1), (0, x2), (2, x3), (0, x4)] (pushR r1.1 []) r1.2) else none)) X [0, 6, 17, 19, 29, 32, 38, 45] 3 rfl).trans (by simp (maxSteps := 10000000) only [R27_9, bindI, Option.bind_some, if_true_, and_self, ite_true, true_and, true_or, or_true])
set_option maxRecDepth 100000 in
theorem r147_19 (d : Nat) (x1 x2 x3 x4 : Int) : Ev prog clsT X d mc147 19 [(2, 0), (0, x1), (0, x2), (2, x3), (0, x4)] [] (mk E c s (hh g)) =
  ((Call prog clsT X d 23 [(2, 30), (0, x1), (0, x2)] ((mk E c s (hh g)))).bind fun r1 => if r1.1.1 = 4 then none else
  Ev prog clsT X d mc147 29 [(2, 0), (0, x1), (0, x2), (2, x3), (0, x4)] (pushR r1.1 [(0, x1), (2, 1), (2, 27)]) r1.2) :=
  (evk_at (r := ((fget 5654 ((mk E c s (hh g))) 0).bind fun v1 =>
  (fget 5634 ((mk E c s (hh g))) 0).bind fun v2 =>
  (fget 5658 ((mk E c s (hh g))) 0).bind fun v3 =>
  if (2 : Nat) = 2 ∧ rcv ((mk E c s (hh g))) v3 3 = true then
  ((Call prog clsT X d 23 [(2, v3), (0, x1), (0, x2)] ((mk E c s (hh g)))).bind fun r4 => if r4.1.1 = 4 then none else
  Ev prog clsT X d mc147 29 [(2, 0), (0, x1), (0, x2), (2, x3), (0, x4)] (pushR r4.1 [(0, x1), (2, v2), (2, v1)]) r4.2) else none)) X [0, 6, 17, 19, 29, 32, 38, 45] 11 rfl).trans (by simp (maxSteps := 10000000) only [R30_3, ↓F5634_0, ↓F5654_0, ↓F5658_0, bindI, Option.bind_some, if_true_, and_self, ite_true, true_and, true_or, or_true])
set_option maxRecDepth 100000 in
theorem r147_29 (d : Nat) (x1 x2 x3 x4 s2 s3 : Int) : Ev prog clsT X d mc147 29 [(2, 0), (0, x1), (0, x2), (2, x3), (0, x4)] [(0, s3), (0, s2), (2, 1), (2, 27)] (mk E c s (hh g)) =
  ((Call prog clsT X d 77 [(2, 27), (2, 1), (0, s2), (0, (w32 (s3 + 1)))] ((mk E c s (hh g)))).bind fun r1 => if r1.1.1 = 4 then none else
  Ev prog clsT X d mc147 32 [(2, 0), (0, x1), (0, x2), (2, x3), (0, x4)] (pushR r1.1 []) r1.2) :=
  (evk_at (r := (if (2 : Nat) = 2 ∧ rcv ((mk E c s (hh g))) 27 9 = true then
  ((Call prog clsT X d 77 [(2, 27), (2, 1), (0, s2), (0, (w32 (s3 + 1)))] ((mk E c s (hh g)))).bind fun r1 => if r1.1.1 = 4 then none else
  Ev prog clsT X d mc147 32 [(2, 0), (0, x1), (0, x2), (2, x3), (0, x4)] (pushR r1.1 []) r1.2) else none)) X [0, 6, 17, 19, 29, 32, 38, 45] 4 rfl).trans (by simp (maxSteps := 10000000) only [R27_9, bindI, Option.bind_some, if_true_, and_self, ite_true, true_and, true_or, or_true])
set_option maxRecDepth 100000 in
theorem r147_32 (d : Nat) (x1 x2 x3 x4 : Int) : Ev prog clsT X d mc147 32 [(2, 0), (0, x1), (0, x2), (2, x3), (0, x4)] [] (mk E c s (hh g)) =
  ((Call prog clsT X d 72 [(2, 27), (2, x3), (2, (g 0 3))] ((mk E c s (hh g)))).bind fun r1 => if r1.1.1 = 4 then none else
  Ev prog clsT X d mc147 38 [(2, 0), (0, x1), (0, x2), (2, x3), (0, x4)] (pushR r1.1 []) r1.2) :=
  (evk_at (r := ((fget 5654 ((mk E c s (hh g))) 0).bind fun v1 =>
  (fget 5646 ((mk E c s (hh g))) 0).bind fun v2 =>
  if (2 : Nat) = 2 ∧ rcv ((mk E c s (hh g))) v1 9 = true then
  ((Call prog clsT X d 72 [(2, v1), (2, x3), (2, v2)] ((mk E c s (hh g)))).bind fun r3 => if r3.1.1 = 4 then none else
  Ev prog clsT X d mc147 38 [(2, 0), (0, x1), (0, x2), (2, x3), (0, x4)] (pushR r3.1 []) r3.2) else none)) X [0, 6, 17, 19, 29, 32, 38, 45] 7 rfl).trans (by simp (maxSteps := 10000000) only [R27_9, ↓F5646_0, ↓F5654_0, bindI, Option.bind_some, if_true_, and_self, ite_true, true_and, true_or, or_true])
set_option maxRecDepth 100000 in
theorem r147_38 (d : Nat) (x1 x2 x3 x4 s0 : Int) : Ev prog clsT X d mc147 38 [(2, 0), (0, x1), (0, x2), (2, x3), (0, x4)] [(0, s0)] (mk E c s (hh g)) =
  (if cmpI .ne s0 ((-1)) = true then
  (some ((1, (-4611686018427387904)), ((mk E c s (hh g)))))
else
  ((Call prog clsT X d 74 [(2, 27), (2, x3), (0, 6)] ((mk E c s (hh g)))).bind fun r1 => if r1.1.1 = 4 then none else
    Ev prog clsT X d mc147 45 [(2, 0), (0, x1), (0, x2), (2, x3), (0, x4)] (pushR r1.1 []) r1.2)) :=
  (evk_at (r := (if cmpI .ne s0 ((-1)) = true then
  (some ((1, (-4611686018427387904)), (mk E c s (hh g))))
else
  ((fget 5654 ((mk E c s (hh g))) 0).bind fun v1 =>
    if (2 : Nat) = 2 ∧ rcv ((mk E c s (hh g))) v1 9 = true then
    ((Call prog clsT X d 74 [(2, v1), (2, x3), (0, 6)] ((mk E c s (hh g)))).bind fun r2 => if r2.1.1 = 4 then none else
    Ev prog clsT X d mc147 45 [(2, 0), (0, x1), (0, x2), (2, x3), (0, x4)] (pushR r2.1 []) r2.2) else none))) X [0, 6, 17, 19, 29, 32, 38, 45] 8 rfl).trans (by simp (maxSteps := 10000000) only [R27_9, ↓F5654_0, bindI, Option.bind_some, if_true_, and_self, ite_true, true_and, true_or, or_true])
set_option maxRecDepth 100000 in
theorem r147_45 (d : Nat) (x1 x2 x3 x4 s0 : Int) : Ev prog clsT X d mc147 45 [(2, 0), (0, x1), (0, x2), (2, x3), (0, x4)] [(0, s0)] (mk E c s (hh g)) =
  (some ((1, s0), ((mk E c s (hh g))))) :=
  (evk_at (r := (some ((1, s0), (mk E c s (hh g))))) X [0, 6, 17, 19, 29, 32, 38, 45] 4 rfl).trans (by simp (maxSteps := 10000000) only [bindI, Option.bind_some, if_true_, and_self, ite_true, true_and, true_or, or_true])
set_option maxRecDepth 100000 in
theorem r148_0 (d : Nat) (x1 : Int) : Ev prog clsT X d mc148 0 [(2, 0), (0, x1), (3, 0), (3, 0), (3, 0)] [] (mk E c s (hh g)) =
  (Ev prog clsT X d mc148 4 [(2, 0), (0, x1), (1, 0), (3, 0), (0, 0)] [] (mk E c s (hh g))) :=
  evk_at X [0, 4] 6 rfl
set_option maxRecDepth 100000 in
theorem rc148_ (d : Nat) (x1 : Int) : Call prog clsT X (d + 1) 148 [(2, 0), (0, x1)] (mk E c s (hh g)) =
  (Ev prog clsT X d mc148 4 [(2, 0), (0, x1), (1, 0), (3, 0), (0, 0)] [] (mk E c s (hh g))) :=
  (show Call prog clsT X (d + 1) 148 [(2, 0), (0, x1)] (mk E c s (hh g)) = Ev prog clsT X d mc148 0 [(2, 0), (0, x1), (3, 0), (3, 0), (3, 0)] [] (mk E c s (hh g)) from rfl).trans (r148_0 X E c s g d x1 )
set_option maxRecDepth 100000 in
theorem r148_4 (d : Nat) (x1 x2 x4 : Int) (w3 : MV) : Ev prog clsT X d mc148 4 [(2, 0), (0, x1), (1, x2), w3, (0, x4)] [] (mk E c s (hh g)) =
  (if cmpI .ge x4 10 = true then
  (some ((1, x2), ((mk E c s (hh g)))))
else
  (if cmpI .eq ((iand32 ((ishr32 x1 x4)) 1)) 0 = true then
    (Ev prog clsT X d mc148 4 [(2, 0), (0, x1), (1, (lor64 x2 0)), (3, 0), (0, (w32 (x4 + 1)))] [] (mk E c s (hh g)))
  else
    (if inb x4 10 = true then
      (Ev prog clsT X d mc148 4 [(2, 0), (0, x1), (1, (lor64 x2 ((lshl64 1 ((g 86 (Int.toNat x4))))))), (3, 0), (0, (w32 (x4 + 1)))] [] (mk E c s (hh g)))
    else none))) :=
  (evk_at (r := (if cmpI .ge x4 10 = true then
  (some ((1, x2), (mk E c s (hh g))))
else
  (if cmpI .eq ((iand32 ((ishr32 x1 x4)) 1)) 0 = true then
    (Ev prog clsT X d mc148 4 [(2, 0), (0, x1), (1, (lor64 x2 0)), (3, 0), (0, (w32 (x4 + 1)))] [] (mk E c s (hh g)))
  else
    ((fget 5686 ((mk E c s (hh g))) 0).bind fun v1 =>
      (aget X 100 ((mk E c s (hh g))) v1 x4).bind fun v2 =>
      Ev prog clsT X d mc148 4 [(2, 0), (0, x1), (1, (lor64 x2 ((lshl64 1 v2)))), (3, 0), (0, (w32 (x4 + 1)))] [] (mk E c s (hh g)))))) X [0, 4] 23 rfl).trans (by simp (maxSteps := 10000000) only [↓A86, ↓F5686_0, bindI, Option.bind_some, if_true_, and_self, ite_true, true_and, true_or, or_true])
set_option maxRecDepth 100000 in
theorem r149_276 (d : Nat) (x1 : Int) : Ev prog clsT X d mc149 276 [(2, 89), (0, x1)] [] (mk E c s (hh g)) =
  (if cmpI .ge x1 10 = true then
  (Ev prog clsT X d mc149 293 [(2, 89), (0, 0)] [] (mk E c s (hh g)))
else
  (if inb x1 10 = true then
    (if inb x1 10 = true then
    (Ev prog clsT X d mc149 276 [(2, 89), (0, (w32 (x1 + 1)))] [] (mk E c s (hh (up (up g 133 (Int.toNat x1) 1) 130 (Int.toNat x1) ((-1))))))
  else none)
  else none)) :=
  (evk_at (r := (if cmpI .ge x1 10 = true then
  (Ev prog clsT X d mc149 293 [(2, 89), (0, 0)] [] (mk E c s (hh g)))
else
  ((fget 6366 ((mk E c s (hh g))) 89).bind fun v1 =>
    (aput 100 ((mk E c s (hh g))) v1 x1 (1)).bind fun M2 =>
    (fget 6354 M2 89).bind fun v3 =>
    (aput 100 M2 v3 x1 ((-1))).bind fun M4 =>
    Ev prog clsT X d mc149 276 [(2, 89), (0, (w32 (x1 + 1)))] [] M4))) X [0, 276, 293, 305] 17 rfl).trans (by simp (maxSteps := 10000000) only [↓F6354_89, ↓F6366_89, ↓S130, ↓S133, bindI, Option.bind_some, if_true_, and_self, ite_true, true_and, true_or, or_true])
set_option maxRecDepth 100000 in
theorem r149_293 (d : Nat) (x1 : Int) : Ev prog clsT X d mc149 293 [(2, 89), (0, x1)] [] (mk E c s (hh g)) =
  (if cmpI .ge x1 50 = true then
  (Ev prog clsT X d mc149 305 [(2, 89), (0, 0)] [] (mk E c s (hh g)))
else
  (if inb x1 50 = true then
    (Ev prog clsT X d mc149 293 [(2, 89), (0, (w32 (x1 + 1)))] [] (mk E c s (hh (up g 152 (Int.toNat x1) ((-1))))))
  else none)) :=
  (evk_at (r := (if cmpI .ge x1 50 = true then
  (Ev prog clsT X d mc149 305 [(2, 89), (0, 0)] [] (mk E c s (hh g)))
else
  ((fget 6466 ((mk E c s (hh g))) 89).bind fun v1 =>
    (aput 100 ((mk E c s (hh g))) v1 x1 ((-1))).bind fun M2 =>
    Ev prog clsT X d mc149 293 [(2, 89), (0, (w32 (x1 + 1)))] [] M2))) X [0, 276, 293, 305] 12 rfl).trans (by simp (maxSteps := 10000000) only [↓F6466_89, ↓S152, bindI, Option.bind_some, if_true_, and_self, ite_true, true_and, true_or, or_true])
set_option maxRecDepth 100000 in
theorem r149_305 (d : Nat) (x1 : Int) : Ev prog clsT X d mc149 305 [(2, 89), (0, x1)] [] (mk E c s (hh g)) =
  (if cmpI .ge x1 3 = true then
  (some ((3, 0), ((mk E c s (hh (up g 89 61 4))))))
else
  (if inb x1 3 = true then
    (Ev prog clsT X d mc149 305 [(2, 89), (0, (w32 (x1 + 1)))] [] (mk E c s (hh (up g 142 (Int.toNat x1) ((w32 (3 - x1)))))))
  else none)) :=
  (evk_at (r := (if cmpI .ge x1 3 = true then
  ((fput 6388 ((mk E c s (hh g))) 89 4).bind fun M1 =>
    some ((3, 0), M1))
else
  ((fget 6410 ((mk E c s (hh g))) 89).bind fun v2 =>
    (aput 100 ((mk E c s (hh g))) v2 x1 ((w32 (3 - x1)))).bind fun M3 =>
    Ev prog clsT X d mc149 305 [(2, 89), (0, (w32 (x1 + 1)))] [] M3))) X [0, 276, 293, 305] 14 rfl).trans (by simp (maxSteps := 10000000) only [↓F6410_89, ↓S142, ↓W6388_89, bindI, Option.bind_some, if_true_, and_self, ite_true, true_and, true_or, or_true])
set_option maxRecDepth 100000 in
theorem r150_0 (d : Nat) : Ev prog clsT X d mc150 0 [(2, 89)] [] (mk E c s (hh g)) =
  (some ((0, (g 89 0)), ((mk E c s (hh g))))) :=
  (evk_at (r := ((fget 6144 ((mk E c s (hh g))) 89).bind fun v1 =>
  some ((0, v1), (mk E c s (hh g))))) X [0] 4 rfl).trans (by simp (maxSteps := 10000000) only [↓F6144_89, bindI, Option.bind_some, if_true_, and_self, ite_true, true_and, true_or, or_true])
set_option maxRecDepth 100000 in
theorem rc150_ (d : Nat) : Call prog clsT X (d + 1) 150 [(2, 89)] (mk E c s (hh g)) =
  (some ((0, (g 89 0)), ((mk E c s (hh g))))) :=
  (show Call prog clsT X (d + 1) 150 [(2, 89)] (mk E c s (hh g)) = Ev prog clsT X d mc150 0 [(2, 89)] [] (mk E c s (hh g)) from rfl).trans (r150_0 X E c s g d  )
end
