/-! Part 51.r06: printed by wip/whole/emit6.py: equations with the fixed cells put in. -/
section
variable (X : MExt) (E : List (Nat × Nat)) (c s : Nat) (g : Nat → Nat → Int)
set_option maxRecDepth 100000 in
theorem r176_0 (d : Nat) : Ev prog clsT X d mc176 0 [(2, 89), (3, 0), (3, 0), (3, 0), (3, 0), (3, 0)] [] (mk E c s (hh g)) =
  (Ev prog clsT X d mc176 9 [(2, 89), (0, 0), (0, 1), (3, 0), (3, 0), (3, 0)] [] (mk E c s (hh (up g 116 0 (bit1 (0)))))) :=
  (evk_at (r := ((fget 6298 ((mk E c s (hh g))) 89).bind fun v1 =>
  (aput 102 ((mk E c s (hh g))) v1 0 (bit1 (0))).bind fun M2 =>
  Ev prog clsT X d mc176 9 [(2, 89), (0, 0), (0, 1), (3, 0), (3, 0), (3, 0)] [] M2)) X [0, 9, 13, 17, 21, 35, 36, 42, 54, 80, 82, 94, 98, 102, 106, 111, 117, 122, 128, 132, 142, 147, 158, 162, 167, 172, 183, 189, 190, 205, 208, 213, 216] 11 rfl).trans (by simp (maxSteps := 10000000) only [inbL 0 7 rfl, tn0, ↓F6298_89, ↓S116, bindI, Option.bind_some, if_true_, and_self, ite_true, true_and, true_or, or_true])
set_option maxRecDepth 100000 in
theorem rc176_ (d : Nat) : Call prog clsT X (d + 1) 176 [(2, 89)] (mk E c s (hh g)) =
  (Ev prog clsT X d mc176 9 [(2, 89), (0, 0), (0, 1), (3, 0), (3, 0), (3, 0)] [] (mk E c s (hh (up g 116 0 (bit1 (0)))))) :=
  (show Call prog clsT X (d + 1) 176 [(2, 89)] (mk E c s (hh g)) = Ev prog clsT X d mc176 0 [(2, 89), (3, 0), (3, 0), (3, 0), (3, 0), (3, 0)] [] (mk E c s (hh g)) from rfl).trans (r176_0 X E c s g d  )
set_option maxRecDepth 100000 in
theorem r176_9 (d : Nat) (x1 x2 : Int) (w3 w4 w5 : MV) : Ev prog clsT X d mc176 9 [(2, 89), (0, x1), (0, x2), w3, w4, w5] [] (mk E c s (hh g)) =
  (if cmpI .eq x2 0 = true then
  ((Call prog clsT X d 180 [(2, 89), (0, 43)] ((mk E c s (hh g)))).bind fun r1 => if r1.1.1 = 4 then none else
    Ev prog clsT X d mc176 98 [(2, 89), (0, x1), (0, x2), (3, 0), (3, 0), (3, 0)] (pushR r1.1 []) r1.2)
else
  ((Call prog clsT X d 177 [(2, 89)] ((mk E c s (hh g)))).bind fun r2 => if r2.1.1 = 4 then none else
    Ev prog clsT X d mc176 13 [(2, 89), (0, x1), (0, x2), (3, 0), (3, 0), (3, 0)] (pushR r2.1 []) r2.2)) :=
  (evk_at (r := (if cmpI .eq x2 0 = true then
  (if (2 : Nat) = 2 ∧ rcv ((mk E c s (hh g))) 89 13 = true then
    ((Call prog clsT X d 180 [(2, 89), (0, 43)] ((mk E c s (hh g)))).bind fun r1 => if r1.1.1 = 4 then none else
    Ev prog clsT X d mc176 98 [(2, 89), (0, x1), (0, x2), (3, 0), (3, 0), (3, 0)] (pushR r1.1 []) r1.2) else none)
else
  (if (2 : Nat) = 2 ∧ rcv ((mk E c s (hh g))) 89 13 = true then
    ((Call prog clsT X d 177 [(2, 89)] ((mk E c s (hh g)))).bind fun r2 => if r2.1.1 = 4 then none else
    Ev prog clsT X d mc176 13 [(2, 89), (0, x1), (0, x2), (3, 0), (3, 0), (3, 0)] (pushR r2.1 []) r2.2) else none))) X [0, 9, 13, 17, 21, 35, 36, 42, 54, 80, 82, 94, 98, 102, 106, 111, 117, 122, 128, 132, 142, 147, 158, 162, 167, 172, 183, 189, 190, 205, 208, 213, 216] 6 rfl).trans (by simp (maxSteps := 10000000) only [R89_13, bindI, Option.bind_some, if_true_, and_self, ite_true, true_and, true_or, or_true])
set_option maxRecDepth 100000 in
theorem r176_13 (d : Nat) (x1 x2 s0 : Int) : Ev prog clsT X d mc176 13 [(2, 89), (0, x1), (0, x2), (3, 0), (3, 0), (3, 0)] [(0, s0)] (mk E c s (hh g)) =
  ((Call prog clsT X d 171 [(2, 89), (1, 10631)] ((mk E c s (hh g)))).bind fun r1 => if r1.1.1 = 4 then none else
  Ev prog clsT X d mc176 17 [(2, 89), (0, x1), (0, x2), (0, s0), (3, 0), (3, 0)] (pushR r1.1 []) r1.2) :=
  (evk_at (r := (if (2 : Nat) = 2 ∧ rcv ((mk E c s (hh g))) 89 13 = true then
  ((Call prog clsT X d 171 [(2, 89), (1, 10631)] ((mk E c s (hh g)))).bind fun r1 => if r1.1.1 = 4 then none else
  Ev prog clsT X d mc176 17 [(2, 89), (0, x1), (0, x2), (0, s0), (3, 0), (3, 0)] (pushR r1.1 []) r1.2) else none)) X [0, 9, 13, 17, 21, 35, 36, 42, 54, 80, 82, 94, 98, 102, 106, 111, 117, 122, 128, 132, 142, 147, 158, 162, 167, 172, 183, 189, 190, 205, 208, 213, 216] 5 rfl).trans (by simp (maxSteps := 10000000) only [R89_13, bindI, Option.bind_some, if_true_, and_self, ite_true, true_and, true_or, or_true])
set_option maxRecDepth 100000 in
theorem r176_17 (d : Nat) (x1 x2 x3 s0 : Int) : Ev prog clsT X d mc176 17 [(2, 89), (0, x1), (0, x2), (0, x3), (3, 0), (3, 0)] [(0, s0)] (mk E c s (hh g)) =
  ((Call prog clsT X d 180 [(2, 89), (0, 40)] ((mk E c s (hh g)))).bind fun r1 => if r1.1.1 = 4 then none else
  Ev prog clsT X d mc176 21 [(2, 89), (0, x1), (0, x2), (0, x3), (0, s0), (3, 0)] (pushR r1.1 []) r1.2) :=
  (evk_at (r := (if (2 : Nat) = 2 ∧ rcv ((mk E c s (hh g))) 89 13 = true then
  ((Call prog clsT X d 180 [(2, 89), (0, 40)] ((mk E c s (hh g)))).bind fun r1 => if r1.1.1 = 4 then none else
  Ev prog clsT X d mc176 21 [(2, 89), (0, x1), (0, x2), (0, x3), (0, s0), (3, 0)] (pushR r1.1 []) r1.2) else none)) X [0, 9, 13, 17, 21, 35, 36, 42, 54, 80, 82, 94, 98, 102, 106, 111, 117, 122, 128, 132, 142, 147, 158, 162, 167, 172, 183, 189, 190, 205, 208, 213, 216] 5 rfl).trans (by simp (maxSteps := 10000000) only [R89_13, bindI, Option.bind_some, if_true_, and_self, ite_true, true_and, true_or, or_true])
set_option maxRecDepth 100000 in
theorem r176_21 (d : Nat) (x1 x2 x3 x4 s0 : Int) : Ev prog clsT X d mc176 21 [(2, 89), (0, x1), (0, x2), (0, x3), (0, x4), (3, 0)] [(0, s0)] (mk E c s (hh g)) =
  (if cmpI .ne x3 0 = true then
  (Ev prog clsT X d mc176 36 [(2, 89), (0, x1), (0, x2), (0, x3), (0, x4), (0, s0)] [] (mk E c s (hh g)))
else
  (if cmpI .ne x4 0 = true then
    (Ev prog clsT X d mc176 36 [(2, 89), (0, x1), (0, x2), (0, x3), (0, x4), (0, s0)] [] (mk E c s (hh g)))
  else
    (if cmpI .ne s0 0 = true then
      (Ev prog clsT X d mc176 36 [(2, 89), (0, x1), (0, x2), (0, x3), (0, x4), (0, s0)] [] (mk E c s (hh g)))
    else
      (if cmpI .eq ((g 89 22)) 2 = true then
        (Ev prog clsT X d mc176 36 [(2, 89), (0, x1), (0, x2), (0, x3), (0, x4), (0, s0)] [] (mk E c s (hh g)))
      else
        ((Call prog clsT X d 172 [(2, 89), (0, 1)] ((mk E c s (hh g)))).bind fun r1 => if r1.1.1 = 4 then none else
          Ev prog clsT X d mc176 35 [(2, 89), (0, x1), (0, x2), (0, x3), (0, x4), (0, s0)] (pushR r1.1 []) r1.2))))) :=
  (evk_at (r := (if cmpI .ne x3 0 = true then
  (Ev prog clsT X d mc176 36 [(2, 89), (0, x1), (0, x2), (0, x3), (0, x4), (0, s0)] [] (mk E c s (hh g)))
else
  (if cmpI .ne x4 0 = true then
    (Ev prog clsT X d mc176 36 [(2, 89), (0, x1), (0, x2), (0, x3), (0, x4), (0, s0)] [] (mk E c s (hh g)))
  else
    (if cmpI .ne s0 0 = true then
      (Ev prog clsT X d mc176 36 [(2, 89), (0, x1), (0, x2), (0, x3), (0, x4), (0, s0)] [] (mk E c s (hh g)))
    else
      ((fget 6232 ((mk E c s (hh g))) 89).bind fun v1 =>
        if cmpI .eq v1 2 = true then
        (Ev prog clsT X d mc176 36 [(2, 89), (0, x1), (0, x2), (0, x3), (0, x4), (0, s0)] [] (mk E c s (hh g)))
      else
        (if (2 : Nat) = 2 ∧ rcv ((mk E c s (hh g))) 89 13 = true then
          ((Call prog clsT X d 172 [(2, 89), (0, 1)] ((mk E c s (hh g)))).bind fun r2 => if r2.1.1 = 4 then none else
          Ev prog clsT X d mc176 35 [(2, 89), (0, x1), (0, x2), (0, x3), (0, x4), (0, s0)] (pushR r2.1 []) r2.2) else none)))))) X [0, 9, 13, 17, 21, 35, 36, 42, 54, 80, 82, 94, 98, 102, 106, 111, 117, 122, 128, 132, 142, 147, 158, 162, 167, 172, 183, 189, 190, 205, 208, 213, 216] 15 rfl).trans (by simp (maxSteps := 10000000) only [R89_13, ↓F6232_89, bindI, Option.bind_some, if_true_, and_self, ite_true, true_and, true_or, or_true])
set_option maxRecDepth 100000 in
theorem r176_35 (d : Nat) (x1 x2 x3 x4 x5 s0 : Int) : Ev prog clsT X d mc176 35 [(2, 89), (0, x1), (0, x2), (0, x3), (0, x4), (0, x5)] [(0, s0)] (mk E c s (hh g)) =
  (if (0 : Nat) = 0 ∧ one01 s0 = true then some ((0, s0), ((mk E c s (hh g)))) else none) :=
  (evk_at (r := (if (0 : Nat) = 0 ∧ one01 s0 = true then some ((0, s0), (mk E c s (hh g))) else none)) X [0, 9, 13, 17, 21, 35, 36, 42, 54, 80, 82, 94, 98, 102, 106, 111, 117, 122, 128, 132, 142, 147, 158, 162, 167, 172, 183, 189, 190, 205, 208, 213, 216] 2 rfl).trans (by simp (maxSteps := 10000000) only [bindI, Option.bind_some, if_true_, and_self, ite_true, true_and, true_or, or_true])
set_option maxRecDepth 100000 in
theorem r176_36 (d : Nat) (x1 x2 x3 x4 x5 : Int) : Ev prog clsT X d mc176 36 [(2, 89), (0, x1), (0, x2), (0, x3), (0, x4), (0, x5)] [] (mk E c s (hh g)) =
  (if cmpI .ne x1 5 = true then
  (if cmpI .ne x4 0 = true then
    (if cmpI .eq x4 0 = true then
      ((Call prog clsT X d 181 [(2, 89), (0, 28)] ((mk E c s (hh g)))).bind fun r1 => if r1.1.1 = 4 then none else
        Ev prog clsT X d mc176 54 [(2, 89), (0, x1), (0, x2), (0, x3), (0, x4), (0, x5)] (pushR r1.1 []) r1.2)
    else
      ((Call prog clsT X d 181 [(2, 89), (0, 30)] ((mk E c s (hh g)))).bind fun r2 => if r2.1.1 = 4 then none else
        Ev prog clsT X d mc176 54 [(2, 89), (0, x1), (0, x2), (0, x3), (0, x4), (0, x5)] (pushR r2.1 []) r2.2))
  else
    (if cmpI .eq x5 0 = true then
      (if cmpI .le x3 0 = true then
        ((Call prog clsT X d 181 [(2, 89), (0, (w32 (100 + ((g 89 24)))))] ((mk E c s (hh g)))).bind fun r3 => if r3.1.1 = 4 then none else
          Ev prog clsT X d mc176 80 [(2, 89), (0, x1), (0, x2), (0, x3), (0, x4), (0, x5)] (pushR r3.1 []) r3.2)
      else
        ((Call prog clsT X d 181 [(2, 89), (0, x3)] ((mk E c s (hh g)))).bind fun r4 => if r4.1.1 = 4 then none else
          Ev prog clsT X d mc176 80 [(2, 89), (0, x1), (0, x2), (0, x3), (0, x4), (0, x5)] (pushR r4.1 []) r4.2))
    else
      (if cmpI .eq x4 0 = true then
        ((Call prog clsT X d 181 [(2, 89), (0, 28)] ((mk E c s (hh g)))).bind fun r5 => if r5.1.1 = 4 then none else
          Ev prog clsT X d mc176 54 [(2, 89), (0, x1), (0, x2), (0, x3), (0, x4), (0, x5)] (pushR r5.1 []) r5.2)
      else
        ((Call prog clsT X d 181 [(2, 89), (0, 30)] ((mk E c s (hh g)))).bind fun r6 => if r6.1.1 = 4 then none else
          Ev prog clsT X d mc176 54 [(2, 89), (0, x1), (0, x2), (0, x3), (0, x4), (0, x5)] (pushR r6.1 []) r6.2))))
else
  ((Call prog clsT X d 172 [(2, 89), (0, 5)] ((mk E c s (hh g)))).bind fun r7 => if r7.1.1 = 4 then none else
    Ev prog clsT X d mc176 42 [(2, 89), (0, x1), (0, x2), (0, x3), (0, x4), (0, x5)] (pushR r7.1 []) r7.2)) :=
  (evk_at (r := (if cmpI .ne x1 5 = true then
  (if cmpI .ne x4 0 = true then
    (if cmpI .eq x4 0 = true then
      (if (2 : Nat) = 2 ∧ rcv ((mk E c s (hh g))) 89 13 = true then
        ((Call prog clsT X d 181 [(2, 89), (0, 28)] ((mk E c s (hh g)))).bind fun r1 => if r1.1.1 = 4 then none else
        Ev prog clsT X d mc176 54 [(2, 89), (0, x1), (0, x2), (0, x3), (0, x4), (0, x5)] (pushR r1.1 []) r1.2) else none)
    else
      (if (2 : Nat) = 2 ∧ rcv ((mk E c s (hh g))) 89 13 = true then
        ((Call prog clsT X d 181 [(2, 89), (0, 30)] ((mk E c s (hh g)))).bind fun r2 => if r2.1.1 = 4 then none else
        Ev prog clsT X d mc176 54 [(2, 89), (0, x1), (0, x2), (0, x3), (0, x4), (0, x5)] (pushR r2.1 []) r2.2) else none))
  else
    (if cmpI .eq x5 0 = true then
      (if cmpI .le x3 0 = true then
        ((fget 6240 ((mk E c s (hh g))) 89).bind fun v3 =>
          if (2 : Nat) = 2 ∧ rcv ((mk E c s (hh g))) 89 13 = true then
          ((Call prog clsT X d 181 [(2, 89), (0, (w32 (100 + v3)))] ((mk E c s (hh g)))).bind fun r4 => if r4.1.1 = 4 then none else
          Ev prog clsT X d mc176 80 [(2, 89), (0, x1), (0, x2), (0, x3), (0, x4), (0, x5)] (pushR r4.1 []) r4.2) else none)
      else
        (if (2 : Nat) = 2 ∧ rcv ((mk E c s (hh g))) 89 13 = true then
          ((Call prog clsT X d 181 [(2, 89), (0, x3)] ((mk E c s (hh g)))).bind fun r5 => if r5.1.1 = 4 then none else
          Ev prog clsT X d mc176 80 [(2, 89), (0, x1), (0, x2), (0, x3), (0, x4), (0, x5)] (pushR r5.1 []) r5.2) else none))
    else
      (if cmpI .eq x4 0 = true then
        (if (2 : Nat) = 2 ∧ rcv ((mk E c s (hh g))) 89 13 = true then
          ((Call prog clsT X d 181 [(2, 89), (0, 28)] ((mk E c s (hh g)))).bind fun r6 => if r6.1.1 = 4 then none else
          Ev prog clsT X d mc176 54 [(2, 89), (0, x1), (0, x2), (0, x3), (0, x4), (0, x5)] (pushR r6.1 []) r6.2) else none)
      else
        (if (2 : Nat) = 2 ∧ rcv ((mk E c s (hh g))) 89 13 = true then
          ((Call prog clsT X d 181 [(2, 89), (0, 30)] ((mk E c s (hh g)))).bind fun r7 => if r7.1.1 = 4 then none else
          Ev prog clsT X d mc176 54 [(2, 89), (0, x1), (0, x2), (0, x3), (0, x4), (0, x5)] (pushR r7.1 []) r7.2) else none))))
else
  (if (2 : Nat) = 2 ∧ rcv ((mk E c s (hh g))) 89 13 = true then
    ((Call prog clsT X d 172 [(2, 89), (0, 5)] ((mk E c s (hh g)))).bind fun r8 => if r8.1.1 = 4 then none else
    Ev prog clsT X d mc176 42 [(2, 89), (0, x1), (0, x2), (0, x3), (0, x4), (0, x5)] (pushR r8.1 []) r8.2) else none))) X [0, 9, 13, 17, 21, 35, 36, 42, 54, 80, 82, 94, 98, 102, 106, 111, 117, 122, 128, 132, 142, 147, 158, 162, 167, 172, 183, 189, 190, 205, 208, 213, 216] 16 rfl).trans (by simp (maxSteps := 10000000) only [R89_13, ↓F6240_89, bindI, Option.bind_some, if_true_, and_self, ite_true, true_and, true_or, or_true])
set_option maxRecDepth 100000 in
theorem r176_42 (d : Nat) (x1 x2 x3 x4 x5 s0 : Int) : Ev prog clsT X d mc176 42 [(2, 89), (0, x1), (0, x2), (0, x3), (0, x4), (0, x5)] [(0, s0)] (mk E c s (hh g)) =
  (if (0 : Nat) = 0 ∧ one01 s0 = true then some ((0, s0), ((mk E c s (hh g)))) else none) :=
  (evk_at (r := (if (0 : Nat) = 0 ∧ one01 s0 = true then some ((0, s0), (mk E c s (hh g))) else none)) X [0, 9, 13, 17, 21, 35, 36, 42, 54, 80, 82, 94, 98, 102, 106, 111, 117, 122, 128, 132, 142, 147, 158, 162, 167, 172, 183, 189, 190, 205, 208, 213, 216] 2 rfl).trans (by simp (maxSteps := 10000000) only [bindI, Option.bind_some, if_true_, and_self, ite_true, true_and, true_or, or_true])
set_option maxRecDepth 100000 in
theorem r176_54 (d : Nat) (x1 x2 x3 x4 x5 : Int) : Ev prog clsT X d mc176 54 [(2, 89), (0, x1), (0, x2), (0, x3), (0, x4), (0, x5)] [] (mk E c s (hh g)) =
  (if cmpI .eq x4 0 = true then
  (if inb ((w32 (x1 + 1))) 7 = true then
    (if inb ((w32 (x1 + 1))) 7 = true then
    ((Call prog clsT X d 167 [(2, 89)] ((mk E c s (hh (up (up g 115 (Int.toNat ((w32 (x1 + 1)))) 2) 116 (Int.toNat ((w32 (x1 + 1)))) (bit1 (0))))))).bind fun r1 => if r1.1.1 = 4 then none else
    Ev prog clsT X d mc176 94 [(2, 89), (0, (w32 (x1 + 1))), (0, x2), (0, x3), (0, x4), (0, x5)] (pushR r1.1 []) r1.2)
  else none)
  else none)
else
  (if inb ((w32 (x1 + 1))) 7 = true then
    (if inb ((w32 (x1 + 1))) 7 = true then
    ((Call prog clsT X d 167 [(2, 89)] ((mk E c s (hh (up (up g 115 (Int.toNat ((w32 (x1 + 1)))) 1) 116 (Int.toNat ((w32 (x1 + 1)))) (bit1 (0))))))).bind fun r2 => if r2.1.1 = 4 then none else
    Ev prog clsT X d mc176 94 [(2, 89), (0, (w32 (x1 + 1))), (0, x2), (0, x3), (0, x4), (0, x5)] (pushR r2.1 []) r2.2)
  else none)
  else none)) :=
  (evk_at (r := ((fget 6294 ((mk E c s (hh g))) 89).bind fun v1 =>
  if cmpI .eq x4 0 = true then
  ((aput 100 ((mk E c s (hh g))) v1 ((w32 (x1 + 1))) (2)).bind fun M2 =>
    (fget 6298 M2 89).bind fun v3 =>
    (aput 102 M2 v3 ((w32 (x1 + 1))) (bit1 (0))).bind fun M4 =>
    if (2 : Nat) = 2 ∧ rcv M4 89 13 = true then
    ((Call prog clsT X d 167 [(2, 89)] M4).bind fun r5 => if r5.1.1 = 4 then none else
    Ev prog clsT X d mc176 94 [(2, 89), (0, (w32 (x1 + 1))), (0, x2), (0, x3), (0, x4), (0, x5)] (pushR r5.1 []) r5.2) else none)
else
  ((aput 100 ((mk E c s (hh g))) v1 ((w32 (x1 + 1))) (1)).bind fun M6 =>
    (fget 6298 M6 89).bind fun v7 =>
    (aput 102 M6 v7 ((w32 (x1 + 1))) (bit1 (0))).bind fun M8 =>
    if (2 : Nat) = 2 ∧ rcv M8 89 13 = true then
    ((Call prog clsT X d 167 [(2, 89)] M8).bind fun r9 => if r9.1.1 = 4 then none else
    Ev prog clsT X d mc176 94 [(2, 89), (0, (w32 (x1 + 1))), (0, x2), (0, x3), (0, x4), (0, x5)] (pushR r9.1 []) r9.2) else none))) X [0, 9, 13, 17, 21, 35, 36, 42, 54, 80, 82, 94, 98, 102, 106, 111, 117, 122, 128, 132, 142, 147, 158, 162, 167, 172, 183, 189, 190, 205, 208, 213, 216] 18 rfl).trans (by simp (maxSteps := 10000000) only [R89_13, ↓F6294_89, ↓F6298_89, ↓S115, ↓S116, bindI, Option.bind_some, if_true_, and_self, ite_true, true_and, true_or, or_true])
set_option maxRecDepth 100000 in
theorem r176_80 (d : Nat) (x1 x2 x3 x4 x5 : Int) : Ev prog clsT X d mc176 80 [(2, 89), (0, x1), (0, x2), (0, x3), (0, x4), (0, x5)] [] (mk E c s (hh g)) =
  (Ev prog clsT X d mc176 82 [(2, 89), (0, x1), (0, 0), (0, x3), (0, x4), (0, x5)] [] (mk E c s (hh g))) :=
  evk_at X [0, 9, 13, 17, 21, 35, 36, 42, 54, 80, 82, 94, 98, 102, 106, 111, 117, 122, 128, 132, 142, 147, 158, 162, 167, 172, 183, 189, 190, 205, 208, 213, 216] 4 rfl
set_option maxRecDepth 100000 in
theorem r176_82 (d : Nat) (x1 x2 : Int) (w3 w4 w5 : MV) : Ev prog clsT X d mc176 82 [(2, 89), (0, x1), (0, x2), w3, w4, w5] [] (mk E c s (hh g)) =
  (if cmpI .le x1 0 = true then
  ((Call prog clsT X d 167 [(2, 89)] ((mk E c s (hh g)))).bind fun r1 => if r1.1.1 = 4 then none else
    Ev prog clsT X d mc176 94 [(2, 89), (0, x1), (0, x2), (3, 0), (3, 0), (3, 0)] (pushR r1.1 []) r1.2)
else
  (if inb x1 7 = true then
    (if cmpI .ne ((g 115 (Int.toNat x1))) 1 = true then
    ((Call prog clsT X d 167 [(2, 89)] ((mk E c s (hh g)))).bind fun r2 => if r2.1.1 = 4 then none else
      Ev prog clsT X d mc176 94 [(2, 89), (0, x1), (0, x2), (3, 0), (3, 0), (3, 0)] (pushR r2.1 []) r2.2)
  else
    (Ev prog clsT X d mc176 82 [(2, 89), (0, (w32 (x1 + (-1)))), (0, x2), (3, 0), (3, 0), (3, 0)] [] (mk E c s (hh g))))
  else none)) :=
  (evk_at (r := (if cmpI .le x1 0 = true then
  (if (2 : Nat) = 2 ∧ rcv ((mk E c s (hh g))) 89 13 = true then
    ((Call prog clsT X d 167 [(2, 89)] ((mk E c s (hh g)))).bind fun r1 => if r1.1.1 = 4 then none else
    Ev prog clsT X d mc176 94 [(2, 89), (0, x1), (0, x2), (3, 0), (3, 0), (3, 0)] (pushR r1.1 []) r1.2) else none)
else
  ((fget 6294 ((mk E c s (hh g))) 89).bind fun v2 =>
    (aget X 100 ((mk E c s (hh g))) v2 x1).bind fun v3 =>
    if cmpI .ne v3 1 = true then
    (if (2 : Nat) = 2 ∧ rcv ((mk E c s (hh g))) 89 13 = true then
      ((Call prog clsT X d 167 [(2, 89)] ((mk E c s (hh g)))).bind fun r4 => if r4.1.1 = 4 then none else
      Ev prog clsT X d mc176 94 [(2, 89), (0, x1), (0, x2), (3, 0), (3, 0), (3, 0)] (pushR r4.1 []) r4.2) else none)
  else
    (Ev prog clsT X d mc176 82 [(2, 89), (0, (w32 (x1 + (-1)))), (0, x2), (3, 0), (3, 0), (3, 0)] [] (mk E c s (hh g)))))) X [0, 9, 13, 17, 21, 35, 36, 42, 54, 80, 82, 94, 98, 102, 106, 111, 117, 122, 128, 132, 142, 147, 158, 162, 167, 172, 183, 189, 190, 205, 208, 213, 216] 12 rfl).trans (by simp (maxSteps := 10000000) only [R89_13, ↓A115, ↓F6294_89, bindI, Option.bind_some, if_true_, and_self, ite_true, true_and, true_or, or_true])
set_option maxRecDepth 100000 in
theorem r176_94 (d : Nat) (x1 x2 : Int) (w3 w4 w5 : MV) : Ev prog clsT X d mc176 94 [(2, 89), (0, x1), (0, x2), w3, w4, w5] [] (mk E c s (hh g)) =
  (Ev prog clsT X d mc176 9 [(2, 89), (0, x1), (0, x2), w3, w4, w5] [] (mk E c s (hh g))) :=
  evk_at X [0, 9, 13, 17, 21, 35, 36, 42, 54, 80, 82, 94, 98, 102, 106, 111, 117, 122, 128, 132, 142, 147, 158, 162, 167, 172, 183, 189, 190, 205, 208, 213, 216] 3 rfl
set_option maxRecDepth 100000 in
theorem r176_98 (d : Nat) (x1 x2 s0 : Int) : Ev prog clsT X d mc176 98 [(2, 89), (0, x1), (0, x2), (3, 0), (3, 0), (3, 0)] [(0, s0)] (mk E c s (hh g)) =
  (if cmpI .ne s0 0 = true then
  ((Call prog clsT X d 180 [(2, 89), (0, 43)] ((mk E c s (hh g)))).bind fun r1 => if r1.1.1 = 4 then none else
    Ev prog clsT X d mc176 111 [(2, 89), (0, x1), (0, x2), (3, 0), (3, 0), (3, 0)] (pushR r1.1 [(2, 89)]) r1.2)
else
  ((Call prog clsT X d 180 [(2, 89), (0, 45)] ((mk E c s (hh g)))).bind fun r2 => if r2.1.1 = 4 then none else
    Ev prog clsT X d mc176 102 [(2, 89), (0, x1), (0, x2), (3, 0), (3, 0), (3, 0)] (pushR r2.1 []) r2.2)) :=
  (evk_at (r := (if cmpI .ne s0 0 = true then
  (if (2 : Nat) = 2 ∧ rcv ((mk E c s (hh g))) 89 13 = true then
    ((Call prog clsT X d 180 [(2, 89), (0, 43)] ((mk E c s (hh g)))).bind fun r1 => if r1.1.1 = 4 then none else
    Ev prog clsT X d mc176 111 [(2, 89), (0, x1), (0, x2), (3, 0), (3, 0), (3, 0)] (pushR r1.1 [(2, 89)]) r1.2) else none)
else
  (if (2 : Nat) = 2 ∧ rcv ((mk E c s (hh g))) 89 13 = true then
    ((Call prog clsT X d 180 [(2, 89), (0, 45)] ((mk E c s (hh g)))).bind fun r2 => if r2.1.1 = 4 then none else
    Ev prog clsT X d mc176 102 [(2, 89), (0, x1), (0, x2), (3, 0), (3, 0), (3, 0)] (pushR r2.1 []) r2.2) else none))) X [0, 9, 13, 17, 21, 35, 36, 42, 54, 80, 82, 94, 98, 102, 106, 111, 117, 122, 128, 132, 142, 147, 158, 162, 167, 172, 183, 189, 190, 205, 208, 213, 216] 6 rfl).trans (by simp (maxSteps := 10000000) only [R89_13, bindI, Option.bind_some, if_true_, and_self, ite_true, true_and, true_or, or_true])
set_option maxRecDepth 100000 in
theorem r176_102 (d : Nat) (x1 x2 s0 : Int) : Ev prog clsT X d mc176 102 [(2, 89), (0, x1), (0, x2), (3, 0), (3, 0), (3, 0)] [(0, s0)] (mk E c s (hh g)) =
  (if cmpI .ne s0 0 = true then
  ((Call prog clsT X d 180 [(2, 89), (0, 43)] ((mk E c s (hh g)))).bind fun r1 => if r1.1.1 = 4 then none else
    Ev prog clsT X d mc176 111 [(2, 89), (0, x1), (0, x2), (3, 0), (3, 0), (3, 0)] (pushR r1.1 [(2, 89)]) r1.2)
else
  ((Call prog clsT X d 180 [(2, 89), (0, 42)] ((mk E c s (hh g)))).bind fun r2 => if r2.1.1 = 4 then none else
    Ev prog clsT X d mc176 106 [(2, 89), (0, x1), (0, x2), (3, 0), (3, 0), (3, 0)] (pushR r2.1 []) r2.2)) :=
  (evk_at (r := (if cmpI .ne s0 0 = true then
  (if (2 : Nat) = 2 ∧ rcv ((mk E c s (hh g))) 89 13 = true then
    ((Call prog clsT X d 180 [(2, 89), (0, 43)] ((mk E c s (hh g)))).bind fun r1 => if r1.1.1 = 4 then none else
    Ev prog clsT X d mc176 111 [(2, 89), (0, x1), (0, x2), (3, 0), (3, 0), (3, 0)] (pushR r1.1 [(2, 89)]) r1.2) else none)
else
  (if (2 : Nat) = 2 ∧ rcv ((mk E c s (hh g))) 89 13 = true then
    ((Call prog clsT X d 180 [(2, 89), (0, 42)] ((mk E c s (hh g)))).bind fun r2 => if r2.1.1 = 4 then none else
    Ev prog clsT X d mc176 106 [(2, 89), (0, x1), (0, x2), (3, 0), (3, 0), (3, 0)] (pushR r2.1 []) r2.2) else none))) X [0, 9, 13, 17, 21, 35, 36, 42, 54, 80, 82, 94, 98, 102, 106, 111, 117, 122, 128, 132, 142, 147, 158, 162, 167, 172, 183, 189, 190, 205, 208, 213, 216] 6 rfl).trans (by simp (maxSteps := 10000000) only [R89_13, bindI, Option.bind_some, if_true_, and_self, ite_true, true_and, true_or, or_true])
set_option maxRecDepth 100000 in
theorem r176_106 (d : Nat) (x1 x2 s0 : Int) : Ev prog clsT X d mc176 106 [(2, 89), (0, x1), (0, x2), (3, 0), (3, 0), (3, 0)] [(0, s0)] (mk E c s (hh g)) =
  (if cmpI .eq s0 0 = true then
  ((Call prog clsT X d 180 [(2, 89), (0, 60)] ((mk E c s (hh g)))).bind fun r1 => if r1.1.1 = 4 then none else
    Ev prog clsT X d mc176 128 [(2, 89), (0, x1), (0, x2), (3, 0), (3, 0), (3, 0)] (pushR r1.1 []) r1.2)
else
  ((Call prog clsT X d 180 [(2, 89), (0, 43)] ((mk E c s (hh g)))).bind fun r2 => if r2.1.1 = 4 then none else
    Ev prog clsT X d mc176 111 [(2, 89), (0, x1), (0, x2), (3, 0), (3, 0), (3, 0)] (pushR r2.1 [(2, 89)]) r2.2)) :=
  (evk_at (r := (if cmpI .eq s0 0 = true then
  (if (2 : Nat) = 2 ∧ rcv ((mk E c s (hh g))) 89 13 = true then
    ((Call prog clsT X d 180 [(2, 89), (0, 60)] ((mk E c s (hh g)))).bind fun r1 => if r1.1.1 = 4 then none else
    Ev prog clsT X d mc176 128 [(2, 89), (0, x1), (0, x2), (3, 0), (3, 0), (3, 0)] (pushR r1.1 []) r1.2) else none)
else
  (if (2 : Nat) = 2 ∧ rcv ((mk E c s (hh g))) 89 13 = true then
    ((Call prog clsT X d 180 [(2, 89), (0, 43)] ((mk E c s (hh g)))).bind fun r2 => if r2.1.1 = 4 then none else
    Ev prog clsT X d mc176 111 [(2, 89), (0, x1), (0, x2), (3, 0), (3, 0), (3, 0)] (pushR r2.1 [(2, 89)]) r2.2) else none))) X [0, 9, 13, 17, 21, 35, 36, 42, 54, 80, 82, 94, 98, 102, 106, 111, 117, 122, 128, 132, 142, 147, 158, 162, 167, 172, 183, 189, 190, 205, 208, 213, 216] 6 rfl).trans (by simp (maxSteps := 10000000) only [R89_13, bindI, Option.bind_some, if_true_, and_self, ite_true, true_and, true_or, or_true])
set_option maxRecDepth 100000 in
theorem r176_111 (d : Nat) (x1 x2 s1 : Int) : Ev prog clsT X d mc176 111 [(2, 89), (0, x1), (0, x2), (3, 0), (3, 0), (3, 0)] [(0, s1), (2, 89)] (mk E c s (hh g)) =
  (if cmpI .eq s1 0 = true then
  ((Call prog clsT X d 180 [(2, 89), (0, 45)] ((mk E c s (hh g)))).bind fun r1 => if r1.1.1 = 4 then none else
    Ev prog clsT X d mc176 117 [(2, 89), (0, x1), (0, x2), (3, 0), (3, 0), (3, 0)] (pushR r1.1 [(2, 89)]) r1.2)
else
  ((Call prog clsT X d 181 [(2, 89), (0, 20)] ((mk E c s (hh g)))).bind fun r2 => if r2.1.1 = 4 then none else
    Ev prog clsT X d mc176 122 [(2, 89), (0, x1), (0, x2), (3, 0), (3, 0), (3, 0)] (pushR r2.1 []) r2.2)) :=
  (evk_at (r := (if cmpI .eq s1 0 = true then
  (if (2 : Nat) = 2 ∧ rcv ((mk E c s (hh g))) 89 13 = true then
    ((Call prog clsT X d 180 [(2, 89), (0, 45)] ((mk E c s (hh g)))).bind fun r1 => if r1.1.1 = 4 then none else
    Ev prog clsT X d mc176 117 [(2, 89), (0, x1), (0, x2), (3, 0), (3, 0), (3, 0)] (pushR r1.1 [(2, 89)]) r1.2) else none)
else
  (if (2 : Nat) = 2 ∧ rcv ((mk E c s (hh g))) 89 13 = true then
    ((Call prog clsT X d 181 [(2, 89), (0, 20)] ((mk E c s (hh g)))).bind fun r2 => if r2.1.1 = 4 then none else
    Ev prog clsT X d mc176 122 [(2, 89), (0, x1), (0, x2), (3, 0), (3, 0), (3, 0)] (pushR r2.1 []) r2.2) else none))) X [0, 9, 13, 17, 21, 35, 36, 42, 54, 80, 82, 94, 98, 102, 106, 111, 117, 122, 128, 132, 142, 147, 158, 162, 167, 172, 183, 189, 190, 205, 208, 213, 216] 5 rfl).trans (by simp (maxSteps := 10000000) only [R89_13, bindI, Option.bind_some, if_true_, and_self, ite_true, true_and, true_or, or_true])
set_option maxRecDepth 100000 in
theorem r176_117 (d : Nat) (x1 x2 s1 : Int) : Ev prog clsT X d mc176 117 [(2, 89), (0, x1), (0, x2), (3, 0), (3, 0), (3, 0)] [(0, s1), (2, 89)] (mk E c s (hh g)) =
  (if cmpI .eq s1 0 = true then
  ((Call prog clsT X d 181 [(2, 89), (0, 22)] ((mk E c s (hh g)))).bind fun r1 => if r1.1.1 = 4 then none else
    Ev prog clsT X d mc176 122 [(2, 89), (0, x1), (0, x2), (3, 0), (3, 0), (3, 0)] (pushR r1.1 []) r1.2)
else
  ((Call prog clsT X d 181 [(2, 89), (0, 21)] ((mk E c s (hh g)))).bind fun r2 => if r2.1.1 = 4 then none else
    Ev prog clsT X d mc176 122 [(2, 89), (0, x1), (0, x2), (3, 0), (3, 0), (3, 0)] (pushR r2.1 []) r2.2)) :=
  (evk_at (r := (if cmpI .eq s1 0 = true then
  (if (2 : Nat) = 2 ∧ rcv ((mk E c s (hh g))) 89 13 = true then
    ((Call prog clsT X d 181 [(2, 89), (0, 22)] ((mk E c s (hh g)))).bind fun r1 => if r1.1.1 = 4 then none else
    Ev prog clsT X d mc176 122 [(2, 89), (0, x1), (0, x2), (3, 0), (3, 0), (3, 0)] (pushR r1.1 []) r1.2) else none)
else
  (if (2 : Nat) = 2 ∧ rcv ((mk E c s (hh g))) 89 13 = true then
    ((Call prog clsT X d 181 [(2, 89), (0, 21)] ((mk E c s (hh g)))).bind fun r2 => if r2.1.1 = 4 then none else
    Ev prog clsT X d mc176 122 [(2, 89), (0, x1), (0, x2), (3, 0), (3, 0), (3, 0)] (pushR r2.1 []) r2.2) else none))) X [0, 9, 13, 17, 21, 35, 36, 42, 54, 80, 82, 94, 98, 102, 106, 111, 117, 122, 128, 132, 142, 147, 158, 162, 167, 172, 183, 189, 190, 205, 208, 213, 216] 5 rfl).trans (by simp (maxSteps := 10000000) only [R89_13, bindI, Option.bind_some, if_true_, and_self, ite_true, true_and, true_or, or_true])
set_option maxRecDepth 100000 in
theorem r176_122 (d : Nat) (x1 x2 : Int) : Ev prog clsT X d mc176 122 [(2, 89), (0, x1), (0, x2), (3, 0), (3, 0), (3, 0)] [] (mk E c s (hh g)) =
  ((Call prog clsT X d 167 [(2, 89)] ((mk E c s (hh g)))).bind fun r1 => if r1.1.1 = 4 then none else
  Ev prog clsT X d mc176 216 [(2, 89), (0, x1), (0, 1), (3, 0), (3, 0), (3, 0)] (pushR r1.1 []) r1.2) :=
  (evk_at (r := (if (2 : Nat) = 2 ∧ rcv ((mk E c s (hh g))) 89 13 = true then
  ((Call prog clsT X d 167 [(2, 89)] ((mk E c s (hh g)))).bind fun r1 => if r1.1.1 = 4 then none else
  Ev prog clsT X d mc176 216 [(2, 89), (0, x1), (0, 1), (3, 0), (3, 0), (3, 0)] (pushR r1.1 []) r1.2) else none)) X [0, 9, 13, 17, 21, 35, 36, 42, 54, 80, 82, 94, 98, 102, 106, 111, 117, 122, 128, 132, 142, 147, 158, 162, 167, 172, 183, 189, 190, 205, 208, 213, 216] 6 rfl).trans (by simp (maxSteps := 10000000) only [R89_13, bindI, Option.bind_some, if_true_, and_self, ite_true, true_and, true_or, or_true])
set_option maxRecDepth 100000 in
theorem r176_128 (d : Nat) (x1 x2 s0 : Int) : Ev prog clsT X d mc176 128 [(2, 89), (0, x1), (0, x2), (3, 0), (3, 0), (3, 0)] [(0, s0)] (mk E c s (hh g)) =
  (if cmpI .ne s0 0 = true then
  (if inb x1 7 = true then
    (if cmpI .ne ((g 116 (Int.toNat x1))) 0 = true then
    ((Call prog clsT X d 171 [(2, 89), (1, 1111)] ((mk E c s (hh g)))).bind fun r1 => if r1.1.1 = 4 then none else
      Ev prog clsT X d mc176 158 [(2, 89), (0, x1), (0, x2), (3, 0), (3, 0), (3, 0)] (pushR r1.1 []) r1.2)
  else
    ((Call prog clsT X d 180 [(2, 89), (0, 60)] ((mk E c s (hh g)))).bind fun r2 => if r2.1.1 = 4 then none else
      Ev prog clsT X d mc176 142 [(2, 89), (0, x1), (0, x2), (3, 0), (3, 0), (3, 0)] (pushR r2.1 [(2, 89)]) r2.2))
  else none)
else
  ((Call prog clsT X d 180 [(2, 89), (0, 61)] ((mk E c s (hh g)))).bind fun r3 => if r3.1.1 = 4 then none else
    Ev prog clsT X d mc176 132 [(2, 89), (0, x1), (0, x2), (3, 0), (3, 0), (3, 0)] (pushR r3.1 []) r3.2)) :=
  (evk_at (r := (if cmpI .ne s0 0 = true then
  ((fget 6298 ((mk E c s (hh g))) 89).bind fun v1 =>
    (aget X 102 ((mk E c s (hh g))) v1 x1).bind fun v2 =>
    if cmpI .ne v2 0 = true then
    (if (2 : Nat) = 2 ∧ rcv ((mk E c s (hh g))) 89 13 = true then
      ((Call prog clsT X d 171 [(2, 89), (1, 1111)] ((mk E c s (hh g)))).bind fun r3 => if r3.1.1 = 4 then none else
      Ev prog clsT X d mc176 158 [(2, 89), (0, x1), (0, x2), (3, 0), (3, 0), (3, 0)] (pushR r3.1 []) r3.2) else none)
  else
    (if (2 : Nat) = 2 ∧ rcv ((mk E c s (hh g))) 89 13 = true then
      ((Call prog clsT X d 180 [(2, 89), (0, 60)] ((mk E c s (hh g)))).bind fun r4 => if r4.1.1 = 4 then none else
      Ev prog clsT X d mc176 142 [(2, 89), (0, x1), (0, x2), (3, 0), (3, 0), (3, 0)] (pushR r4.1 [(2, 89)]) r4.2) else none))
else
  (if (2 : Nat) = 2 ∧ rcv ((mk E c s (hh g))) 89 13 = true then
    ((Call prog clsT X d 180 [(2, 89), (0, 61)] ((mk E c s (hh g)))).bind fun r5 => if r5.1.1 = 4 then none else
    Ev prog clsT X d mc176 132 [(2, 89), (0, x1), (0, x2), (3, 0), (3, 0), (3, 0)] (pushR r5.1 []) r5.2) else none))) X [0, 9, 13, 17, 21, 35, 36, 42, 54, 80, 82, 94, 98, 102, 106, 111, 117, 122, 128, 132, 142, 147, 158, 162, 167, 172, 183, 189, 190, 205, 208, 213, 216] 11 rfl).trans (by simp (maxSteps := 10000000) only [R89_13, ↓A116, ↓F6298_89, bindI, Option.bind_some, if_true_, and_self, ite_true, true_and, true_or, or_true])
set_option maxRecDepth 100000 in
theorem r176_132 (d : Nat) (x1 x2 s0 : Int) : Ev prog clsT X d mc176 132 [(2, 89), (0, x1), (0, x2), (3, 0), (3, 0), (3, 0)] [(0, s0)] (mk E c s (hh g)) =
  (if cmpI .eq s0 0 = true then
  ((Call prog clsT X d 171 [(2, 89), (1, 1111)] ((mk E c s (hh g)))).bind fun r1 => if r1.1.1 = 4 then none else
    Ev prog clsT X d mc176 158 [(2, 89), (0, x1), (0, x2), (3, 0), (3, 0), (3, 0)] (pushR r1.1 []) r1.2)
else
  (if inb x1 7 = true then
    (if cmpI .ne ((g 116 (Int.toNat x1))) 0 = true then
    ((Call prog clsT X d 171 [(2, 89), (1, 1111)] ((mk E c s (hh g)))).bind fun r2 => if r2.1.1 = 4 then none else
      Ev prog clsT X d mc176 158 [(2, 89), (0, x1), (0, x2), (3, 0), (3, 0), (3, 0)] (pushR r2.1 []) r2.2)
  else
    ((Call prog clsT X d 180 [(2, 89), (0, 60)] ((mk E c s (hh g)))).bind fun r3 => if r3.1.1 = 4 then none else
      Ev prog clsT X d mc176 142 [(2, 89), (0, x1), (0, x2), (3, 0), (3, 0), (3, 0)] (pushR r3.1 [(2, 89)]) r3.2))
  else none)) :=
  (evk_at (r := (if cmpI .eq s0 0 = true then
  (if (2 : Nat) = 2 ∧ rcv ((mk E c s (hh g))) 89 13 = true then
    ((Call prog clsT X d 171 [(2, 89), (1, 1111)] ((mk E c s (hh g)))).bind fun r1 => if r1.1.1 = 4 then none else
    Ev prog clsT X d mc176 158 [(2, 89), (0, x1), (0, x2), (3, 0), (3, 0), (3, 0)] (pushR r1.1 []) r1.2) else none)
else
  ((fget 6298 ((mk E c s (hh g))) 89).bind fun v2 =>
    (aget X 102 ((mk E c s (hh g))) v2 x1).bind fun v3 =>
    if cmpI .ne v3 0 = true then
    (if (2 : Nat) = 2 ∧ rcv ((mk E c s (hh g))) 89 13 = true then
      ((Call prog clsT X d 171 [(2, 89), (1, 1111)] ((mk E c s (hh g)))).bind fun r4 => if r4.1.1 = 4 then none else
      Ev prog clsT X d mc176 158 [(2, 89), (0, x1), (0, x2), (3, 0), (3, 0), (3, 0)] (pushR r4.1 []) r4.2) else none)
  else
    (if (2 : Nat) = 2 ∧ rcv ((mk E c s (hh g))) 89 13 = true then
      ((Call prog clsT X d 180 [(2, 89), (0, 60)] ((mk E c s (hh g)))).bind fun r5 => if r5.1.1 = 4 then none else
      Ev prog clsT X d mc176 142 [(2, 89), (0, x1), (0, x2), (3, 0), (3, 0), (3, 0)] (pushR r5.1 [(2, 89)]) r5.2) else none)))) X [0, 9, 13, 17, 21, 35, 36, 42, 54, 80, 82, 94, 98, 102, 106, 111, 117, 122, 128, 132, 142, 147, 158, 162, 167, 172, 183, 189, 190, 205, 208, 213, 216] 11 rfl).trans (by simp (maxSteps := 10000000) only [R89_13, ↓A116, ↓F6298_89, bindI, Option.bind_some, if_true_, and_self, ite_true, true_and, true_or, or_true])
set_option maxRecDepth 100000 in
theorem r176_142 (d : Nat) (x1 x2 s1 : Int) : Ev prog clsT X d mc176 142 [(2, 89), (0, x1), (0, x2), (3, 0), (3, 0), (3, 0)] [(0, s1), (2, 89)] (mk E c s (hh g)) =
  (if cmpI .eq s1 0 = true then
  ((Call prog clsT X d 181 [(2, 89), (0, 25)] ((mk E c s (hh g)))).bind fun r1 => if r1.1.1 = 4 then none else
    Ev prog clsT X d mc176 147 [(2, 89), (0, x1), (0, x2), (3, 0), (3, 0), (3, 0)] (pushR r1.1 []) r1.2)
else
  ((Call prog clsT X d 181 [(2, 89), (0, 24)] ((mk E c s (hh g)))).bind fun r2 => if r2.1.1 = 4 then none else
    Ev prog clsT X d mc176 147 [(2, 89), (0, x1), (0, x2), (3, 0), (3, 0), (3, 0)] (pushR r2.1 []) r2.2)) :=
  (evk_at (r := (if cmpI .eq s1 0 = true then
  (if (2 : Nat) = 2 ∧ rcv ((mk E c s (hh g))) 89 13 = true then
    ((Call prog clsT X d 181 [(2, 89), (0, 25)] ((mk E c s (hh g)))).bind fun r1 => if r1.1.1 = 4 then none else
    Ev prog clsT X d mc176 147 [(2, 89), (0, x1), (0, x2), (3, 0), (3, 0), (3, 0)] (pushR r1.1 []) r1.2) else none)
else
  (if (2 : Nat) = 2 ∧ rcv ((mk E c s (hh g))) 89 13 = true then
    ((Call prog clsT X d 181 [(2, 89), (0, 24)] ((mk E c s (hh g)))).bind fun r2 => if r2.1.1 = 4 then none else
    Ev prog clsT X d mc176 147 [(2, 89), (0, x1), (0, x2), (3, 0), (3, 0), (3, 0)] (pushR r2.1 []) r2.2) else none))) X [0, 9, 13, 17, 21, 35, 36, 42, 54, 80, 82, 94, 98, 102, 106, 111, 117, 122, 128, 132, 142, 147, 158, 162, 167, 172, 183, 189, 190, 205, 208, 213, 216] 5 rfl).trans (by simp (maxSteps := 10000000) only [R89_13, bindI, Option.bind_some, if_true_, and_self, ite_true, true_and, true_or, or_true])
set_option maxRecDepth 100000 in
theorem r176_147 (d : Nat) (x1 x2 : Int) : Ev prog clsT X d mc176 147 [(2, 89), (0, x1), (0, x2), (3, 0), (3, 0), (3, 0)] [] (mk E c s (hh g)) =
  (if inb x1 7 = true then
  ((Call prog clsT X d 167 [(2, 89)] ((mk E c s (hh (up g 116 (Int.toNat x1) (bit1 (1))))))).bind fun r1 => if r1.1.1 = 4 then none else
  Ev prog clsT X d mc176 216 [(2, 89), (0, x1), (0, 1), (3, 0), (3, 0), (3, 0)] (pushR r1.1 []) r1.2)
else none) :=
  (evk_at (r := ((fget 6298 ((mk E c s (hh g))) 89).bind fun v1 =>
  (aput 102 ((mk E c s (hh g))) v1 x1 (bit1 (1))).bind fun M2 =>
  if (2 : Nat) = 2 ∧ rcv M2 89 13 = true then
  ((Call prog clsT X d 167 [(2, 89)] M2).bind fun r3 => if r3.1.1 = 4 then none else
  Ev prog clsT X d mc176 216 [(2, 89), (0, x1), (0, 1), (3, 0), (3, 0), (3, 0)] (pushR r3.1 []) r3.2) else none)) X [0, 9, 13, 17, 21, 35, 36, 42, 54, 80, 82, 94, 98, 102, 106, 111, 117, 122, 128, 132, 142, 147, 158, 162, 167, 172, 183, 189, 190, 205, 208, 213, 216] 11 rfl).trans (by simp (maxSteps := 10000000) only [R89_13, ↓F6298_89, ↓S116, bindI, Option.bind_some, if_true_, and_self, ite_true, true_and, true_or, or_true])
set_option maxRecDepth 100000 in
theorem r176_158 (d : Nat) (x1 x2 s0 : Int) : Ev prog clsT X d mc176 158 [(2, 89), (0, x1), (0, x2), (3, 0), (3, 0), (3, 0)] [(0, s0)] (mk E c s (hh g)) =
  (if cmpI .ne s0 0 = true then
  ((Call prog clsT X d 171 [(2, 89), (1, 1111)] ((mk E c s (hh g)))).bind fun r1 => if r1.1.1 = 4 then none else
    Ev prog clsT X d mc176 167 [(2, 89), (0, x1), (0, x2), (3, 0), (3, 0), (3, 0)] (pushR r1.1 [(2, 89)]) r1.2)
else
  ((Call prog clsT X d 171 [(2, 89), (1, 423)] ((mk E c s (hh g)))).bind fun r2 => if r2.1.1 = 4 then none else
    Ev prog clsT X d mc176 162 [(2, 89), (0, x1), (0, x2), (3, 0), (3, 0), (3, 0)] (pushR r2.1 []) r2.2)) :=
  (evk_at (r := (if cmpI .ne s0 0 = true then
  (if (2 : Nat) = 2 ∧ rcv ((mk E c s (hh g))) 89 13 = true then
    ((Call prog clsT X d 171 [(2, 89), (1, 1111)] ((mk E c s (hh g)))).bind fun r1 => if r1.1.1 = 4 then none else
    Ev prog clsT X d mc176 167 [(2, 89), (0, x1), (0, x2), (3, 0), (3, 0), (3, 0)] (pushR r1.1 [(2, 89)]) r1.2) else none)
else
  (if (2 : Nat) = 2 ∧ rcv ((mk E c s (hh g))) 89 13 = true then
    ((Call prog clsT X d 171 [(2, 89), (1, 423)] ((mk E c s (hh g)))).bind fun r2 => if r2.1.1 = 4 then none else
    Ev prog clsT X d mc176 162 [(2, 89), (0, x1), (0, x2), (3, 0), (3, 0), (3, 0)] (pushR r2.1 []) r2.2) else none))) X [0, 9, 13, 17, 21, 35, 36, 42, 54, 80, 82, 94, 98, 102, 106, 111, 117, 122, 128, 132, 142, 147, 158, 162, 167, 172, 183, 189, 190, 205, 208, 213, 216] 6 rfl).trans (by simp (maxSteps := 10000000) only [R89_13, bindI, Option.bind_some, if_true_, and_self, ite_true, true_and, true_or, or_true])
set_option maxRecDepth 100000 in
theorem r176_162 (d : Nat) (x1 x2 s0 : Int) : Ev prog clsT X d mc176 162 [(2, 89), (0, x1), (0, x2), (3, 0), (3, 0), (3, 0)] [(0, s0)] (mk E c s (hh g)) =
  (if cmpI .eq s0 0 = true then
  ((Call prog clsT X d 180 [(2, 89), (0, 41)] ((mk E c s (hh g)))).bind fun r1 => if r1.1.1 = 4 then none else
    Ev prog clsT X d mc176 183 [(2, 89), (0, x1), (0, x2), (3, 0), (3, 0), (3, 0)] (pushR r1.1 []) r1.2)
else
  ((Call prog clsT X d 171 [(2, 89), (1, 1111)] ((mk E c s (hh g)))).bind fun r2 => if r2.1.1 = 4 then none else
    Ev prog clsT X d mc176 167 [(2, 89), (0, x1), (0, x2), (3, 0), (3, 0), (3, 0)] (pushR r2.1 [(2, 89)]) r2.2)) :=
  (evk_at (r := (if cmpI .eq s0 0 = true then
  (if (2 : Nat) = 2 ∧ rcv ((mk E c s (hh g))) 89 13 = true then
    ((Call prog clsT X d 180 [(2, 89), (0, 41)] ((mk E c s (hh g)))).bind fun r1 => if r1.1.1 = 4 then none else
    Ev prog clsT X d mc176 183 [(2, 89), (0, x1), (0, x2), (3, 0), (3, 0), (3, 0)] (pushR r1.1 []) r1.2) else none)
else
  (if (2 : Nat) = 2 ∧ rcv ((mk E c s (hh g))) 89 13 = true then
    ((Call prog clsT X d 171 [(2, 89), (1, 1111)] ((mk E c s (hh g)))).bind fun r2 => if r2.1.1 = 4 then none else
    Ev prog clsT X d mc176 167 [(2, 89), (0, x1), (0, x2), (3, 0), (3, 0), (3, 0)] (pushR r2.1 [(2, 89)]) r2.2) else none))) X [0, 9, 13, 17, 21, 35, 36, 42, 54, 80, 82, 94, 98, 102, 106, 111, 117, 122, 128, 132, 142, 147, 158, 162, 167, 172, 183, 189, 190, 205, 208, 213, 216] 6 rfl).trans (by simp (maxSteps := 10000000) only [R89_13, bindI, Option.bind_some, if_true_, and_self, ite_true, true_and, true_or, or_true])
set_option maxRecDepth 100000 in
theorem r176_167 (d : Nat) (x1 x2 s1 : Int) : Ev prog clsT X d mc176 167 [(2, 89), (0, x1), (0, x2), (3, 0), (3, 0), (3, 0)] [(0, s1), (2, 89)] (mk E c s (hh g)) =
  (if cmpI .eq s1 0 = true then
  ((Call prog clsT X d 181 [(2, 89), (0, 27)] ((mk E c s (hh g)))).bind fun r1 => if r1.1.1 = 4 then none else
    Ev prog clsT X d mc176 172 [(2, 89), (0, x1), (0, x2), (3, 0), (3, 0), (3, 0)] (pushR r1.1 []) r1.2)
else
  ((Call prog clsT X d 181 [(2, 89), (0, 26)] ((mk E c s (hh g)))).bind fun r2 => if r2.1.1 = 4 then none else
    Ev prog clsT X d mc176 172 [(2, 89), (0, x1), (0, x2), (3, 0), (3, 0), (3, 0)] (pushR r2.1 []) r2.2)) :=
  (evk_at (r := (if cmpI .eq s1 0 = true then
  (if (2 : Nat) = 2 ∧ rcv ((mk E c s (hh g))) 89 13 = true then
    ((Call prog clsT X d 181 [(2, 89), (0, 27)] ((mk E c s (hh g)))).bind fun r1 => if r1.1.1 = 4 then none else
    Ev prog clsT X d mc176 172 [(2, 89), (0, x1), (0, x2), (3, 0), (3, 0), (3, 0)] (pushR r1.1 []) r1.2) else none)
else
  (if (2 : Nat) = 2 ∧ rcv ((mk E c s (hh g))) 89 13 = true then
    ((Call prog clsT X d 181 [(2, 89), (0, 26)] ((mk E c s (hh g)))).bind fun r2 => if r2.1.1 = 4 then none else
    Ev prog clsT X d mc176 172 [(2, 89), (0, x1), (0, x2), (3, 0), (3, 0), (3, 0)] (pushR r2.1 []) r2.2) else none))) X [0, 9, 13, 17, 21, 35, 36, 42, 54, 80, 82, 94, 98, 102, 106, 111, 117, 122, 128, 132, 142, 147, 158, 162, 167, 172, 183, 189, 190, 205, 208, 213, 216] 5 rfl).trans (by simp (maxSteps := 10000000) only [R89_13, bindI, Option.bind_some, if_true_, and_self, ite_true, true_and, true_or, or_true])
set_option maxRecDepth 100000 in
theorem r176_172 (d : Nat) (x1 x2 : Int) : Ev prog clsT X d mc176 172 [(2, 89), (0, x1), (0, x2), (3, 0), (3, 0), (3, 0)] [] (mk E c s (hh g)) =
  (if inb x1 7 = true then
  ((Call prog clsT X d 167 [(2, 89)] ((mk E c s (hh (up g 116 (Int.toNat x1) (bit1 (0))))))).bind fun r1 => if r1.1.1 = 4 then none else
  Ev prog clsT X d mc176 216 [(2, 89), (0, x1), (0, 1), (3, 0), (3, 0), (3, 0)] (pushR r1.1 []) r1.2)
else none) :=
  (evk_at (r := ((fget 6298 ((mk E c s (hh g))) 89).bind fun v1 =>
  (aput 102 ((mk E c s (hh g))) v1 x1 (bit1 (0))).bind fun M2 =>
  if (2 : Nat) = 2 ∧ rcv M2 89 13 = true then
  ((Call prog clsT X d 167 [(2, 89)] M2).bind fun r3 => if r3.1.1 = 4 then none else
  Ev prog clsT X d mc176 216 [(2, 89), (0, x1), (0, 1), (3, 0), (3, 0), (3, 0)] (pushR r3.1 []) r3.2) else none)) X [0, 9, 13, 17, 21, 35, 36, 42, 54, 80, 82, 94, 98, 102, 106, 111, 117, 122, 128, 132, 142, 147, 158, 162, 167, 172, 183, 189, 190, 205, 208, 213, 216] 11 rfl).trans (by simp (maxSteps := 10000000) only [R89_13, ↓F6298_89, ↓S116, bindI, Option.bind_some, if_true_, and_self, ite_true, true_and, true_or, or_true])
set_option maxRecDepth 100000 in
theorem r176_183 (d : Nat) (x1 x2 s0 : Int) : Ev prog clsT X d mc176 183 [(2, 89), (0, x1), (0, x2), (3, 0), (3, 0), (3, 0)] [(0, s0)] (mk E c s (hh g)) =
  (if cmpI .eq s0 0 = true then
  (if cmpI .ne x1 0 = true then
    ((Call prog clsT X d 172 [(2, 89), (0, 1)] ((mk E c s (hh g)))).bind fun r1 => if r1.1.1 = 4 then none else
      Ev prog clsT X d mc176 213 [(2, 89), (0, x1), (0, x2), (3, 0), (3, 0), (3, 0)] (pushR r1.1 []) r1.2)
  else
    ((Call prog clsT X d 180 [(2, 89), (0, 59)] ((mk E c s (hh g)))).bind fun r2 => if r2.1.1 = 4 then none else
      Ev prog clsT X d mc176 205 [(2, 89), (0, x1), (0, x2), (3, 0), (3, 0), (3, 0)] (pushR r2.1 []) r2.2))
else
  (if cmpI .le x1 0 = true then
    (if cmpI .ne x1 0 = true then
      ((Call prog clsT X d 172 [(2, 89), (0, 1)] ((mk E c s (hh g)))).bind fun r3 => if r3.1.1 = 4 then none else
        Ev prog clsT X d mc176 213 [(2, 89), (0, x1), (0, x2), (3, 0), (3, 0), (3, 0)] (pushR r3.1 []) r3.2)
    else
      ((Call prog clsT X d 180 [(2, 89), (0, 59)] ((mk E c s (hh g)))).bind fun r4 => if r4.1.1 = 4 then none else
        Ev prog clsT X d mc176 205 [(2, 89), (0, x1), (0, x2), (3, 0), (3, 0), (3, 0)] (pushR r4.1 []) r4.2))
  else
    ((Call prog clsT X d 181 [(2, 89), (0, 29)] ((mk E c s (hh g)))).bind fun r5 => if r5.1.1 = 4 then none else
      Ev prog clsT X d mc176 189 [(2, 89), (0, x1), (0, x2), (3, 0), (3, 0), (3, 0)] (pushR r5.1 []) r5.2))) :=
  (evk_at (r := (if cmpI .eq s0 0 = true then
  (if cmpI .ne x1 0 = true then
    (if (2 : Nat) = 2 ∧ rcv ((mk E c s (hh g))) 89 13 = true then
      ((Call prog clsT X d 172 [(2, 89), (0, 1)] ((mk E c s (hh g)))).bind fun r1 => if r1.1.1 = 4 then none else
      Ev prog clsT X d mc176 213 [(2, 89), (0, x1), (0, x2), (3, 0), (3, 0), (3, 0)] (pushR r1.1 []) r1.2) else none)
  else
    (if (2 : Nat) = 2 ∧ rcv ((mk E c s (hh g))) 89 13 = true then
      ((Call prog clsT X d 180 [(2, 89), (0, 59)] ((mk E c s (hh g)))).bind fun r2 => if r2.1.1 = 4 then none else
      Ev prog clsT X d mc176 205 [(2, 89), (0, x1), (0, x2), (3, 0), (3, 0), (3, 0)] (pushR r2.1 []) r2.2) else none))
else
  (if cmpI .le x1 0 = true then
    (if cmpI .ne x1 0 = true then
      (if (2 : Nat) = 2 ∧ rcv ((mk E c s (hh g))) 89 13 = true then
        ((Call prog clsT X d 172 [(2, 89), (0, 1)] ((mk E c s (hh g)))).bind fun r3 => if r3.1.1 = 4 then none else
        Ev prog clsT X d mc176 213 [(2, 89), (0, x1), (0, x2), (3, 0), (3, 0), (3, 0)] (pushR r3.1 []) r3.2) else none)
    else
      (if (2 : Nat) = 2 ∧ rcv ((mk E c s (hh g))) 89 13 = true then
        ((Call prog clsT X d 180 [(2, 89), (0, 59)] ((mk E c s (hh g)))).bind fun r4 => if r4.1.1 = 4 then none else
        Ev prog clsT X d mc176 205 [(2, 89), (0, x1), (0, x2), (3, 0), (3, 0), (3, 0)] (pushR r4.1 []) r4.2) else none))
  else
    (if (2 : Nat) = 2 ∧ rcv ((mk E c s (hh g))) 89 13 = true then
      ((Call prog clsT X d 181 [(2, 89), (0, 29)] ((mk E c s (hh g)))).bind fun r5 => if r5.1.1 = 4 then none else
      Ev prog clsT X d mc176 189 [(2, 89), (0, x1), (0, x2), (3, 0), (3, 0), (3, 0)] (pushR r5.1 []) r5.2) else none)))) X [0, 9, 13, 17, 21, 35, 36, 42, 54, 80, 82, 94, 98, 102, 106, 111, 117, 122, 128, 132, 142, 147, 158, 162, 167, 172, 183, 189, 190, 205, 208, 213, 216] 9 rfl).trans (by simp (maxSteps := 10000000) only [R89_13, bindI, Option.bind_some, if_true_, and_self, ite_true, true_and, true_or, or_true])
set_option maxRecDepth 100000 in
theorem r176_189 (d : Nat) (x1 x2 : Int) : Ev prog clsT X d mc176 189 [(2, 89), (0, x1), (0, x2), (3, 0), (3, 0), (3, 0)] [] (mk E c s (hh g)) =
  (Ev prog clsT X d mc176 190 [(2, 89), (0, (w32 (x1 + (-1)))), (0, x2), (3, 0), (3, 0), (3, 0)] [] (mk E c s (hh g))) :=
  evk_at X [0, 9, 13, 17, 21, 35, 36, 42, 54, 80, 82, 94, 98, 102, 106, 111, 117, 122, 128, 132, 142, 147, 158, 162, 167, 172, 183, 189, 190, 205, 208, 213, 216] 3 rfl
set_option maxRecDepth 100000 in
theorem r176_190 (d : Nat) (x1 x2 : Int) (w3 w4 w5 : MV) : Ev prog clsT X d mc176 190 [(2, 89), (0, x1), (0, x2), w3, w4, w5] [] (mk E c s (hh g)) =
  (if cmpI .le x1 0 = true then
  ((Call prog clsT X d 167 [(2, 89)] ((mk E c s (hh g)))).bind fun r1 => if r1.1.1 = 4 then none else
    Ev prog clsT X d mc176 216 [(2, 89), (0, x1), (0, x2), (3, 0), (3, 0), (3, 0)] (pushR r1.1 []) r1.2)
else
  (if inb x1 7 = true then
    (if cmpI .ne ((g 115 (Int.toNat x1))) 1 = true then
    ((Call prog clsT X d 167 [(2, 89)] ((mk E c s (hh g)))).bind fun r2 => if r2.1.1 = 4 then none else
      Ev prog clsT X d mc176 216 [(2, 89), (0, x1), (0, x2), (3, 0), (3, 0), (3, 0)] (pushR r2.1 []) r2.2)
  else
    (Ev prog clsT X d mc176 190 [(2, 89), (0, (w32 (x1 + (-1)))), (0, x2), (3, 0), (3, 0), (3, 0)] [] (mk E c s (hh g))))
  else none)) :=
  (evk_at (r := (if cmpI .le x1 0 = true then
  (if (2 : Nat) = 2 ∧ rcv ((mk E c s (hh g))) 89 13 = true then
    ((Call prog clsT X d 167 [(2, 89)] ((mk E c s (hh g)))).bind fun r1 => if r1.1.1 = 4 then none else
    Ev prog clsT X d mc176 216 [(2, 89), (0, x1), (0, x2), (3, 0), (3, 0), (3, 0)] (pushR r1.1 []) r1.2) else none)
else
  ((fget 6294 ((mk E c s (hh g))) 89).bind fun v2 =>
    (aget X 100 ((mk E c s (hh g))) v2 x1).bind fun v3 =>
    if cmpI .ne v3 1 = true then
    (if (2 : Nat) = 2 ∧ rcv ((mk E c s (hh g))) 89 13 = true then
      ((Call prog clsT X d 167 [(2, 89)] ((mk E c s (hh g)))).bind fun r4 => if r4.1.1 = 4 then none else
      Ev prog clsT X d mc176 216 [(2, 89), (0, x1), (0, x2), (3, 0), (3, 0), (3, 0)] (pushR r4.1 []) r4.2) else none)
  else
    (Ev prog clsT X d mc176 190 [(2, 89), (0, (w32 (x1 + (-1)))), (0, x2), (3, 0), (3, 0), (3, 0)] [] (mk E c s (hh g)))))) X [0, 9, 13, 17, 21, 35, 36, 42, 54, 80, 82, 94, 98, 102, 106, 111, 117, 122, 128, 132, 142, 147, 158, 162, 167, 172, 183, 189, 190, 205, 208, 213, 216] 12 rfl).trans (by simp (maxSteps := 10000000) only [R89_13, ↓A115, ↓F6294_89, bindI, Option.bind_some, if_true_, and_self, ite_true, true_and, true_or, or_true])
set_option maxRecDepth 100000 in
theorem r176_205 (d : Nat) (x1 x2 s0 : Int) : Ev prog clsT X d mc176 205 [(2, 89), (0, x1), (0, x2), (3, 0), (3, 0), (3, 0)] [(0, s0)] (mk E c s (hh g)) =
  (if cmpI .eq s0 0 = true then
  ((Call prog clsT X d 172 [(2, 89), (0, 1)] ((mk E c s (hh g)))).bind fun r1 => if r1.1.1 = 4 then none else
    Ev prog clsT X d mc176 213 [(2, 89), (0, x1), (0, x2), (3, 0), (3, 0), (3, 0)] (pushR r1.1 []) r1.2)
else
  ((Call prog clsT X d 167 [(2, 89)] ((mk E c s (hh g)))).bind fun r2 => if r2.1.1 = 4 then none else
    Ev prog clsT X d mc176 208 [(2, 89), (0, x1), (0, x2), (3, 0), (3, 0), (3, 0)] (pushR r2.1 []) r2.2)) :=
  (evk_at (r := (if cmpI .eq s0 0 = true then
  (if (2 : Nat) = 2 ∧ rcv ((mk E c s (hh g))) 89 13 = true then
    ((Call prog clsT X d 172 [(2, 89), (0, 1)] ((mk E c s (hh g)))).bind fun r1 => if r1.1.1 = 4 then none else
    Ev prog clsT X d mc176 213 [(2, 89), (0, x1), (0, x2), (3, 0), (3, 0), (3, 0)] (pushR r1.1 []) r1.2) else none)
else
  (if (2 : Nat) = 2 ∧ rcv ((mk E c s (hh g))) 89 13 = true then
    ((Call prog clsT X d 167 [(2, 89)] ((mk E c s (hh g)))).bind fun r2 => if r2.1.1 = 4 then none else
    Ev prog clsT X d mc176 208 [(2, 89), (0, x1), (0, x2), (3, 0), (3, 0), (3, 0)] (pushR r2.1 []) r2.2) else none))) X [0, 9, 13, 17, 21, 35, 36, 42, 54, 80, 82, 94, 98, 102, 106, 111, 117, 122, 128, 132, 142, 147, 158, 162, 167, 172, 183, 189, 190, 205, 208, 213, 216] 5 rfl).trans (by simp (maxSteps := 10000000) only [R89_13, bindI, Option.bind_some, if_true_, and_self, ite_true, true_and, true_or, or_true])
set_option maxRecDepth 100000 in
theorem r176_208 (d : Nat) (x1 x2 : Int) : Ev prog clsT X d mc176 208 [(2, 89), (0, x1), (0, x2), (3, 0), (3, 0), (3, 0)] [] (mk E c s (hh g)) =
  (some ((0, 1), ((mk E c s (hh g))))) :=
  (evk_at (r := (some ((0, 1), (mk E c s (hh g))))) X [0, 9, 13, 17, 21, 35, 36, 42, 54, 80, 82, 94, 98, 102, 106, 111, 117, 122, 128, 132, 142, 147, 158, 162, 167, 172, 183, 189, 190, 205, 208, 213, 216] 3 rfl).trans (by simp (maxSteps := 10000000) only [bindI, Option.bind_some, if_true_, and_self, ite_true, true_and, true_or, or_true])
set_option maxRecDepth 100000 in
theorem r176_213 (d : Nat) (x1 x2 s0 : Int) : Ev prog clsT X d mc176 213 [(2, 89), (0, x1), (0, x2), (3, 0), (3, 0), (3, 0)] [(0, s0)] (mk E c s (hh g)) =
  (if (0 : Nat) = 0 ∧ one01 s0 = true then some ((0, s0), ((mk E c s (hh g)))) else none) :=
  (evk_at (r := (if (0 : Nat) = 0 ∧ one01 s0 = true then some ((0, s0), (mk E c s (hh g))) else none)) X [0, 9, 13, 17, 21, 35, 36, 42, 54, 80, 82, 94, 98, 102, 106, 111, 117, 122, 128, 132, 142, 147, 158, 162, 167, 172, 183, 189, 190, 205, 208, 213, 216] 2 rfl).trans (by simp (maxSteps := 10000000) only [bindI, Option.bind_some, if_true_, and_self, ite_true, true_and, true_or, or_true])
set_option maxRecDepth 100000 in
theorem r176_216 (d : Nat) (x1 x2 : Int) : Ev prog clsT X d mc176 216 [(2, 89), (0, x1), (0, x2), (3, 0), (3, 0), (3, 0)] [] (mk E c s (hh g)) =
  (Ev prog clsT X d mc176 9 [(2, 89), (0, x1), (0, x2), (3, 0), (3, 0), (3, 0)] [] (mk E c s (hh g))) :=
  evk_at X [0, 9, 13, 17, 21, 35, 36, 42, 54, 80, 82, 94, 98, 102, 106, 111, 117, 122, 128, 132, 142, 147, 158, 162, 167, 172, 183, 189, 190, 205, 208, 213, 216] 3 rfl
set_option maxRecDepth 100000 in
theorem r177_0 (d : Nat) : Ev prog clsT X d mc177 0 [(2, 89)] [] (mk E c s (hh g)) =
  (if cmpI .eq ((g 89 22)) 1 = true then
  (if cmpI .eq ((g 89 36)) 0 = true then
    ((Call prog clsT X d 179 [(2, 89)] ((mk E c s (hh g)))).bind fun r1 => if r1.1.1 = 4 then none else
      Ev prog clsT X d mc177 14 [(2, 89)] (pushR r1.1 []) r1.2)
  else
    ((Call prog clsT X d 178 [(2, 89)] ((mk E c s (hh g)))).bind fun r2 => if r2.1.1 = 4 then none else
      Ev prog clsT X d mc177 11 [(2, 89)] (pushR r2.1 []) r2.2))
else
  (Ev prog clsT X d mc177 14 [(2, 89)] [(0, 0)] (mk E c s (hh g)))) :=
  (evk_at (r := ((fget 6232 ((mk E c s (hh g))) 89).bind fun v1 =>
  if cmpI .eq v1 1 = true then
  ((fget 6291 ((mk E c s (hh g))) 89).bind fun v2 =>
    if cmpI .eq v2 0 = true then
    (if (2 : Nat) = 2 ∧ rcv ((mk E c s (hh g))) 89 13 = true then
      ((Call prog clsT X d 179 [(2, 89)] ((mk E c s (hh g)))).bind fun r3 => if r3.1.1 = 4 then none else
      Ev prog clsT X d mc177 14 [(2, 89)] (pushR r3.1 []) r3.2) else none)
  else
    (if (2 : Nat) = 2 ∧ rcv ((mk E c s (hh g))) 89 13 = true then
      ((Call prog clsT X d 178 [(2, 89)] ((mk E c s (hh g)))).bind fun r4 => if r4.1.1 = 4 then none else
      Ev prog clsT X d mc177 11 [(2, 89)] (pushR r4.1 []) r4.2) else none))
else
  (Ev prog clsT X d mc177 14 [(2, 89)] [(0, 0)] (mk E c s (hh g))))) X [0, 11, 14] 10 rfl).trans (by simp (maxSteps := 10000000) only [R89_13, ↓F6232_89, ↓F6291_89, bindI, Option.bind_some, if_true_, and_self, ite_true, true_and, true_or, or_true])
set_option maxRecDepth 100000 in
theorem rc177_ (d : Nat) : Call prog clsT X (d + 1) 177 [(2, 89)] (mk E c s (hh g)) =
  (if cmpI .eq ((g 89 22)) 1 = true then
  (if cmpI .eq ((g 89 36)) 0 = true then
    ((Call prog clsT X d 179 [(2, 89)] ((mk E c s (hh g)))).bind fun r1 => if r1.1.1 = 4 then none else
      Ev prog clsT X d mc177 14 [(2, 89)] (pushR r1.1 []) r1.2)
  else
    ((Call prog clsT X d 178 [(2, 89)] ((mk E c s (hh g)))).bind fun r2 => if r2.1.1 = 4 then none else
      Ev prog clsT X d mc177 11 [(2, 89)] (pushR r2.1 []) r2.2))
else
  (Ev prog clsT X d mc177 14 [(2, 89)] [(0, 0)] (mk E c s (hh g)))) :=
  (show Call prog clsT X (d + 1) 177 [(2, 89)] (mk E c s (hh g)) = Ev prog clsT X d mc177 0 [(2, 89)] [] (mk E c s (hh g)) from rfl).trans (r177_0 X E c s g d  )
set_option maxRecDepth 100000 in
theorem r177_11 (d : Nat) (s0 : Int) : Ev prog clsT X d mc177 11 [(2, 89)] [(0, s0)] (mk E c s (hh g)) =
  (Ev prog clsT X d mc177 14 [(2, 89)] [(0, s0)] (mk E c s (hh g))) :=
  evk_at X [0, 11, 14] 3 rfl
set_option maxRecDepth 100000 in
theorem r177_14 (d : Nat) (s0 : Int) : Ev prog clsT X d mc177 14 [(2, 89)] [(0, s0)] (mk E c s (hh g)) =
  (some ((0, s0), ((mk E c s (hh g))))) :=
  (evk_at (r := (some ((0, s0), (mk E c s (hh g))))) X [0, 11, 14] 2 rfl).trans (by simp (maxSteps := 10000000) only [bindI, Option.bind_some, if_true_, and_self, ite_true, true_and, true_or, or_true])
set_option maxRecDepth 100000 in
theorem r178_0 (d : Nat) : Ev prog clsT X d mc178 0 [(2, 89)] [] (mk E c s (hh g)) =
  (if cmpI .ne ((lcmpI ((g 89 23)) 10634)) 0 = true then
  (if cmpI .ne ((lcmpI ((g 89 23)) 237458)) 0 = true then
    (if cmpI .ne ((lcmpI ((g 89 23)) 267347)) 0 = true then
      (if cmpI .ne ((lcmpI ((g 89 23)) 6476969)) 0 = true then
        (if cmpI .ne ((lcmpI ((g 89 23)) 259565)) 0 = true then
          (if cmpI .ne ((lcmpI ((g 89 23)) 13385674)) 0 = true then
            (if cmpI .ne ((lcmpI ((g 89 23)) 223456)) 0 = true then
              (if cmpI .ne ((lcmpI ((g 89 23)) 330846583)) 0 = true then
                (some ((0, 0), ((mk E c s (hh g)))))
              else
                (some ((0, 8), ((mk E c s (hh g))))))
            else
              (some ((0, 7), ((mk E c s (hh g))))))
          else
            (some ((0, 6), ((mk E c s (hh g))))))
        else
          (some ((0, 5), ((mk E c s (hh g))))))
      else
        (some ((0, 4), ((mk E c s (hh g))))))
    else
      (some ((0, 3), ((mk E c s (hh g))))))
  else
    (some ((0, 2), ((mk E c s (hh g))))))
else
  (some ((0, 1), ((mk E c s (hh g)))))) :=
  (evk_at (r := ((fget 6237 ((mk E c s (hh g))) 89).bind fun v1 =>
  if cmpI .ne ((lcmpI v1 10634)) 0 = true then
  ((fget 6237 ((mk E c s (hh g))) 89).bind fun v2 =>
    if cmpI .ne ((lcmpI v2 237458)) 0 = true then
    ((fget 6237 ((mk E c s (hh g))) 89).bind fun v3 =>
      if cmpI .ne ((lcmpI v3 267347)) 0 = true then
      ((fget 6237 ((mk E c s (hh g))) 89).bind fun v4 =>
        if cmpI .ne ((lcmpI v4 6476969)) 0 = true then
        ((fget 6237 ((mk E c s (hh g))) 89).bind fun v5 =>
          if cmpI .ne ((lcmpI v5 259565)) 0 = true then
          ((fget 6237 ((mk E c s (hh g))) 89).bind fun v6 =>
            if cmpI .ne ((lcmpI v6 13385674)) 0 = true then
            ((fget 6237 ((mk E c s (hh g))) 89).bind fun v7 =>
              if cmpI .ne ((lcmpI v7 223456)) 0 = true then
              ((fget 6237 ((mk E c s (hh g))) 89).bind fun v8 =>
                if cmpI .ne ((lcmpI v8 330846583)) 0 = true then
                (some ((0, 0), (mk E c s (hh g))))
              else
                (some ((0, 8), (mk E c s (hh g)))))
            else
              (some ((0, 7), (mk E c s (hh g)))))
          else
            (some ((0, 6), (mk E c s (hh g)))))
        else
          (some ((0, 5), (mk E c s (hh g)))))
      else
        (some ((0, 4), (mk E c s (hh g)))))
    else
      (some ((0, 3), (mk E c s (hh g)))))
  else
    (some ((0, 2), (mk E c s (hh g)))))
else
  (some ((0, 1), (mk E c s (hh g)))))) X [0] 43 rfl).trans (by simp (maxSteps := 10000000) only [↓F6237_89, bindI, Option.bind_some, if_true_, and_self, ite_true, true_and, true_or, or_true])
set_option maxRecDepth 100000 in
theorem rc178_ (d : Nat) : Call prog clsT X (d + 1) 178 [(2, 89)] (mk E c s (hh g)) =
  (if cmpI .ne ((lcmpI ((g 89 23)) 10634)) 0 = true then
  (if cmpI .ne ((lcmpI ((g 89 23)) 237458)) 0 = true then
    (if cmpI .ne ((lcmpI ((g 89 23)) 267347)) 0 = true then
      (if cmpI .ne ((lcmpI ((g 89 23)) 6476969)) 0 = true then
        (if cmpI .ne ((lcmpI ((g 89 23)) 259565)) 0 = true then
          (if cmpI .ne ((lcmpI ((g 89 23)) 13385674)) 0 = true then
            (if cmpI .ne ((lcmpI ((g 89 23)) 223456)) 0 = true then
              (if cmpI .ne ((lcmpI ((g 89 23)) 330846583)) 0 = true then
                (some ((0, 0), ((mk E c s (hh g)))))
              else
                (some ((0, 8), ((mk E c s (hh g))))))
            else
              (some ((0, 7), ((mk E c s (hh g))))))
          else
            (some ((0, 6), ((mk E c s (hh g))))))
        else
          (some ((0, 5), ((mk E c s (hh g))))))
      else
        (some ((0, 4), ((mk E c s (hh g))))))
    else
      (some ((0, 3), ((mk E c s (hh g))))))
  else
    (some ((0, 2), ((mk E c s (hh g))))))
else
  (some ((0, 1), ((mk E c s (hh g)))))) :=
  (show Call prog clsT X (d + 1) 178 [(2, 89)] (mk E c s (hh g)) = Ev prog clsT X d mc178 0 [(2, 89)] [] (mk E c s (hh g)) from rfl).trans (r178_0 X E c s g d  )
set_option maxRecDepth 100000 in
theorem r179_0 (d : Nat) : Ev prog clsT X d mc179 0 [(2, 89)] [] (mk E c s (hh g)) =
  (if cmpI .ne ((lcmpI ((g 89 23)) 234466237)) 0 = true then
  (if cmpI .ne ((lcmpI ((g 89 23)) 6033331)) 0 = true then
    (if cmpI .ne ((lcmpI ((g 89 23)) 11047)) 0 = true then
      (if cmpI .ne ((lcmpI ((g 89 23)) 381245)) 0 = true then
        (if cmpI .ne ((lcmpI ((g 89 23)) 281490259)) 0 = true then
          (if cmpI .ne ((lcmpI ((g 89 23)) 4075223)) 0 = true then
            (if cmpI .ne ((lcmpI ((g 89 23)) 12532043)) 0 = true then
              (if cmpI .ne ((lcmpI ((g 89 23)) 923)) 0 = true then
                (if cmpI .ne ((lcmpI ((g 89 23)) 4562600)) 0 = true then
                  (if cmpI .ne ((lcmpI ((g 89 23)) 17186)) 0 = true then
                    (if cmpI .ne ((lcmpI ((g 89 23)) 2148976972)) 0 = true then
                      (some ((0, 0), ((mk E c s (hh g)))))
                    else
                      (some ((0, 11), ((mk E c s (hh g))))))
                  else
                    (some ((0, 10), ((mk E c s (hh g))))))
                else
                  (some ((0, 9), ((mk E c s (hh g))))))
              else
                (some ((0, 8), ((mk E c s (hh g))))))
            else
              (some ((0, 7), ((mk E c s (hh g))))))
          else
            (some ((0, 6), ((mk E c s (hh g))))))
        else
          (some ((0, 5), ((mk E c s (hh g))))))
      else
        (some ((0, 4), ((mk E c s (hh g))))))
    else
      (some ((0, 3), ((mk E c s (hh g))))))
  else
    (some ((0, 2), ((mk E c s (hh g))))))
else
  (some ((0, 1), ((mk E c s (hh g)))))) :=
  (evk_at (r := ((fget 6237 ((mk E c s (hh g))) 89).bind fun v1 =>
  if cmpI .ne ((lcmpI v1 234466237)) 0 = true then
  ((fget 6237 ((mk E c s (hh g))) 89).bind fun v2 =>
    if cmpI .ne ((lcmpI v2 6033331)) 0 = true then
    ((fget 6237 ((mk E c s (hh g))) 89).bind fun v3 =>
      if cmpI .ne ((lcmpI v3 11047)) 0 = true then
      ((fget 6237 ((mk E c s (hh g))) 89).bind fun v4 =>
        if cmpI .ne ((lcmpI v4 381245)) 0 = true then
        ((fget 6237 ((mk E c s (hh g))) 89).bind fun v5 =>
          if cmpI .ne ((lcmpI v5 281490259)) 0 = true then
          ((fget 6237 ((mk E c s (hh g))) 89).bind fun v6 =>
            if cmpI .ne ((lcmpI v6 4075223)) 0 = true then
            ((fget 6237 ((mk E c s (hh g))) 89).bind fun v7 =>
              if cmpI .ne ((lcmpI v7 12532043)) 0 = true then
              ((fget 6237 ((mk E c s (hh g))) 89).bind fun v8 =>
                if cmpI .ne ((lcmpI v8 923)) 0 = true then
                ((fget 6237 ((mk E c s (hh g))) 89).bind fun v9 =>
                  if cmpI .ne ((lcmpI v9 4562600)) 0 = true then
                  ((fget 6237 ((mk E c s (hh g))) 89).bind fun v10 =>
                    if cmpI .ne ((lcmpI v10 17186)) 0 = true then
                    ((fget 6237 ((mk E c s (hh g))) 89).bind fun v11 =>
                      if cmpI .ne ((lcmpI v11 2148976972)) 0 = true then
                      (some ((0, 0), (mk E c s (hh g))))
                    else
                      (some ((0, 11), (mk E c s (hh g)))))
                  else
                    (some ((0, 10), (mk E c s (hh g)))))
                else
                  (some ((0, 9), (mk E c s (hh g)))))
              else
                (some ((0, 8), (mk E c s (hh g)))))
            else
              (some ((0, 7), (mk E c s (hh g)))))
          else
            (some ((0, 6), (mk E c s (hh g)))))
        else
          (some ((0, 5), (mk E c s (hh g)))))
      else
        (some ((0, 4), (mk E c s (hh g)))))
    else
      (some ((0, 3), (mk E c s (hh g)))))
  else
    (some ((0, 2), (mk E c s (hh g)))))
else
  (some ((0, 1), (mk E c s (hh g)))))) X [0] 58 rfl).trans (by simp (maxSteps := 10000000) only [↓F6237_89, bindI, Option.bind_some, if_true_, and_self, ite_true, true_and, true_or, or_true])
set_option maxRecDepth 100000 in
theorem rc179_ (d : Nat) : Call prog clsT X (d + 1) 179 [(2, 89)] (mk E c s (hh g)) =
  (if cmpI .ne ((lcmpI ((g 89 23)) 234466237)) 0 = true then
  (if cmpI .ne ((lcmpI ((g 89 23)) 6033331)) 0 = true then
    (if cmpI .ne ((lcmpI ((g 89 23)) 11047)) 0 = true then
      (if cmpI .ne ((lcmpI ((g 89 23)) 381245)) 0 = true then
        (if cmpI .ne ((lcmpI ((g 89 23)) 281490259)) 0 = true then
          (if cmpI .ne ((lcmpI ((g 89 23)) 4075223)) 0 = true then
            (if cmpI .ne ((lcmpI ((g 89 23)) 12532043)) 0 = true then
              (if cmpI .ne ((lcmpI ((g 89 23)) 923)) 0 = true then
                (if cmpI .ne ((lcmpI ((g 89 23)) 4562600)) 0 = true then
                  (if cmpI .ne ((lcmpI ((g 89 23)) 17186)) 0 = true then
                    (if cmpI .ne ((lcmpI ((g 89 23)) 2148976972)) 0 = true then
                      (some ((0, 0), ((mk E c s (hh g)))))
                    else
                      (some ((0, 11), ((mk E c s (hh g))))))
                  else
                    (some ((0, 10), ((mk E c s (hh g))))))
                else
                  (some ((0, 9), ((mk E c s (hh g))))))
              else
                (some ((0, 8), ((mk E c s (hh g))))))
            else
              (some ((0, 7), ((mk E c s (hh g))))))
          else
            (some ((0, 6), ((mk E c s (hh g))))))
        else
          (some ((0, 5), ((mk E c s (hh g))))))
      else
        (some ((0, 4), ((mk E c s (hh g))))))
    else
      (some ((0, 3), ((mk E c s (hh g))))))
  else
    (some ((0, 2), ((mk E c s (hh g))))))
else
  (some ((0, 1), ((mk E c s (hh g)))))) :=
  (show Call prog clsT X (d + 1) 179 [(2, 89)] (mk E c s (hh g)) = Ev prog clsT X d mc179 0 [(2, 89)] [] (mk E c s (hh g)) from rfl).trans (r179_0 X E c s g d  )
set_option maxRecDepth 100000 in
theorem r180_0 (d : Nat) (x1 : Int) : Ev prog clsT X d mc180 0 [(2, 89), (0, x1)] [] (mk E c s (hh g)) =
  (if cmpI .ne ((g 89 22)) 3 = true then
  (some ((0, 0), ((mk E c s (hh g)))))
else
  (if inb ((g 89 21)) 1000 = true then
    (if cmpI .ne ((g 105 (Int.toNat ((g 89 21))))) x1 = true then
    (some ((0, 0), ((mk E c s (hh g)))))
  else
    (some ((0, 1), ((mk E c s (hh g))))))
  else none)) :=
  (evk_at (r := ((fget 6232 ((mk E c s (hh g))) 89).bind fun v1 =>
  if cmpI .ne v1 3 = true then
  (some ((0, 0), (mk E c s (hh g))))
else
  ((fget 6218 ((mk E c s (hh g))) 89).bind fun v2 =>
    (fget 6228 ((mk E c s (hh g))) 89).bind fun v3 =>
    (aget X 100 ((mk E c s (hh g))) v2 v3).bind fun v4 =>
    if cmpI .ne v4 x1 = true then
    (some ((0, 0), (mk E c s (hh g))))
  else
    (some ((0, 1), (mk E c s (hh g))))))) X [0] 15 rfl).trans (by simp (maxSteps := 10000000) only [↓A105, ↓F6218_89, ↓F6228_89, ↓F6232_89, bindI, Option.bind_some, if_true_, and_self, ite_true, true_and, true_or, or_true])
set_option maxRecDepth 100000 in
theorem rc180_ (d : Nat) (x1 : Int) : Call prog clsT X (d + 1) 180 [(2, 89), (0, x1)] (mk E c s (hh g)) =
  (if cmpI .ne ((g 89 22)) 3 = true then
  (some ((0, 0), ((mk E c s (hh g)))))
else
  (if inb ((g 89 21)) 1000 = true then
    (if cmpI .ne ((g 105 (Int.toNat ((g 89 21))))) x1 = true then
    (some ((0, 0), ((mk E c s (hh g)))))
  else
    (some ((0, 1), ((mk E c s (hh g))))))
  else none)) :=
  (show Call prog clsT X (d + 1) 180 [(2, 89), (0, x1)] (mk E c s (hh g)) = Ev prog clsT X d mc180 0 [(2, 89), (0, x1)] [] (mk E c s (hh g)) from rfl).trans (r180_0 X E c s g d x1 )
set_option maxRecDepth 100000 in
theorem r181_0 (d : Nat) (x1 : Int) : Ev prog clsT X d mc181 0 [(2, 89), (0, x1)] [] (mk E c s (hh g)) =
  (if inb ((g 89 35)) 13000 = true then
  (some ((3, 0), ((mk E c s (hh (up (up g 114 (Int.toNat ((g 89 35))) x1) 89 35 ((w32 (((g 89 35)) + 1)))))))))
else none) :=
  (evk_at (r := ((fget 6282 ((mk E c s (hh g))) 89).bind fun v1 =>
  (fget 6284 ((mk E c s (hh g))) 89).bind fun v2 =>
  (aput 100 ((mk E c s (hh g))) v1 v2 (x1)).bind fun M3 =>
  (fget 6284 M3 89).bind fun v4 =>
  (fput 6284 M3 89 ((w32 (v4 + 1)))).bind fun M5 =>
  some ((3, 0), M5))) X [0] 14 rfl).trans (by simp (maxSteps := 10000000) only [uc_114_89, ↓F6282_89, ↓F6284_89, ↓S114, ↓W6284_89, bindI, Option.bind_some, if_true_, and_self, ite_true, true_and, true_or, or_true])
set_option maxRecDepth 100000 in
theorem rc181_ (d : Nat) (x1 : Int) : Call prog clsT X (d + 1) 181 [(2, 89), (0, x1)] (mk E c s (hh g)) =
  (if inb ((g 89 35)) 13000 = true then
  (some ((3, 0), ((mk E c s (hh (up (up g 114 (Int.toNat ((g 89 35))) x1) 89 35 ((w32 (((g 89 35)) + 1)))))))))
else none) :=
  (show Call prog clsT X (d + 1) 181 [(2, 89), (0, x1)] (mk E c s (hh g)) = Ev prog clsT X d mc181 0 [(2, 89), (0, x1)] [] (mk E c s (hh g)) from rfl).trans (r181_0 X E c s g d x1 )
set_option maxRecDepth 100000 in
theorem r182_0 (d : Nat) (x1 : Int) : Ev prog clsT X d mc182 0 [(2, 89), (0, x1)] [] (mk E c s (hh g)) =
  ((Call prog clsT X d 171 [(2, 89), (1, 1503)] ((mk E c s (hh g)))).bind fun r1 => if r1.1.1 = 4 then none else
  Ev prog clsT X d mc182 3 [(2, 89), (0, x1)] (pushR r1.1 []) r1.2) :=
  (evk_at (r := (if (2 : Nat) = 2 ∧ rcv ((mk E c s (hh g))) 89 13 = true then
  ((Call prog clsT X d 171 [(2, 89), (1, 1503)] ((mk E c s (hh g)))).bind fun r1 => if r1.1.1 = 4 then none else
  Ev prog clsT X d mc182 3 [(2, 89), (0, x1)] (pushR r1.1 []) r1.2) else none)) X [0, 3, 6, 12, 16, 19, 23, 28, 32, 37, 41] 4 rfl).trans (by simp (maxSteps := 10000000) only [R89_13, bindI, Option.bind_some, if_true_, and_self, ite_true, true_and, true_or, or_true])
set_option maxRecDepth 100000 in
theorem rc182_ (d : Nat) (x1 : Int) : Call prog clsT X (d + 1) 182 [(2, 89), (0, x1)] (mk E c s (hh g)) =
  ((Call prog clsT X d 171 [(2, 89), (1, 1503)] ((mk E c s (hh g)))).bind fun r1 => if r1.1.1 = 4 then none else
  Ev prog clsT X d mc182 3 [(2, 89), (0, x1)] (pushR r1.1 []) r1.2) :=
  (show Call prog clsT X (d + 1) 182 [(2, 89), (0, x1)] (mk E c s (hh g)) = Ev prog clsT X d mc182 0 [(2, 89), (0, x1)] [] (mk E c s (hh g)) from rfl).trans (r182_0 X E c s g d x1 )
set_option maxRecDepth 100000 in
theorem r182_3 (d : Nat) (x1 s0 : Int) : Ev prog clsT X d mc182 3 [(2, 89), (0, x1)] [(0, s0)] (mk E c s (hh g)) =
  (if cmpI .eq s0 0 = true then
  (if cmpI .eq x1 0 = true then
    ((Call prog clsT X d 171 [(2, 89), (1, 453836)] ((mk E c s (hh g)))).bind fun r1 => if r1.1.1 = 4 then none else
      Ev prog clsT X d mc182 16 [(2, 89), (0, x1)] (pushR r1.1 []) r1.2)
  else
    ((Call prog clsT X d 172 [(2, 89), (0, 1)] ((mk E c s (hh g)))).bind fun r2 => if r2.1.1 = 4 then none else
      Ev prog clsT X d mc182 12 [(2, 89), (0, x1)] (pushR r2.1 []) r2.2))
else
  ((Call prog clsT X d 183 [(2, 89)] ((mk E c s (hh g)))).bind fun r3 => if r3.1.1 = 4 then none else
    Ev prog clsT X d mc182 6 [(2, 89), (0, x1)] (pushR r3.1 []) r3.2)) :=
  (evk_at (r := (if cmpI .eq s0 0 = true then
  (if cmpI .eq x1 0 = true then
    (if (2 : Nat) = 2 ∧ rcv ((mk E c s (hh g))) 89 13 = true then
      ((Call prog clsT X d 171 [(2, 89), (1, 453836)] ((mk E c s (hh g)))).bind fun r1 => if r1.1.1 = 4 then none else
      Ev prog clsT X d mc182 16 [(2, 89), (0, x1)] (pushR r1.1 []) r1.2) else none)
  else
    (if (2 : Nat) = 2 ∧ rcv ((mk E c s (hh g))) 89 13 = true then
      ((Call prog clsT X d 172 [(2, 89), (0, 1)] ((mk E c s (hh g)))).bind fun r2 => if r2.1.1 = 4 then none else
      Ev prog clsT X d mc182 12 [(2, 89), (0, x1)] (pushR r2.1 []) r2.2) else none))
else
  (if (2 : Nat) = 2 ∧ rcv ((mk E c s (hh g))) 89 13 = true then
    ((Call prog clsT X d 183 [(2, 89)] ((mk E c s (hh g)))).bind fun r3 => if r3.1.1 = 4 then none else
    Ev prog clsT X d mc182 6 [(2, 89), (0, x1)] (pushR r3.1 []) r3.2) else none))) X [0, 3, 6, 12, 16, 19, 23, 28, 32, 37, 41] 7 rfl).trans (by simp (maxSteps := 10000000) only [R89_13, bindI, Option.bind_some, if_true_, and_self, ite_true, true_and, true_or, or_true])
set_option maxRecDepth 100000 in
theorem r182_6 (d : Nat) (x1 s0 : Int) : Ev prog clsT X d mc182 6 [(2, 89), (0, x1)] [(0, s0)] (mk E c s (hh g)) =
  (if (0 : Nat) = 0 ∧ one01 s0 = true then some ((0, s0), ((mk E c s (hh g)))) else none) :=
  (evk_at (r := (if (0 : Nat) = 0 ∧ one01 s0 = true then some ((0, s0), (mk E c s (hh g))) else none)) X [0, 3, 6, 12, 16, 19, 23, 28, 32, 37, 41] 2 rfl).trans (by simp (maxSteps := 10000000) only [bindI, Option.bind_some, if_true_, and_self, ite_true, true_and, true_or, or_true])
set_option maxRecDepth 100000 in
theorem r182_12 (d : Nat) (x1 s0 : Int) : Ev prog clsT X d mc182 12 [(2, 89), (0, x1)] [(0, s0)] (mk E c s (hh g)) =
  (if (0 : Nat) = 0 ∧ one01 s0 = true then some ((0, s0), ((mk E c s (hh g)))) else none) :=
  (evk_at (r := (if (0 : Nat) = 0 ∧ one01 s0 = true then some ((0, s0), (mk E c s (hh g))) else none)) X [0, 3, 6, 12, 16, 19, 23, 28, 32, 37, 41] 2 rfl).trans (by simp (maxSteps := 10000000) only [bindI, Option.bind_some, if_true_, and_self, ite_true, true_and, true_or, or_true])
set_option maxRecDepth 100000 in
theorem r182_16 (d : Nat) (x1 s0 : Int) : Ev prog clsT X d mc182 16 [(2, 89), (0, x1)] [(0, s0)] (mk E c s (hh g)) =
  (if cmpI .eq s0 0 = true then
  ((Call prog clsT X d 171 [(2, 89), (1, 6941854)] ((mk E c s (hh g)))).bind fun r1 => if r1.1.1 = 4 then none else
    Ev prog clsT X d mc182 23 [(2, 89), (0, x1)] (pushR r1.1 []) r1.2)
else
  ((Call prog clsT X d 184 [(2, 89)] ((mk E c s (hh g)))).bind fun r2 => if r2.1.1 = 4 then none else
    Ev prog clsT X d mc182 19 [(2, 89), (0, x1)] (pushR r2.1 []) r2.2)) :=
  (evk_at (r := (if cmpI .eq s0 0 = true then
  (if (2 : Nat) = 2 ∧ rcv ((mk E c s (hh g))) 89 13 = true then
    ((Call prog clsT X d 171 [(2, 89), (1, 6941854)] ((mk E c s (hh g)))).bind fun r1 => if r1.1.1 = 4 then none else
    Ev prog clsT X d mc182 23 [(2, 89), (0, x1)] (pushR r1.1 []) r1.2) else none)
else
  (if (2 : Nat) = 2 ∧ rcv ((mk E c s (hh g))) 89 13 = true then
    ((Call prog clsT X d 184 [(2, 89)] ((mk E c s (hh g)))).bind fun r2 => if r2.1.1 = 4 then none else
    Ev prog clsT X d mc182 19 [(2, 89), (0, x1)] (pushR r2.1 []) r2.2) else none))) X [0, 3, 6, 12, 16, 19, 23, 28, 32, 37, 41] 5 rfl).trans (by simp (maxSteps := 10000000) only [R89_13, bindI, Option.bind_some, if_true_, and_self, ite_true, true_and, true_or, or_true])
set_option maxRecDepth 100000 in
theorem r182_19 (d : Nat) (x1 s0 : Int) : Ev prog clsT X d mc182 19 [(2, 89), (0, x1)] [(0, s0)] (mk E c s (hh g)) =
  (if (0 : Nat) = 0 ∧ one01 s0 = true then some ((0, s0), ((mk E c s (hh g)))) else none) :=
  (evk_at (r := (if (0 : Nat) = 0 ∧ one01 s0 = true then some ((0, s0), (mk E c s (hh g))) else none)) X [0, 3, 6, 12, 16, 19, 23, 28, 32, 37, 41] 2 rfl).trans (by simp (maxSteps := 10000000) only [bindI, Option.bind_some, if_true_, and_self, ite_true, true_and, true_or, or_true])
set_option maxRecDepth 100000 in
theorem r182_23 (d : Nat) (x1 s0 : Int) : Ev prog clsT X d mc182 23 [(2, 89), (0, x1)] [(0, s0)] (mk E c s (hh g)) =
  (if cmpI .eq s0 0 = true then
  ((Call prog clsT X d 171 [(2, 89), (1, 14828)] ((mk E c s (hh g)))).bind fun r1 => if r1.1.1 = 4 then none else
    Ev prog clsT X d mc182 32 [(2, 89), (0, x1)] (pushR r1.1 []) r1.2)
else
  ((Call prog clsT X d 173 [(2, 89), (0, 6), (0, 0)] ((mk E c s (hh g)))).bind fun r2 => if r2.1.1 = 4 then none else
    Ev prog clsT X d mc182 28 [(2, 89), (0, x1)] (pushR r2.1 []) r2.2)) :=
  (evk_at (r := (if cmpI .eq s0 0 = true then
  (if (2 : Nat) = 2 ∧ rcv ((mk E c s (hh g))) 89 13 = true then
    ((Call prog clsT X d 171 [(2, 89), (1, 14828)] ((mk E c s (hh g)))).bind fun r1 => if r1.1.1 = 4 then none else
    Ev prog clsT X d mc182 32 [(2, 89), (0, x1)] (pushR r1.1 []) r1.2) else none)
else
  (if (2 : Nat) = 2 ∧ rcv ((mk E c s (hh g))) 89 13 = true then
    ((Call prog clsT X d 173 [(2, 89), (0, 6), (0, 0)] ((mk E c s (hh g)))).bind fun r2 => if r2.1.1 = 4 then none else
    Ev prog clsT X d mc182 28 [(2, 89), (0, x1)] (pushR r2.1 []) r2.2) else none))) X [0, 3, 6, 12, 16, 19, 23, 28, 32, 37, 41] 6 rfl).trans (by simp (maxSteps := 10000000) only [R89_13, bindI, Option.bind_some, if_true_, and_self, ite_true, true_and, true_or, or_true])
set_option maxRecDepth 100000 in
theorem r182_28 (d : Nat) (x1 s0 : Int) : Ev prog clsT X d mc182 28 [(2, 89), (0, x1)] [(0, s0)] (mk E c s (hh g)) =
  (if (0 : Nat) = 0 ∧ one01 s0 = true then some ((0, s0), ((mk E c s (hh g)))) else none) :=
  (evk_at (r := (if (0 : Nat) = 0 ∧ one01 s0 = true then some ((0, s0), (mk E c s (hh g))) else none)) X [0, 3, 6, 12, 16, 19, 23, 28, 32, 37, 41] 2 rfl).trans (by simp (maxSteps := 10000000) only [bindI, Option.bind_some, if_true_, and_self, ite_true, true_and, true_or, or_true])
set_option maxRecDepth 100000 in
theorem r182_32 (d : Nat) (x1 s0 : Int) : Ev prog clsT X d mc182 32 [(2, 89), (0, x1)] [(0, s0)] (mk E c s (hh g)) =
  (if cmpI .eq s0 0 = true then
  ((Call prog clsT X d 172 [(2, 89), (0, 1)] ((mk E c s (hh g)))).bind fun r1 => if r1.1.1 = 4 then none else
    Ev prog clsT X d mc182 41 [(2, 89), (0, x1)] (pushR r1.1 []) r1.2)
else
  ((Call prog clsT X d 173 [(2, 89), (0, 7), (0, 0)] ((mk E c s (hh g)))).bind fun r2 => if r2.1.1 = 4 then none else
    Ev prog clsT X d mc182 37 [(2, 89), (0, x1)] (pushR r2.1 []) r2.2)) :=
  (evk_at (r := (if cmpI .eq s0 0 = true then
  (if (2 : Nat) = 2 ∧ rcv ((mk E c s (hh g))) 89 13 = true then
    ((Call prog clsT X d 172 [(2, 89), (0, 1)] ((mk E c s (hh g)))).bind fun r1 => if r1.1.1 = 4 then none else
    Ev prog clsT X d mc182 41 [(2, 89), (0, x1)] (pushR r1.1 []) r1.2) else none)
else
  (if (2 : Nat) = 2 ∧ rcv ((mk E c s (hh g))) 89 13 = true then
    ((Call prog clsT X d 173 [(2, 89), (0, 7), (0, 0)] ((mk E c s (hh g)))).bind fun r2 => if r2.1.1 = 4 then none else
    Ev prog clsT X d mc182 37 [(2, 89), (0, x1)] (pushR r2.1 []) r2.2) else none))) X [0, 3, 6, 12, 16, 19, 23, 28, 32, 37, 41] 6 rfl).trans (by simp (maxSteps := 10000000) only [R89_13, bindI, Option.bind_some, if_true_, and_self, ite_true, true_and, true_or, or_true])
set_option maxRecDepth 100000 in
theorem r182_37 (d : Nat) (x1 s0 : Int) : Ev prog clsT X d mc182 37 [(2, 89), (0, x1)] [(0, s0)] (mk E c s (hh g)) =
  (Ev prog clsT X d mc182 41 [(2, 89), (0, x1)] [(0, s0)] (mk E c s (hh g))) :=
  evk_at X [0, 3, 6, 12, 16, 19, 23, 28, 32, 37, 41] 3 rfl
set_option maxRecDepth 100000 in
theorem r182_41 (d : Nat) (x1 s0 : Int) : Ev prog clsT X d mc182 41 [(2, 89), (0, x1)] [(0, s0)] (mk E c s (hh g)) =
  (if (0 : Nat) = 0 ∧ one01 s0 = true then some ((0, s0), ((mk E c s (hh g)))) else none) :=
  (evk_at (r := (if (0 : Nat) = 0 ∧ one01 s0 = true then some ((0, s0), (mk E c s (hh g))) else none)) X [0, 3, 6, 12, 16, 19, 23, 28, 32, 37, 41] 2 rfl).trans (by simp (maxSteps := 10000000) only [bindI, Option.bind_some, if_true_, and_self, ite_true, true_and, true_or, or_true])
set_option maxRecDepth 100000 in
theorem r183_0 (d : Nat) : Ev prog clsT X d mc183 0 [(2, 89)] [] (mk E c s (hh g)) =
  (if cmpI .ne ((g 109 12)) 6 = true then
  ((Call prog clsT X d 167 [(2, 89)] ((mk E c s (hh g)))).bind fun r1 => if r1.1.1 = 4 then none else
    Ev prog clsT X d mc183 12 [(2, 89)] (pushR r1.1 []) r1.2)
else
  ((Call prog clsT X d 172 [(2, 89), (0, 5)] ((mk E c s (hh g)))).bind fun r2 => if r2.1.1 = 4 then none else
    Ev prog clsT X d mc183 9 [(2, 89)] (pushR r2.1 []) r2.2)) :=
  (evk_at (r := ((fget 6262 ((mk E c s (hh g))) 89).bind fun v1 =>
  (aget X 100 ((mk E c s (hh g))) v1 12).bind fun v2 =>
  if cmpI .ne v2 6 = true then
  (if (2 : Nat) = 2 ∧ rcv ((mk E c s (hh g))) 89 13 = true then
    ((Call prog clsT X d 167 [(2, 89)] ((mk E c s (hh g)))).bind fun r3 => if r3.1.1 = 4 then none else
    Ev prog clsT X d mc183 12 [(2, 89)] (pushR r3.1 []) r3.2) else none)
else
  (if (2 : Nat) = 2 ∧ rcv ((mk E c s (hh g))) 89 13 = true then
    ((Call prog clsT X d 172 [(2, 89), (0, 5)] ((mk E c s (hh g)))).bind fun r4 => if r4.1.1 = 4 then none else
    Ev prog clsT X d mc183 9 [(2, 89)] (pushR r4.1 []) r4.2) else none))) X [0, 9, 12, 19, 27, 41, 47] 10 rfl).trans (by simp (maxSteps := 10000000) only [R89_13, inbL 12 13 rfl, tn12, ↓A109, ↓F6262_89, bindI, Option.bind_some, if_true_, and_self, ite_true, true_and, true_or, or_true])
set_option maxRecDepth 100000 in
theorem rc183_ (d : Nat) : Call prog clsT X (d + 1) 183 [(2, 89)] (mk E c s (hh g)) =
  (if cmpI .ne ((g 109 12)) 6 = true then
  ((Call prog clsT X d 167 [(2, 89)] ((mk E c s (hh g)))).bind fun r1 => if r1.1.1 = 4 then none else
    Ev prog clsT X d mc183 12 [(2, 89)] (pushR r1.1 []) r1.2)
else
  ((Call prog clsT X d 172 [(2, 89), (0, 5)] ((mk E c s (hh g)))).bind fun r2 => if r2.1.1 = 4 then none else
    Ev prog clsT X d mc183 9 [(2, 89)] (pushR r2.1 []) r2.2)) :=
  (show Call prog clsT X (d + 1) 183 [(2, 89)] (mk E c s (hh g)) = Ev prog clsT X d mc183 0 [(2, 89)] [] (mk E c s (hh g)) from rfl).trans (r183_0 X E c s g d  )
set_option maxRecDepth 100000 in
theorem r183_9 (d : Nat) (s0 : Int) : Ev prog clsT X d mc183 9 [(2, 89)] [(0, s0)] (mk E c s (hh g)) =
  (if (0 : Nat) = 0 ∧ one01 s0 = true then some ((0, s0), ((mk E c s (hh g)))) else none) :=
  (evk_at (r := (if (0 : Nat) = 0 ∧ one01 s0 = true then some ((0, s0), (mk E c s (hh g))) else none)) X [0, 9, 12, 19, 27, 41, 47] 2 rfl).trans (by simp (maxSteps := 10000000) only [bindI, Option.bind_some, if_true_, and_self, ite_true, true_and, true_or, or_true])
set_option maxRecDepth 100000 in
theorem r183_12 (d : Nat) : Ev prog clsT X d mc183 12 [(2, 89)] [] (mk E c s (hh g)) =
  (if cmpI .eq ((g 89 22)) 2 = true then
  (if cmpI .le ((g 89 24)) 99 = true then
    (if inb ((w32 (108 + ((g 109 12))))) 117 = true then
      ((Call prog clsT X d 167 [(2, 89)] ((mk E c s (hh (up g 111 (Int.toNat ((w32 (108 + ((g 109 12)))))) ((g 89 24))))))).bind fun r1 => if r1.1.1 = 4 then none else
      Ev prog clsT X d mc183 41 [(2, 89)] (pushR r1.1 []) r1.2)
    else none)
  else
    ((Call prog clsT X d 172 [(2, 89), (0, 4)] ((mk E c s (hh g)))).bind fun r2 => if r2.1.1 = 4 then none else
      Ev prog clsT X d mc183 27 [(2, 89)] (pushR r2.1 []) r2.2))
else
  ((Call prog clsT X d 172 [(2, 89), (0, 1)] ((mk E c s (hh g)))).bind fun r3 => if r3.1.1 = 4 then none else
    Ev prog clsT X d mc183 19 [(2, 89)] (pushR r3.1 []) r3.2)) :=
  (evk_at (r := ((fget 6232 ((mk E c s (hh g))) 89).bind fun v1 =>
  if cmpI .eq v1 2 = true then
  ((fget 6240 ((mk E c s (hh g))) 89).bind fun v2 =>
    if cmpI .le v2 99 = true then
    ((fget 6270 ((mk E c s (hh g))) 89).bind fun v3 =>
      (fget 6262 ((mk E c s (hh g))) 89).bind fun v4 =>
      (aget X 100 ((mk E c s (hh g))) v4 12).bind fun v5 =>
      (fget 6240 ((mk E c s (hh g))) 89).bind fun v6 =>
      (aput 100 ((mk E c s (hh g))) v3 ((w32 (108 + v5))) (v6)).bind fun M7 =>
      if (2 : Nat) = 2 ∧ rcv M7 89 13 = true then
      ((Call prog clsT X d 167 [(2, 89)] M7).bind fun r8 => if r8.1.1 = 4 then none else
      Ev prog clsT X d mc183 41 [(2, 89)] (pushR r8.1 []) r8.2) else none)
  else
    (if (2 : Nat) = 2 ∧ rcv ((mk E c s (hh g))) 89 13 = true then
      ((Call prog clsT X d 172 [(2, 89), (0, 4)] ((mk E c s (hh g)))).bind fun r9 => if r9.1.1 = 4 then none else
      Ev prog clsT X d mc183 27 [(2, 89)] (pushR r9.1 []) r9.2) else none))
else
  (if (2 : Nat) = 2 ∧ rcv ((mk E c s (hh g))) 89 13 = true then
    ((Call prog clsT X d 172 [(2, 89), (0, 1)] ((mk E c s (hh g)))).bind fun r10 => if r10.1.1 = 4 then none else
    Ev prog clsT X d mc183 19 [(2, 89)] (pushR r10.1 []) r10.2) else none))) X [0, 9, 12, 19, 27, 41, 47] 22 rfl).trans (by simp (maxSteps := 10000000) only [R89_13, inbL 12 13 rfl, tn12, ↓A109, ↓F6232_89, ↓F6240_89, ↓F6262_89, ↓F6270_89, ↓S111, bindI, Option.bind_some, if_true_, and_self, ite_true, true_and, true_or, or_true])
set_option maxRecDepth 100000 in
theorem r183_19 (d : Nat) (s0 : Int) : Ev prog clsT X d mc183 19 [(2, 89)] [(0, s0)] (mk E c s (hh g)) =
  (if (0 : Nat) = 0 ∧ one01 s0 = true then some ((0, s0), ((mk E c s (hh g)))) else none) :=
  (evk_at (r := (if (0 : Nat) = 0 ∧ one01 s0 = true then some ((0, s0), (mk E c s (hh g))) else none)) X [0, 9, 12, 19, 27, 41, 47] 2 rfl).trans (by simp (maxSteps := 10000000) only [bindI, Option.bind_some, if_true_, and_self, ite_true, true_and, true_or, or_true])
set_option maxRecDepth 100000 in
theorem r183_27 (d : Nat) (s0 : Int) : Ev prog clsT X d mc183 27 [(2, 89)] [(0, s0)] (mk E c s (hh g)) =
  (if (0 : Nat) = 0 ∧ one01 s0 = true then some ((0, s0), ((mk E c s (hh g)))) else none) :=
  (evk_at (r := (if (0 : Nat) = 0 ∧ one01 s0 = true then some ((0, s0), (mk E c s (hh g))) else none)) X [0, 9, 12, 19, 27, 41, 47] 2 rfl).trans (by simp (maxSteps := 10000000) only [bindI, Option.bind_some, if_true_, and_self, ite_true, true_and, true_or, or_true])
set_option maxRecDepth 100000 in
theorem r183_41 (d : Nat) : Ev prog clsT X d mc183 41 [(2, 89)] [] (mk E c s (hh g)) =
  ((Call prog clsT X d 174 [(2, 89), (0, (g 109 12))] ((mk E c s (hh g)))).bind fun r1 => if r1.1.1 = 4 then none else
  Ev prog clsT X d mc183 47 [(2, 89)] (pushR r1.1 []) r1.2) :=
  (evk_at (r := ((fget 6262 ((mk E c s (hh g))) 89).bind fun v1 =>
  (aget X 100 ((mk E c s (hh g))) v1 12).bind fun v2 =>
  if (2 : Nat) = 2 ∧ rcv ((mk E c s (hh g))) 89 13 = true then
  ((Call prog clsT X d 174 [(2, 89), (0, v2)] ((mk E c s (hh g)))).bind fun r3 => if r3.1.1 = 4 then none else
  Ev prog clsT X d mc183 47 [(2, 89)] (pushR r3.1 []) r3.2) else none)) X [0, 9, 12, 19, 27, 41, 47] 7 rfl).trans (by simp (maxSteps := 10000000) only [R89_13, inbL 12 13 rfl, tn12, ↓A109, ↓F6262_89, bindI, Option.bind_some, if_true_, and_self, ite_true, true_and, true_or, or_true])
set_option maxRecDepth 100000 in
theorem r183_47 (d : Nat) (s0 : Int) : Ev prog clsT X d mc183 47 [(2, 89)] [(0, s0)] (mk E c s (hh g)) =
  (if cmpI .ne s0 0 = true then
  (some ((0, 1), ((mk E c s (hh (up g 109 12 ((w32 (((g 109 12)) + 1)))))))))
else
  (some ((0, 0), ((mk E c s (hh g)))))) :=
  (evk_at (r := (if cmpI .ne s0 0 = true then
  ((fget 6262 ((mk E c s (hh g))) 89).bind fun v1 =>
    (aget X 100 ((mk E c s (hh g))) v1 12).bind fun v2 =>
    (aput 100 ((mk E c s (hh g))) v1 12 ((w32 (v2 + 1)))).bind fun M3 =>
    some ((0, 1), M3))
else
  (some ((0, 0), (mk E c s (hh g)))))) X [0, 9, 12, 19, 27, 41, 47] 12 rfl).trans (by simp (maxSteps := 10000000) only [inbL 12 13 rfl, tn12, ↓A109, ↓F6262_89, ↓S109, bindI, Option.bind_some, if_true_, and_self, ite_true, true_and, true_or, or_true])
set_option maxRecDepth 100000 in
theorem r184_0 (d : Nat) : Ev prog clsT X d mc184 0 [(2, 89)] [] (mk E c s (hh g)) =
  (if cmpI .le ((g 107 12)) 0 = true then
  ((Call prog clsT X d 167 [(2, 89)] ((mk E c s (hh g)))).bind fun r1 => if r1.1.1 = 4 then none else
    Ev prog clsT X d mc184 11 [(2, 89)] (pushR r1.1 []) r1.2)
else
  ((Call prog clsT X d 172 [(2, 89), (0, 3)] ((mk E c s (hh g)))).bind fun r2 => if r2.1.1 = 4 then none else
    Ev prog clsT X d mc184 8 [(2, 89)] (pushR r2.1 []) r2.2)) :=
  (evk_at (r := ((fget 6254 ((mk E c s (hh g))) 89).bind fun v1 =>
  (aget X 100 ((mk E c s (hh g))) v1 12).bind fun v2 =>
  if cmpI .le v2 0 = true then
  (if (2 : Nat) = 2 ∧ rcv ((mk E c s (hh g))) 89 13 = true then
    ((Call prog clsT X d 167 [(2, 89)] ((mk E c s (hh g)))).bind fun r3 => if r3.1.1 = 4 then none else
    Ev prog clsT X d mc184 11 [(2, 89)] (pushR r3.1 []) r3.2) else none)
else
  (if (2 : Nat) = 2 ∧ rcv ((mk E c s (hh g))) 89 13 = true then
    ((Call prog clsT X d 172 [(2, 89), (0, 3)] ((mk E c s (hh g)))).bind fun r4 => if r4.1.1 = 4 then none else
    Ev prog clsT X d mc184 8 [(2, 89)] (pushR r4.1 []) r4.2) else none))) X [0, 8, 11, 18, 30, 39, 42, 46, 49, 56, 64, 73, 76, 80, 83] 9 rfl).trans (by simp (maxSteps := 10000000) only [R89_13, inbL 12 13 rfl, tn12, ↓A107, ↓F6254_89, bindI, Option.bind_some, if_true_, and_self, ite_true, true_and, true_or, or_true])
set_option maxRecDepth 100000 in
theorem rc184_ (d : Nat) : Call prog clsT X (d + 1) 184 [(2, 89)] (mk E c s (hh g)) =
  (if cmpI .le ((g 107 12)) 0 = true then
  ((Call prog clsT X d 167 [(2, 89)] ((mk E c s (hh g)))).bind fun r1 => if r1.1.1 = 4 then none else
    Ev prog clsT X d mc184 11 [(2, 89)] (pushR r1.1 []) r1.2)
else
  ((Call prog clsT X d 172 [(2, 89), (0, 3)] ((mk E c s (hh g)))).bind fun r2 => if r2.1.1 = 4 then none else
    Ev prog clsT X d mc184 8 [(2, 89)] (pushR r2.1 []) r2.2)) :=
  (show Call prog clsT X (d + 1) 184 [(2, 89)] (mk E c s (hh g)) = Ev prog clsT X d mc184 0 [(2, 89)] [] (mk E c s (hh g)) from rfl).trans (r184_0 X E c s g d  )
set_option maxRecDepth 100000 in
theorem r184_8 (d : Nat) (s0 : Int) : Ev prog clsT X d mc184 8 [(2, 89)] [(0, s0)] (mk E c s (hh g)) =
  (if (0 : Nat) = 0 ∧ one01 s0 = true then some ((0, s0), ((mk E c s (hh g)))) else none) :=
  (evk_at (r := (if (0 : Nat) = 0 ∧ one01 s0 = true then some ((0, s0), (mk E c s (hh g))) else none)) X [0, 8, 11, 18, 30, 39, 42, 46, 49, 56, 64, 73, 76, 80, 83] 2 rfl).trans (by simp (maxSteps := 10000000) only [bindI, Option.bind_some, if_true_, and_self, ite_true, true_and, true_or, or_true])
set_option maxRecDepth 100000 in
theorem r184_11 (d : Nat) : Ev prog clsT X d mc184 11 [(2, 89)] [] (mk E c s (hh g)) =
  (if cmpI .eq ((g 89 22)) 2 = true then
  (if cmpI .lt ((g 89 24)) 1 = true then
    ((Call prog clsT X d 172 [(2, 89), (0, 4)] ((mk E c s (hh g)))).bind fun r1 => if r1.1.1 = 4 then none else
      Ev prog clsT X d mc184 30 [(2, 89)] (pushR r1.1 []) r1.2)
  else
    (if cmpI .le ((g 89 24)) 8 = true then
      ((Call prog clsT X d 167 [(2, 89)] ((mk E c s (hh (up g 107 12 ((g 89 24))))))).bind fun r2 => if r2.1.1 = 4 then none else
        Ev prog clsT X d mc184 39 [(2, 89)] (pushR r2.1 []) r2.2)
    else
      ((Call prog clsT X d 172 [(2, 89), (0, 4)] ((mk E c s (hh g)))).bind fun r3 => if r3.1.1 = 4 then none else
        Ev prog clsT X d mc184 30 [(2, 89)] (pushR r3.1 []) r3.2)))
else
  ((Call prog clsT X d 172 [(2, 89), (0, 1)] ((mk E c s (hh g)))).bind fun r4 => if r4.1.1 = 4 then none else
    Ev prog clsT X d mc184 18 [(2, 89)] (pushR r4.1 []) r4.2)) :=
  (evk_at (r := ((fget 6232 ((mk E c s (hh g))) 89).bind fun v1 =>
  if cmpI .eq v1 2 = true then
  ((fget 6240 ((mk E c s (hh g))) 89).bind fun v2 =>
    if cmpI .lt v2 1 = true then
    (if (2 : Nat) = 2 ∧ rcv ((mk E c s (hh g))) 89 13 = true then
      ((Call prog clsT X d 172 [(2, 89), (0, 4)] ((mk E c s (hh g)))).bind fun r3 => if r3.1.1 = 4 then none else
      Ev prog clsT X d mc184 30 [(2, 89)] (pushR r3.1 []) r3.2) else none)
  else
    ((fget 6240 ((mk E c s (hh g))) 89).bind fun v4 =>
      if cmpI .le v4 8 = true then
      ((fget 6254 ((mk E c s (hh g))) 89).bind fun v5 =>
        (fget 6240 ((mk E c s (hh g))) 89).bind fun v6 =>
        (aput 100 ((mk E c s (hh g))) v5 12 (v6)).bind fun M7 =>
        if (2 : Nat) = 2 ∧ rcv M7 89 13 = true then
        ((Call prog clsT X d 167 [(2, 89)] M7).bind fun r8 => if r8.1.1 = 4 then none else
        Ev prog clsT X d mc184 39 [(2, 89)] (pushR r8.1 []) r8.2) else none)
    else
      (if (2 : Nat) = 2 ∧ rcv ((mk E c s (hh g))) 89 13 = true then
        ((Call prog clsT X d 172 [(2, 89), (0, 4)] ((mk E c s (hh g)))).bind fun r9 => if r9.1.1 = 4 then none else
        Ev prog clsT X d mc184 30 [(2, 89)] (pushR r9.1 []) r9.2) else none)))
else
  (if (2 : Nat) = 2 ∧ rcv ((mk E c s (hh g))) 89 13 = true then
    ((Call prog clsT X d 172 [(2, 89), (0, 1)] ((mk E c s (hh g)))).bind fun r10 => if r10.1.1 = 4 then none else
    Ev prog clsT X d mc184 18 [(2, 89)] (pushR r10.1 []) r10.2) else none))) X [0, 8, 11, 18, 30, 39, 42, 46, 49, 56, 64, 73, 76, 80, 83] 21 rfl).trans (by simp (maxSteps := 10000000) only [R89_13, inbL 12 13 rfl, tn12, ↓F6232_89, ↓F6240_89, ↓F6254_89, ↓S107, bindI, Option.bind_some, if_true_, and_self, ite_true, true_and, true_or, or_true])
set_option maxRecDepth 100000 in
theorem r184_18 (d : Nat) (s0 : Int) : Ev prog clsT X d mc184 18 [(2, 89)] [(0, s0)] (mk E c s (hh g)) =
  (if (0 : Nat) = 0 ∧ one01 s0 = true then some ((0, s0), ((mk E c s (hh g)))) else none) :=
  (evk_at (r := (if (0 : Nat) = 0 ∧ one01 s0 = true then some ((0, s0), (mk E c s (hh g))) else none)) X [0, 8, 11, 18, 30, 39, 42, 46, 49, 56, 64, 73, 76, 80, 83] 2 rfl).trans (by simp (maxSteps := 10000000) only [bindI, Option.bind_some, if_true_, and_self, ite_true, true_and, true_or, or_true])
set_option maxRecDepth 100000 in
theorem r184_30 (d : Nat) (s0 : Int) : Ev prog clsT X d mc184 30 [(2, 89)] [(0, s0)] (mk E c s (hh g)) =
  (if (0 : Nat) = 0 ∧ one01 s0 = true then some ((0, s0), ((mk E c s (hh g)))) else none) :=
  (evk_at (r := (if (0 : Nat) = 0 ∧ one01 s0 = true then some ((0, s0), (mk E c s (hh g))) else none)) X [0, 8, 11, 18, 30, 39, 42, 46, 49, 56, 64, 73, 76, 80, 83] 2 rfl).trans (by simp (maxSteps := 10000000) only [bindI, Option.bind_some, if_true_, and_self, ite_true, true_and, true_or, or_true])
set_option maxRecDepth 100000 in
theorem r184_39 (d : Nat) : Ev prog clsT X d mc184 39 [(2, 89)] [] (mk E c s (hh g)) =
  ((Call prog clsT X d 171 [(2, 89), (1, 223456)] ((mk E c s (hh g)))).bind fun r1 => if r1.1.1 = 4 then none else
  Ev prog clsT X d mc184 42 [(2, 89)] (pushR r1.1 []) r1.2) :=
  (evk_at (r := (if (2 : Nat) = 2 ∧ rcv ((mk E c s (hh g))) 89 13 = true then
  ((Call prog clsT X d 171 [(2, 89), (1, 223456)] ((mk E c s (hh g)))).bind fun r1 => if r1.1.1 = 4 then none else
  Ev prog clsT X d mc184 42 [(2, 89)] (pushR r1.1 []) r1.2) else none)) X [0, 8, 11, 18, 30, 39, 42, 46, 49, 56, 64, 73, 76, 80, 83] 4 rfl).trans (by simp (maxSteps := 10000000) only [R89_13, bindI, Option.bind_some, if_true_, and_self, ite_true, true_and, true_or, or_true])
set_option maxRecDepth 100000 in
theorem r184_42 (d : Nat) (s0 : Int) : Ev prog clsT X d mc184 42 [(2, 89)] [(0, s0)] (mk E c s (hh g)) =
  (if cmpI .ne s0 0 = true then
  ((Call prog clsT X d 167 [(2, 89)] ((mk E c s (hh g)))).bind fun r1 => if r1.1.1 = 4 then none else
    Ev prog clsT X d mc184 49 [(2, 89)] (pushR r1.1 []) r1.2)
else
  ((Call prog clsT X d 172 [(2, 89), (0, 1)] ((mk E c s (hh g)))).bind fun r2 => if r2.1.1 = 4 then none else
    Ev prog clsT X d mc184 46 [(2, 89)] (pushR r2.1 []) r2.2)) :=
  (evk_at (r := (if cmpI .ne s0 0 = true then
  (if (2 : Nat) = 2 ∧ rcv ((mk E c s (hh g))) 89 13 = true then
    ((Call prog clsT X d 167 [(2, 89)] ((mk E c s (hh g)))).bind fun r1 => if r1.1.1 = 4 then none else
    Ev prog clsT X d mc184 49 [(2, 89)] (pushR r1.1 []) r1.2) else none)
else
  (if (2 : Nat) = 2 ∧ rcv ((mk E c s (hh g))) 89 13 = true then
    ((Call prog clsT X d 172 [(2, 89), (0, 1)] ((mk E c s (hh g)))).bind fun r2 => if r2.1.1 = 4 then none else
    Ev prog clsT X d mc184 46 [(2, 89)] (pushR r2.1 []) r2.2) else none))) X [0, 8, 11, 18, 30, 39, 42, 46, 49, 56, 64, 73, 76, 80, 83] 5 rfl).trans (by simp (maxSteps := 10000000) only [R89_13, bindI, Option.bind_some, if_true_, and_self, ite_true, true_and, true_or, or_true])
set_option maxRecDepth 100000 in
theorem r184_46 (d : Nat) (s0 : Int) : Ev prog clsT X d mc184 46 [(2, 89)] [(0, s0)] (mk E c s (hh g)) =
  (if (0 : Nat) = 0 ∧ one01 s0 = true then some ((0, s0), ((mk E c s (hh g)))) else none) :=
  (evk_at (r := (if (0 : Nat) = 0 ∧ one01 s0 = true then some ((0, s0), (mk E c s (hh g))) else none)) X [0, 8, 11, 18, 30, 39, 42, 46, 49, 56, 64, 73, 76, 80, 83] 2 rfl).trans (by simp (maxSteps := 10000000) only [bindI, Option.bind_some, if_true_, and_self, ite_true, true_and, true_or, or_true])
set_option maxRecDepth 100000 in
theorem r184_49 (d : Nat) : Ev prog clsT X d mc184 49 [(2, 89)] [] (mk E c s (hh g)) =
  (if cmpI .eq ((g 89 22)) 2 = true then
  (if cmpI .le ((g 89 24)) 9 = true then
    ((Call prog clsT X d 167 [(2, 89)] ((mk E c s (hh (up g 108 12 ((g 89 24))))))).bind fun r1 => if r1.1.1 = 4 then none else
      Ev prog clsT X d mc184 73 [(2, 89)] (pushR r1.1 []) r1.2)
  else
    ((Call prog clsT X d 172 [(2, 89), (0, 4)] ((mk E c s (hh g)))).bind fun r2 => if r2.1.1 = 4 then none else
      Ev prog clsT X d mc184 64 [(2, 89)] (pushR r2.1 []) r2.2))
else
  ((Call prog clsT X d 172 [(2, 89), (0, 1)] ((mk E c s (hh g)))).bind fun r3 => if r3.1.1 = 4 then none else
    Ev prog clsT X d mc184 56 [(2, 89)] (pushR r3.1 []) r3.2)) :=
  (evk_at (r := ((fget 6232 ((mk E c s (hh g))) 89).bind fun v1 =>
  if cmpI .eq v1 2 = true then
  ((fget 6240 ((mk E c s (hh g))) 89).bind fun v2 =>
    if cmpI .le v2 9 = true then
    ((fget 6258 ((mk E c s (hh g))) 89).bind fun v3 =>
      (fget 6240 ((mk E c s (hh g))) 89).bind fun v4 =>
      (aput 100 ((mk E c s (hh g))) v3 12 (v4)).bind fun M5 =>
      if (2 : Nat) = 2 ∧ rcv M5 89 13 = true then
      ((Call prog clsT X d 167 [(2, 89)] M5).bind fun r6 => if r6.1.1 = 4 then none else
      Ev prog clsT X d mc184 73 [(2, 89)] (pushR r6.1 []) r6.2) else none)
  else
    (if (2 : Nat) = 2 ∧ rcv ((mk E c s (hh g))) 89 13 = true then
      ((Call prog clsT X d 172 [(2, 89), (0, 4)] ((mk E c s (hh g)))).bind fun r7 => if r7.1.1 = 4 then none else
      Ev prog clsT X d mc184 64 [(2, 89)] (pushR r7.1 []) r7.2) else none))
else
  (if (2 : Nat) = 2 ∧ rcv ((mk E c s (hh g))) 89 13 = true then
    ((Call prog clsT X d 172 [(2, 89), (0, 1)] ((mk E c s (hh g)))).bind fun r8 => if r8.1.1 = 4 then none else
    Ev prog clsT X d mc184 56 [(2, 89)] (pushR r8.1 []) r8.2) else none))) X [0, 8, 11, 18, 30, 39, 42, 46, 49, 56, 64, 73, 76, 80, 83] 17 rfl).trans (by simp (maxSteps := 10000000) only [R89_13, inbL 12 13 rfl, tn12, ↓F6232_89, ↓F6240_89, ↓F6258_89, ↓S108, bindI, Option.bind_some, if_true_, and_self, ite_true, true_and, true_or, or_true])
set_option maxRecDepth 100000 in
theorem r184_56 (d : Nat) (s0 : Int) : Ev prog clsT X d mc184 56 [(2, 89)] [(0, s0)] (mk E c s (hh g)) =
  (if (0 : Nat) = 0 ∧ one01 s0 = true then some ((0, s0), ((mk E c s (hh g)))) else none) :=
  (evk_at (r := (if (0 : Nat) = 0 ∧ one01 s0 = true then some ((0, s0), (mk E c s (hh g))) else none)) X [0, 8, 11, 18, 30, 39, 42, 46, 49, 56, 64, 73, 76, 80, 83] 2 rfl).trans (by simp (maxSteps := 10000000) only [bindI, Option.bind_some, if_true_, and_self, ite_true, true_and, true_or, or_true])
set_option maxRecDepth 100000 in
theorem r184_64 (d : Nat) (s0 : Int) : Ev prog clsT X d mc184 64 [(2, 89)] [(0, s0)] (mk E c s (hh g)) =
  (if (0 : Nat) = 0 ∧ one01 s0 = true then some ((0, s0), ((mk E c s (hh g)))) else none) :=
  (evk_at (r := (if (0 : Nat) = 0 ∧ one01 s0 = true then some ((0, s0), (mk E c s (hh g))) else none)) X [0, 8, 11, 18, 30, 39, 42, 46, 49, 56, 64, 73, 76, 80, 83] 2 rfl).trans (by simp (maxSteps := 10000000) only [bindI, Option.bind_some, if_true_, and_self, ite_true, true_and, true_or, or_true])
set_option maxRecDepth 100000 in
theorem r184_73 (d : Nat) : Ev prog clsT X d mc184 73 [(2, 89)] [] (mk E c s (hh g)) =
  ((Call prog clsT X d 180 [(2, 89), (0, 59)] ((mk E c s (hh g)))).bind fun r1 => if r1.1.1 = 4 then none else
  Ev prog clsT X d mc184 76 [(2, 89)] (pushR r1.1 []) r1.2) :=
  (evk_at (r := (if (2 : Nat) = 2 ∧ rcv ((mk E c s (hh g))) 89 13 = true then
  ((Call prog clsT X d 180 [(2, 89), (0, 59)] ((mk E c s (hh g)))).bind fun r1 => if r1.1.1 = 4 then none else
  Ev prog clsT X d mc184 76 [(2, 89)] (pushR r1.1 []) r1.2) else none)) X [0, 8, 11, 18, 30, 39, 42, 46, 49, 56, 64, 73, 76, 80, 83] 4 rfl).trans (by simp (maxSteps := 10000000) only [R89_13, bindI, Option.bind_some, if_true_, and_self, ite_true, true_and, true_or, or_true])
set_option maxRecDepth 100000 in
theorem r184_76 (d : Nat) (s0 : Int) : Ev prog clsT X d mc184 76 [(2, 89)] [(0, s0)] (mk E c s (hh g)) =
  (if cmpI .ne s0 0 = true then
  ((Call prog clsT X d 167 [(2, 89)] ((mk E c s (hh g)))).bind fun r1 => if r1.1.1 = 4 then none else
    Ev prog clsT X d mc184 83 [(2, 89)] (pushR r1.1 []) r1.2)
else
  ((Call prog clsT X d 172 [(2, 89), (0, 1)] ((mk E c s (hh g)))).bind fun r2 => if r2.1.1 = 4 then none else
    Ev prog clsT X d mc184 80 [(2, 89)] (pushR r2.1 []) r2.2)) :=
  (evk_at (r := (if cmpI .ne s0 0 = true then
  (if (2 : Nat) = 2 ∧ rcv ((mk E c s (hh g))) 89 13 = true then
    ((Call prog clsT X d 167 [(2, 89)] ((mk E c s (hh g)))).bind fun r1 => if r1.1.1 = 4 then none else
    Ev prog clsT X d mc184 83 [(2, 89)] (pushR r1.1 []) r1.2) else none)
else
  (if (2 : Nat) = 2 ∧ rcv ((mk E c s (hh g))) 89 13 = true then
    ((Call prog clsT X d 172 [(2, 89), (0, 1)] ((mk E c s (hh g)))).bind fun r2 => if r2.1.1 = 4 then none else
    Ev prog clsT X d mc184 80 [(2, 89)] (pushR r2.1 []) r2.2) else none))) X [0, 8, 11, 18, 30, 39, 42, 46, 49, 56, 64, 73, 76, 80, 83] 5 rfl).trans (by simp (maxSteps := 10000000) only [R89_13, bindI, Option.bind_some, if_true_, and_self, ite_true, true_and, true_or, or_true])
set_option maxRecDepth 100000 in
theorem r184_80 (d : Nat) (s0 : Int) : Ev prog clsT X d mc184 80 [(2, 89)] [(0, s0)] (mk E c s (hh g)) =
  (if (0 : Nat) = 0 ∧ one01 s0 = true then some ((0, s0), ((mk E c s (hh g)))) else none) :=
  (evk_at (r := (if (0 : Nat) = 0 ∧ one01 s0 = true then some ((0, s0), (mk E c s (hh g))) else none)) X [0, 8, 11, 18, 30, 39, 42, 46, 49, 56, 64, 73, 76, 80, 83] 2 rfl).trans (by simp (maxSteps := 10000000) only [bindI, Option.bind_some, if_true_, and_self, ite_true, true_and, true_or, or_true])
set_option maxRecDepth 100000 in
theorem r184_83 (d : Nat) : Ev prog clsT X d mc184 83 [(2, 89)] [] (mk E c s (hh g)) =
  (some ((0, 1), ((mk E c s (hh g))))) :=
  (evk_at (r := (some ((0, 1), (mk E c s (hh g))))) X [0, 8, 11, 18, 30, 39, 42, 46, 49, 56, 64, 73, 76, 80, 83] 3 rfl).trans (by simp (maxSteps := 10000000) only [bindI, Option.bind_some, if_true_, and_self, ite_true, true_and, true_or, or_true])
set_option maxRecDepth 100000 in
theorem r185_0 (d : Nat) : Ev prog clsT X d mc185 0 [(2, 89)] [] (mk E c s (hh g)) =
  ((Call prog clsT X d 166 [(2, 89)] ((mk E c s (hh (up g 89 0 0))))).bind fun r1 => if r1.1.1 = 4 then none else
  Ev prog clsT X d mc185 5 [(2, 89)] (pushR r1.1 []) r1.2) :=
  (evk_at (r := ((fput 6144 ((mk E c s (hh g))) 89 0).bind fun M1 =>
  if (2 : Nat) = 2 ∧ rcv M1 89 13 = true then
  ((Call prog clsT X d 166 [(2, 89)] M1).bind fun r2 => if r2.1.1 = 4 then none else
  Ev prog clsT X d mc185 5 [(2, 89)] (pushR r2.1 []) r2.2) else none)) X [0, 5, 8] 6 rfl).trans (by simp (maxSteps := 10000000) only [R89_13, ↓W6144_89, bindI, Option.bind_some, if_true_, and_self, ite_true, true_and, true_or, or_true])
set_option maxRecDepth 100000 in
theorem rc185_ (d : Nat) : Call prog clsT X (d + 1) 185 [(2, 89)] (mk E c s (hh g)) =
  ((Call prog clsT X d 166 [(2, 89)] ((mk E c s (hh (up g 89 0 0))))).bind fun r1 => if r1.1.1 = 4 then none else
  Ev prog clsT X d mc185 5 [(2, 89)] (pushR r1.1 []) r1.2) :=
  (show Call prog clsT X (d + 1) 185 [(2, 89)] (mk E c s (hh g)) = Ev prog clsT X d mc185 0 [(2, 89)] [] (mk E c s (hh g)) from rfl).trans (r185_0 X E c s g d  )
set_option maxRecDepth 100000 in
theorem r185_5 (d : Nat) : Ev prog clsT X d mc185 5 [(2, 89)] [] (mk E c s (hh g)) =
  ((Call prog clsT X d 169 [(2, 89), (0, 10)] ((mk E c s (hh g)))).bind fun r1 => if r1.1.1 = 4 then none else
  Ev prog clsT X d mc185 8 [(2, 89)] (pushR r1.1 []) r1.2) :=
  (evk_at (r := (if (2 : Nat) = 2 ∧ rcv ((mk E c s (hh g))) 89 13 = true then
  ((Call prog clsT X d 169 [(2, 89), (0, 10)] ((mk E c s (hh g)))).bind fun r1 => if r1.1.1 = 4 then none else
  Ev prog clsT X d mc185 8 [(2, 89)] (pushR r1.1 []) r1.2) else none)) X [0, 5, 8] 4 rfl).trans (by simp (maxSteps := 10000000) only [R89_13, bindI, Option.bind_some, if_true_, and_self, ite_true, true_and, true_or, or_true])
set_option maxRecDepth 100000 in
theorem r185_8 (d : Nat) (s0 : Int) : Ev prog clsT X d mc185 8 [(2, 89)] [(0, s0)] (mk E c s (hh g)) =
  (some ((0, s0), ((mk E c s (hh g))))) :=
  (evk_at (r := (some ((0, s0), (mk E c s (hh g))))) X [0, 5, 8] 2 rfl).trans (by simp (maxSteps := 10000000) only [bindI, Option.bind_some, if_true_, and_self, ite_true, true_and, true_or, or_true])
set_option maxRecDepth 100000 in
theorem r186_0 (d : Nat) : Ev prog clsT X d mc186 0 [(2, 89)] [] (mk E c s (hh g)) =
  ((Call prog clsT X d 166 [(2, 89)] ((mk E c s (hh (up g 89 0 0))))).bind fun r1 => if r1.1.1 = 4 then none else
  Ev prog clsT X d mc186 5 [(2, 89)] (pushR r1.1 []) r1.2) :=
  (evk_at (r := ((fput 6144 ((mk E c s (hh g))) 89 0).bind fun M1 =>
  if (2 : Nat) = 2 ∧ rcv M1 89 13 = true then
  ((Call prog clsT X d 166 [(2, 89)] M1).bind fun r2 => if r2.1.1 = 4 then none else
  Ev prog clsT X d mc186 5 [(2, 89)] (pushR r2.1 []) r2.2) else none)) X [0, 5, 8] 6 rfl).trans (by simp (maxSteps := 10000000) only [R89_13, ↓W6144_89, bindI, Option.bind_some, if_true_, and_self, ite_true, true_and, true_or, or_true])
set_option maxRecDepth 100000 in
theorem rc186_ (d : Nat) : Call prog clsT X (d + 1) 186 [(2, 89)] (mk E c s (hh g)) =
  ((Call prog clsT X d 166 [(2, 89)] ((mk E c s (hh (up g 89 0 0))))).bind fun r1 => if r1.1.1 = 4 then none else
  Ev prog clsT X d mc186 5 [(2, 89)] (pushR r1.1 []) r1.2) :=
  (show Call prog clsT X (d + 1) 186 [(2, 89)] (mk E c s (hh g)) = Ev prog clsT X d mc186 0 [(2, 89)] [] (mk E c s (hh g)) from rfl).trans (r186_0 X E c s g d  )
set_option maxRecDepth 100000 in
theorem r186_5 (d : Nat) : Ev prog clsT X d mc186 5 [(2, 89)] [] (mk E c s (hh g)) =
  ((Call prog clsT X d 169 [(2, 89), (0, 11)] ((mk E c s (hh g)))).bind fun r1 => if r1.1.1 = 4 then none else
  Ev prog clsT X d mc186 8 [(2, 89)] (pushR r1.1 []) r1.2) :=
  (evk_at (r := (if (2 : Nat) = 2 ∧ rcv ((mk E c s (hh g))) 89 13 = true then
  ((Call prog clsT X d 169 [(2, 89), (0, 11)] ((mk E c s (hh g)))).bind fun r1 => if r1.1.1 = 4 then none else
  Ev prog clsT X d mc186 8 [(2, 89)] (pushR r1.1 []) r1.2) else none)) X [0, 5, 8] 4 rfl).trans (by simp (maxSteps := 10000000) only [R89_13, bindI, Option.bind_some, if_true_, and_self, ite_true, true_and, true_or, or_true])
set_option maxRecDepth 100000 in
theorem r186_8 (d : Nat) (s0 : Int) : Ev prog clsT X d mc186 8 [(2, 89)] [(0, s0)] (mk E c s (hh g)) =
  (some ((0, s0), ((mk E c s (hh g))))) :=
  (evk_at (r := (some ((0, s0), (mk E c s (hh g))))) X [0, 5, 8] 2 rfl).trans (by simp (maxSteps := 10000000) only [bindI, Option.bind_some, if_true_, and_self, ite_true, true_and, true_or, or_true])
set_option maxRecDepth 100000 in
theorem r187_0 (d : Nat) (x1 : Int) : Ev prog clsT X d mc187 0 [(2, 89), (0, x1)] [] (mk E c s (hh g)) =
  ((Call prog clsT X d 162 [(2, 89), (0, x1)] ((mk E c s (hh g)))).bind fun r1 => if r1.1.1 = 4 then none else
  Ev prog clsT X d mc187 4 [(2, 89), (0, x1)] (pushR r1.1 [(2, 89)]) r1.2) :=
  (evk_at (r := (if (2 : Nat) = 2 ∧ rcv ((mk E c s (hh g))) 89 13 = true then
  ((Call prog clsT X d 162 [(2, 89), (0, x1)] ((mk E c s (hh g)))).bind fun r1 => if r1.1.1 = 4 then none else
  Ev prog clsT X d mc187 4 [(2, 89), (0, x1)] (pushR r1.1 [(2, 89)]) r1.2) else none)) X [0, 4, 18] 5 rfl).trans (by simp (maxSteps := 10000000) only [R89_13, bindI, Option.bind_some, if_true_, and_self, ite_true, true_and, true_or, or_true])
set_option maxRecDepth 100000 in
theorem rc187_ (d : Nat) (x1 : Int) : Call prog clsT X (d + 1) 187 [(2, 89), (0, x1)] (mk E c s (hh g)) =
  ((Call prog clsT X d 162 [(2, 89), (0, x1)] ((mk E c s (hh g)))).bind fun r1 => if r1.1.1 = 4 then none else
  Ev prog clsT X d mc187 4 [(2, 89), (0, x1)] (pushR r1.1 [(2, 89)]) r1.2) :=
  (show Call prog clsT X (d + 1) 187 [(2, 89), (0, x1)] (mk E c s (hh g)) = Ev prog clsT X d mc187 0 [(2, 89), (0, x1)] [] (mk E c s (hh g)) from rfl).trans (r187_0 X E c s g d x1 )
set_option maxRecDepth 100000 in
theorem r187_4 (d : Nat) (x1 s1 : Int) : Ev prog clsT X d mc187 4 [(2, 89), (0, x1)] [(0, s1), (2, 89)] (mk E c s (hh g)) =
  (if cmpI .eq s1 0 = true then
  (if cmpI .ne 1 1 = true then
    ((Call prog clsT X d 188 [(2, 89), (0, x1)] ((mk E c s (hh (up g 89 0 1))))).bind fun r1 => if r1.1.1 = 4 then none else
      Ev prog clsT X d mc187 18 [(2, 89), (0, x1)] (pushR r1.1 []) r1.2)
  else
    (Ev prog clsT X d mc187 18 [(2, 89), (0, x1)] [(0, 0)] (mk E c s (hh (up g 89 0 1)))))
else
  (if cmpI .ne 0 1 = true then
    ((Call prog clsT X d 188 [(2, 89), (0, x1)] ((mk E c s (hh (up g 89 0 0))))).bind fun r2 => if r2.1.1 = 4 then none else
      Ev prog clsT X d mc187 18 [(2, 89), (0, x1)] (pushR r2.1 []) r2.2)
  else
    (Ev prog clsT X d mc187 18 [(2, 89), (0, x1)] [(0, 0)] (mk E c s (hh (up g 89 0 0)))))) :=
  (evk_at (r := (if cmpI .eq s1 0 = true then
  ((fput 6144 ((mk E c s (hh g))) 89 1).bind fun M1 =>
    (fget 6144 M1 89).bind fun v2 =>
    if cmpI .ne v2 1 = true then
    (if (2 : Nat) = 2 ∧ rcv M1 89 13 = true then
      ((Call prog clsT X d 188 [(2, 89), (0, x1)] M1).bind fun r3 => if r3.1.1 = 4 then none else
      Ev prog clsT X d mc187 18 [(2, 89), (0, x1)] (pushR r3.1 []) r3.2) else none)
  else
    (Ev prog clsT X d mc187 18 [(2, 89), (0, x1)] [(0, 0)] M1))
else
  ((fput 6144 ((mk E c s (hh g))) 89 0).bind fun M4 =>
    (fget 6144 M4 89).bind fun v5 =>
    if cmpI .ne v5 1 = true then
    (if (2 : Nat) = 2 ∧ rcv M4 89 13 = true then
      ((Call prog clsT X d 188 [(2, 89), (0, x1)] M4).bind fun r6 => if r6.1.1 = 4 then none else
      Ev prog clsT X d mc187 18 [(2, 89), (0, x1)] (pushR r6.1 []) r6.2) else none)
  else
    (Ev prog clsT X d mc187 18 [(2, 89), (0, x1)] [(0, 0)] M4)))) X [0, 4, 18] 12 rfl).trans (by simp (maxSteps := 10000000) only [R89_13, up_same, ↓F6144_89, ↓W6144_89, bindI, Option.bind_some, if_true_, and_self, ite_true, true_and, true_or, or_true])
set_option maxRecDepth 100000 in
theorem r187_18 (d : Nat) (x1 s0 : Int) : Ev prog clsT X d mc187 18 [(2, 89), (0, x1)] [(0, s0)] (mk E c s (hh g)) =
  (some ((0, s0), ((mk E c s (hh g))))) :=
  (evk_at (r := (some ((0, s0), (mk E c s (hh g))))) X [0, 4, 18] 2 rfl).trans (by simp (maxSteps := 10000000) only [bindI, Option.bind_some, if_true_, and_self, ite_true, true_and, true_or, or_true])
set_option maxRecDepth 100000 in
theorem r188_0 (d : Nat) (x1 : Int) : Ev prog clsT X d mc188 0 [(2, 89), (0, x1)] [] (mk E c s (hh g)) =
  ((Call prog clsT X d 189 [(2, 89), (0, x1)] ((mk E c s (hh g)))).bind fun r1 => if r1.1.1 = 4 then none else
  Ev prog clsT X d mc188 3 [(2, 89), (0, x1)] (pushR r1.1 []) r1.2) :=
  (evk_at (r := (if (2 : Nat) = 2 ∧ rcv ((mk E c s (hh g))) 89 13 = true then
  ((Call prog clsT X d 189 [(2, 89), (0, x1)] ((mk E c s (hh g)))).bind fun r1 => if r1.1.1 = 4 then none else
  Ev prog clsT X d mc188 3 [(2, 89), (0, x1)] (pushR r1.1 []) r1.2) else none)) X [0, 3, 9] 4 rfl).trans (by simp (maxSteps := 10000000) only [R89_13, bindI, Option.bind_some, if_true_, and_self, ite_true, true_and, true_or, or_true])
set_option maxRecDepth 100000 in
theorem rc188_ (d : Nat) (x1 : Int) : Call prog clsT X (d + 1) 188 [(2, 89), (0, x1)] (mk E c s (hh g)) =
  ((Call prog clsT X d 189 [(2, 89), (0, x1)] ((mk E c s (hh g)))).bind fun r1 => if r1.1.1 = 4 then none else
  Ev prog clsT X d mc188 3 [(2, 89), (0, x1)] (pushR r1.1 []) r1.2) :=
  (show Call prog clsT X (d + 1) 188 [(2, 89), (0, x1)] (mk E c s (hh g)) = Ev prog clsT X d mc188 0 [(2, 89), (0, x1)] [] (mk E c s (hh g)) from rfl).trans (r188_0 X E c s g d x1 )
set_option maxRecDepth 100000 in
theorem r188_3 (d : Nat) (x1 : Int) : Ev prog clsT X d mc188 3 [(2, 89), (0, x1)] [] (mk E c s (hh g)) =
  (if inb x1 40 = true then
  ((Call prog clsT X d 192 [(2, 89), (0, (g 99 (Int.toNat x1)))] ((mk E c s (hh g)))).bind fun r1 => if r1.1.1 = 4 then none else
  Ev prog clsT X d mc188 9 [(2, 89), (0, x1)] (pushR r1.1 []) r1.2)
else none) :=
  (evk_at (r := ((fget 6190 ((mk E c s (hh g))) 89).bind fun v1 =>
  (aget X 100 ((mk E c s (hh g))) v1 x1).bind fun v2 =>
  if (2 : Nat) = 2 ∧ rcv ((mk E c s (hh g))) 89 13 = true then
  ((Call prog clsT X d 192 [(2, 89), (0, v2)] ((mk E c s (hh g)))).bind fun r3 => if r3.1.1 = 4 then none else
  Ev prog clsT X d mc188 9 [(2, 89), (0, x1)] (pushR r3.1 []) r3.2) else none)) X [0, 3, 9] 7 rfl).trans (by simp (maxSteps := 10000000) only [R89_13, ↓A99, ↓F6190_89, bindI, Option.bind_some, if_true_, and_self, ite_true, true_and, true_or, or_true])
set_option maxRecDepth 100000 in
theorem r188_9 (d : Nat) (x1 s0 : Int) : Ev prog clsT X d mc188 9 [(2, 89), (0, x1)] [(0, s0)] (mk E c s (hh g)) =
  (some ((0, s0), ((mk E c s (hh g))))) :=
  (evk_at (r := (some ((0, s0), (mk E c s (hh g))))) X [0, 3, 9] 2 rfl).trans (by simp (maxSteps := 10000000) only [bindI, Option.bind_some, if_true_, and_self, ite_true, true_and, true_or, or_true])
set_option maxRecDepth 100000 in
theorem r189_0 (d : Nat) (x1 : Int) : Ev prog clsT X d mc189 0 [(2, 89), (0, x1)] [] (mk E c s (hh g)) =
  (if inb x1 40 = true then
  (if inb x1 40 = true then
  (if inb x1 40 = true then
  (if inb x1 40 = true then
  (if inb x1 40 = true then
  ((Call prog clsT X d 190 [(2, 89), (0, (g 99 (Int.toNat x1))), (0, (g 100 (Int.toNat x1)))] ((mk E c s (hh g)))).bind fun r1 => if r1.1.1 = 4 then none else
  Ev prog clsT X d mc189 23 [(2, 89), (0, x1)] (pushR r1.1 [(1, (g 101 (Int.toNat x1))), (0, (g 100 (Int.toNat x1))), (0, (g 99 (Int.toNat x1))), (2, 89)]) r1.2)
else none)
else none)
else none)
else none)
else none) :=
  (evk_at (r := ((fget 6190 ((mk E c s (hh g))) 89).bind fun v1 =>
  (aget X 100 ((mk E c s (hh g))) v1 x1).bind fun v2 =>
  (fget 6194 ((mk E c s (hh g))) 89).bind fun v3 =>
  (aget X 100 ((mk E c s (hh g))) v3 x1).bind fun v4 =>
  (fget 6198 ((mk E c s (hh g))) 89).bind fun v5 =>
  (aget X 101 ((mk E c s (hh g))) v5 x1).bind fun v6 =>
  (fget 6190 ((mk E c s (hh g))) 89).bind fun v7 =>
  (aget X 100 ((mk E c s (hh g))) v7 x1).bind fun v8 =>
  (fget 6194 ((mk E c s (hh g))) 89).bind fun v9 =>
  (aget X 100 ((mk E c s (hh g))) v9 x1).bind fun v10 =>
  if (2 : Nat) = 2 ∧ rcv ((mk E c s (hh g))) 89 13 = true then
  ((Call prog clsT X d 190 [(2, 89), (0, v8), (0, v10)] ((mk E c s (hh g)))).bind fun r11 => if r11.1.1 = 4 then none else
  Ev prog clsT X d mc189 23 [(2, 89), (0, x1)] (pushR r11.1 [(1, v6), (0, v4), (0, v2), (2, 89)]) r11.2) else none)) X [0, 23, 24] 24 rfl).trans (by simp (maxSteps := 10000000) only [R89_13, ↓A100, ↓A101, ↓A99, ↓F6190_89, ↓F6194_89, ↓F6198_89, bindI, Option.bind_some, if_true_, and_self, ite_true, true_and, true_or, or_true])
set_option maxRecDepth 100000 in
theorem rc189_ (d : Nat) (x1 : Int) : Call prog clsT X (d + 1) 189 [(2, 89), (0, x1)] (mk E c s (hh g)) =
  (if inb x1 40 = true then
  (if inb x1 40 = true then
  (if inb x1 40 = true then
  (if inb x1 40 = true then
  (if inb x1 40 = true then
  ((Call prog clsT X d 190 [(2, 89), (0, (g 99 (Int.toNat x1))), (0, (g 100 (Int.toNat x1)))] ((mk E c s (hh g)))).bind fun r1 => if r1.1.1 = 4 then none else
  Ev prog clsT X d mc189 23 [(2, 89), (0, x1)] (pushR r1.1 [(1, (g 101 (Int.toNat x1))), (0, (g 100 (Int.toNat x1))), (0, (g 99 (Int.toNat x1))), (2, 89)]) r1.2)
else none)
else none)
else none)
else none)
else none) :=
  (show Call prog clsT X (d + 1) 189 [(2, 89), (0, x1)] (mk E c s (hh g)) = Ev prog clsT X d mc189 0 [(2, 89), (0, x1)] [] (mk E c s (hh g)) from rfl).trans (r189_0 X E c s g d x1 )
set_option maxRecDepth 100000 in
theorem r189_23 (d : Nat) (x1 s1 s2 s3 s4 : Int) : Ev prog clsT X d mc189 23 [(2, 89), (0, x1)] [(0, s4), (1, s3), (0, s2), (0, s1), (2, 89)] (mk E c s (hh g)) =
  ((Call prog clsT X d 191 [(2, 89), (0, s1), (0, s2), (1, s3), (0, s4)] ((mk E c s (hh g)))).bind fun r1 => if r1.1.1 = 4 then none else
  Ev prog clsT X d mc189 24 [(2, 89), (0, x1)] (pushR r1.1 []) r1.2) :=
  (evk_at (r := (if (2 : Nat) = 2 ∧ rcv ((mk E c s (hh g))) 89 13 = true then
  ((Call prog clsT X d 191 [(2, 89), (0, s1), (0, s2), (1, s3), (0, s4)] ((mk E c s (hh g)))).bind fun r1 => if r1.1.1 = 4 then none else
  Ev prog clsT X d mc189 24 [(2, 89), (0, x1)] (pushR r1.1 []) r1.2) else none)) X [0, 23, 24] 2 rfl).trans (by simp (maxSteps := 10000000) only [R89_13, bindI, Option.bind_some, if_true_, and_self, ite_true, true_and, true_or, or_true])
set_option maxRecDepth 100000 in
theorem r189_24 (d : Nat) (x1 : Int) : Ev prog clsT X d mc189 24 [(2, 89), (0, x1)] [] (mk E c s (hh g)) =
  (some ((3, 0), ((mk E c s (hh g))))) :=
  (evk_at (r := (some ((3, 0), (mk E c s (hh g))))) X [0, 23, 24] 2 rfl).trans (by simp (maxSteps := 10000000) only [bindI, Option.bind_some, if_true_, and_self, ite_true, true_and, true_or, or_true])
set_option maxRecDepth 100000 in
theorem r190_0 (d : Nat) (x1 x2 : Int) : Ev prog clsT X d mc190 0 [(2, 89), (0, x1), (0, x2), (3, 0), (3, 0)] [] (mk E c s (hh g)) =
  (Ev prog clsT X d mc190 4 [(2, 89), (0, x1), (0, x2), (0, 0), (0, 0)] [] (mk E c s (hh g))) :=
  evk_at X [0, 4] 6 rfl
set_option maxRecDepth 100000 in
theorem rc190_ (d : Nat) (x1 x2 : Int) : Call prog clsT X (d + 1) 190 [(2, 89), (0, x1), (0, x2)] (mk E c s (hh g)) =
  (Ev prog clsT X d mc190 4 [(2, 89), (0, x1), (0, x2), (0, 0), (0, 0)] [] (mk E c s (hh g))) :=
  (show Call prog clsT X (d + 1) 190 [(2, 89), (0, x1), (0, x2)] (mk E c s (hh g)) = Ev prog clsT X d mc190 0 [(2, 89), (0, x1), (0, x2), (3, 0), (3, 0)] [] (mk E c s (hh g)) from rfl).trans (r190_0 X E c s g d x1 x2 )
set_option maxRecDepth 100000 in
theorem r190_4 (d : Nat) (x1 x2 x3 x4 : Int) : Ev prog clsT X d mc190 4 [(2, 89), (0, x1), (0, x2), (0, x3), (0, x4)] [] (mk E c s (hh g)) =
  (if cmpI .ge x4 ((g 89 10)) = true then
  (some ((0, x3), ((mk E c s (hh g)))))
else
  (if inb x4 40 = true then
    (if cmpI .ne ((g 104 (Int.toNat x4))) 0 = true then
    (Ev prog clsT X d mc190 4 [(2, 89), (0, x1), (0, x2), (0, (w32 (x3 + 0))), (0, (w32 (x4 + 1)))] [] (mk E c s (hh g)))
  else
    (if inb x4 40 = true then
      (if cmpI .ne ((g 99 (Int.toNat x4))) x1 = true then
      (Ev prog clsT X d mc190 4 [(2, 89), (0, x1), (0, x2), (0, (w32 (x3 + 0))), (0, (w32 (x4 + 1)))] [] (mk E c s (hh g)))
    else
      (if cmpI .eq x2 ((-1)) = true then
        (Ev prog clsT X d mc190 4 [(2, 89), (0, x1), (0, x2), (0, (w32 (x3 + 1))), (0, (w32 (x4 + 1)))] [] (mk E c s (hh g)))
      else
        (if inb x4 40 = true then
          (if cmpI .ne ((g 100 (Int.toNat x4))) x2 = true then
          (Ev prog clsT X d mc190 4 [(2, 89), (0, x1), (0, x2), (0, (w32 (x3 + 0))), (0, (w32 (x4 + 1)))] [] (mk E c s (hh g)))
        else
          (Ev prog clsT X d mc190 4 [(2, 89), (0, x1), (0, x2), (0, (w32 (x3 + 1))), (0, (w32 (x4 + 1)))] [] (mk E c s (hh g))))
        else none)))
    else none))
  else none)) :=
  (evk_at (r := ((fget 6184 ((mk E c s (hh g))) 89).bind fun v1 =>
  if cmpI .ge x4 v1 = true then
  (some ((0, x3), (mk E c s (hh g))))
else
  ((fget 6210 ((mk E c s (hh g))) 89).bind fun v2 =>
    (aget X 102 ((mk E c s (hh g))) v2 x4).bind fun v3 =>
    if cmpI .ne v3 0 = true then
    (Ev prog clsT X d mc190 4 [(2, 89), (0, x1), (0, x2), (0, (w32 (x3 + 0))), (0, (w32 (x4 + 1)))] [] (mk E c s (hh g)))
  else
    ((fget 6190 ((mk E c s (hh g))) 89).bind fun v4 =>
      (aget X 100 ((mk E c s (hh g))) v4 x4).bind fun v5 =>
      if cmpI .ne v5 x1 = true then
      (Ev prog clsT X d mc190 4 [(2, 89), (0, x1), (0, x2), (0, (w32 (x3 + 0))), (0, (w32 (x4 + 1)))] [] (mk E c s (hh g)))
    else
      (if cmpI .eq x2 ((-1)) = true then
        (Ev prog clsT X d mc190 4 [(2, 89), (0, x1), (0, x2), (0, (w32 (x3 + 1))), (0, (w32 (x4 + 1)))] [] (mk E c s (hh g)))
      else
        ((fget 6194 ((mk E c s (hh g))) 89).bind fun v6 =>
          (aget X 100 ((mk E c s (hh g))) v6 x4).bind fun v7 =>
          if cmpI .ne v7 x2 = true then
          (Ev prog clsT X d mc190 4 [(2, 89), (0, x1), (0, x2), (0, (w32 (x3 + 0))), (0, (w32 (x4 + 1)))] [] (mk E c s (hh g)))
        else
          (Ev prog clsT X d mc190 4 [(2, 89), (0, x1), (0, x2), (0, (w32 (x3 + 1))), (0, (w32 (x4 + 1)))] [] (mk E c s (hh g))))))))) X [0, 4] 33 rfl).trans (by simp (maxSteps := 10000000) only [↓A100, ↓A104, ↓A99, ↓F6184_89, ↓F6190_89, ↓F6194_89, ↓F6210_89, bindI, Option.bind_some, if_true_, and_self, ite_true, true_and, true_or, or_true])
set_option maxRecDepth 100000 in
theorem r191_0 (d : Nat) (x1 x2 x3 x5 : Int) : Ev prog clsT X d mc191 0 [(2, 89), (0, x1), (0, x2), (1, x3), (3, 0), (0, x5), (3, 0), (3, 0), (3, 0), (3, 0)] [] (mk E c s (hh g)) =
  (Ev prog clsT X d mc191 8 [(2, 89), (0, x1), (0, x2), (1, x3), (3, 0), (0, x5), (0, 0), (0, 100), (0, 0), (0, 1)] [] (mk E c s (hh g))) :=
  evk_at X [0, 8, 25, 54, 89, 135] 10 rfl
set_option maxRecDepth 100000 in
theorem rc191_ (d : Nat) (x1 x2 x3 x5 : Int) : Call prog clsT X (d + 1) 191 [(2, 89), (0, x1), (0, x2), (1, x3), (0, x5)] (mk E c s (hh g)) =
  (Ev prog clsT X d mc191 8 [(2, 89), (0, x1), (0, x2), (1, x3), (3, 0), (0, x5), (0, 0), (0, 100), (0, 0), (0, 1)] [] (mk E c s (hh g))) :=
  (show Call prog clsT X (d + 1) 191 [(2, 89), (0, x1), (0, x2), (1, x3), (0, x5)] (mk E c s (hh g)) = Ev prog clsT X d mc191 0 [(2, 89), (0, x1), (0, x2), (1, x3), (3, 0), (0, x5), (3, 0), (3, 0), (3, 0), (3, 0)] [] (mk E c s (hh g)) from rfl).trans (r191_0 X E c s g d x1 x2 x3 x5 )
set_option maxRecDepth 100000 in
theorem r191_8 (d : Nat) (x1 x2 x3 x5 x6 x7 x8 x9 : Int) (w4 : MV) : Ev prog clsT X d mc191 8 [(2, 89), (0, x1), (0, x2), (1, x3), w4, (0, x5), (0, x6), (0, x7), (0, x8), (0, x9)] [] (mk E c s (hh g)) =
  (if cmpI .ge x9 8 = true then
  (Ev prog clsT X d mc191 25 [(2, 89), (0, x1), (0, x2), (1, x3), (3, 0), (0, x5), (0, x6), (0, x7), (0, x8), (0, 0)] [] (mk E c s (hh (up g 126 7 9))))
else
  (if inb x9 20 = true then
    (Ev prog clsT X d mc191 8 [(2, 89), (0, x1), (0, x2), (1, x3), (3, 0), (0, x5), (0, x6), (0, x7), (0, x8), (0, (w32 (x9 + 1)))] [] (mk E c s (hh (up g 126 (Int.toNat x9) 0))))
  else none)) :=
  (evk_at (r := (if cmpI .ge x9 8 = true then
  ((fget 6338 ((mk E c s (hh g))) 89).bind fun v1 =>
    (aput 100 ((mk E c s (hh g))) v1 7 (9)).bind fun M2 =>
    Ev prog clsT X d mc191 25 [(2, 89), (0, x1), (0, x2), (1, x3), (3, 0), (0, x5), (0, x6), (0, x7), (0, x8), (0, 0)] [] M2)
else
  ((fget 6338 ((mk E c s (hh g))) 89).bind fun v3 =>
    (aput 100 ((mk E c s (hh g))) v3 x9 (0)).bind fun M4 =>
    Ev prog clsT X d mc191 8 [(2, 89), (0, x1), (0, x2), (1, x3), (3, 0), (0, x5), (0, x6), (0, x7), (0, x8), (0, (w32 (x9 + 1)))] [] M4))) X [0, 8, 25, 54, 89, 135] 12 rfl).trans (by simp (maxSteps := 10000000) only [inbL 7 20 rfl, tn7, ↓F6338_89, ↓S126, bindI, Option.bind_some, if_true_, and_self, ite_true, true_and, true_or, or_true])
set_option maxRecDepth 100000 in
theorem r191_25 (d : Nat) (x1 x2 x3 x5 x6 x7 x8 x9 : Int) (w4 : MV) : Ev prog clsT X d mc191 25 [(2, 89), (0, x1), (0, x2), (1, x3), w4, (0, x5), (0, x6), (0, x7), (0, x8), (0, x9)] [] (mk E c s (hh g)) =
  (if cmpI .ge x9 40 = true then
  ((Call prog clsT X d 158 [(1, x6)] ((mk E c s (hh g)))).bind fun r1 => if r1.1.1 = 4 then none else
    Ev prog clsT X d mc191 135 [(2, 89), (0, x1), (0, x2), (1, x3), (3, 0), (0, x5), (0, x6), (0, x7), (0, x8), (0, x9)] (pushR r1.1 [(0, 2), (2, 126)]) r1.2)
else
  (if cmpI .ne ((lcmpI ((land64 ((lshr64 x3 x9)) 1)) 0)) 0 = true then
    (if inb x9 40 = true then
      (Ev prog clsT X d mc191 54 [(2, 89), (0, x1), (0, x2), (1, x3), (3, 0), (0, x5), (0, (ior32 x6 ((ishl32 1 ((g 96 (Int.toNat x9))))))), (0, x7), (0, x8), (0, x9)] [] (mk E c s (hh (up g 126 1 ((w32 (((g 126 1)) + 1)))))))
    else none)
  else
    (Ev prog clsT X d mc191 25 [(2, 89), (0, x1), (0, x2), (1, x3), (3, 0), (0, x5), (0, x6), (0, x7), (0, x8), (0, (w32 (x9 + 1)))] [] (mk E c s (hh g))))) :=
  (evk_at (r := (if cmpI .ge x9 40 = true then
  ((fget 6338 ((mk E c s (hh g))) 89).bind fun v1 =>
    (Call prog clsT X d 158 [(1, x6)] ((mk E c s (hh g)))).bind fun r2 => if r2.1.1 = 4 then none else
    Ev prog clsT X d mc191 135 [(2, 89), (0, x1), (0, x2), (1, x3), (3, 0), (0, x5), (0, x6), (0, x7), (0, x8), (0, x9)] (pushR r2.1 [(0, 2), (2, v1)]) r2.2)
else
  (if cmpI .ne ((lcmpI ((land64 ((lshr64 x3 x9)) 1)) 0)) 0 = true then
    ((fget 6174 ((mk E c s (hh g))) 89).bind fun v3 =>
      (aget X 100 ((mk E c s (hh g))) v3 x9).bind fun v4 =>
      (fget 6338 ((mk E c s (hh g))) 89).bind fun v5 =>
      (aget X 100 ((mk E c s (hh g))) v5 1).bind fun v6 =>
      (aput 100 ((mk E c s (hh g))) v5 1 ((w32 (v6 + 1)))).bind fun M7 =>
      Ev prog clsT X d mc191 54 [(2, 89), (0, x1), (0, x2), (1, x3), (3, 0), (0, x5), (0, (ior32 x6 ((ishl32 1 v4)))), (0, x7), (0, x8), (0, x9)] [] M7)
  else
    (Ev prog clsT X d mc191 25 [(2, 89), (0, x1), (0, x2), (1, x3), (3, 0), (0, x5), (0, x6), (0, x7), (0, x8), (0, (w32 (x9 + 1)))] [] (mk E c s (hh g)))))) X [0, 8, 25, 54, 89, 135] 30 rfl).trans (by simp (maxSteps := 10000000) only [inbL 1 20 rfl, tn1, ↓A126, ↓A96, ↓F6174_89, ↓F6338_89, ↓S126, bindI, Option.bind_some, if_true_, and_self, ite_true, true_and, true_or, or_true])
set_option maxRecDepth 100000 in
theorem r191_54 (d : Nat) (x1 x2 x3 x5 x6 x7 x8 x9 : Int) : Ev prog clsT X d mc191 54 [(2, 89), (0, x1), (0, x2), (1, x3), (3, 0), (0, x5), (0, x6), (0, x7), (0, x8), (0, x9)] [] (mk E c s (hh g)) =
  (if inb x1 13 = true then
  (if cmpI .le ((g 107 (Int.toNat x1))) 0 = true then
  (if inb x9 40 = true then
    (Ev prog clsT X d mc191 89 [(2, 89), (0, x1), (0, x2), (1, x3), (3, 0), (0, x5), (0, x6), (0, x7), (0, x8), (0, x9)] [] (mk E c s (hh (up (up g 126 3 ((w32 (((g 126 3)) + 0)))) 126 4 ((w32 (((g 126 4)) + ((g 97 (Int.toNat x9))))))))))
  else none)
else
  (if inb x9 40 = true then
    (if inb x1 13 = true then
    (if cmpI .eq ((g 96 (Int.toNat x9))) ((g 108 (Int.toNat x1))) = true then
    (if inb x9 40 = true then
      (Ev prog clsT X d mc191 89 [(2, 89), (0, x1), (0, x2), (1, x3), (3, 0), (0, x5), (0, x6), (0, x7), (0, x8), (0, x9)] [] (mk E c s (hh (up (up g 126 3 ((w32 (((g 126 3)) + 0)))) 126 4 ((w32 (((g 126 4)) + ((g 97 (Int.toNat x9))))))))))
    else none)
  else
    (if inb x9 40 = true then
      (Ev prog clsT X d mc191 89 [(2, 89), (0, x1), (0, x2), (1, x3), (3, 0), (0, x5), (0, x6), (0, x7), (0, x8), (0, x9)] [] (mk E c s (hh (up (up g 126 3 ((w32 (((g 126 3)) + 1)))) 126 4 ((w32 (((g 126 4)) + ((g 97 (Int.toNat x9))))))))))
    else none))
  else none)
  else none))
else none) :=
  (evk_at (r := ((fget 6338 ((mk E c s (hh g))) 89).bind fun v1 =>
  (aget X 100 ((mk E c s (hh g))) v1 3).bind fun v2 =>
  (fget 6254 ((mk E c s (hh g))) 89).bind fun v3 =>
  (aget X 100 ((mk E c s (hh g))) v3 x1).bind fun v4 =>
  if cmpI .le v4 0 = true then
  ((aput 100 ((mk E c s (hh g))) v1 3 ((w32 (v2 + 0)))).bind fun M5 =>
    (fget 6338 M5 89).bind fun v6 =>
    (aget X 100 M5 v6 4).bind fun v7 =>
    (fget 6178 M5 89).bind fun v8 =>
    (aget X 100 M5 v8 x9).bind fun v9 =>
    (aput 100 M5 v6 4 ((w32 (v7 + v9)))).bind fun M10 =>
    Ev prog clsT X d mc191 89 [(2, 89), (0, x1), (0, x2), (1, x3), (3, 0), (0, x5), (0, x6), (0, x7), (0, x8), (0, x9)] [] M10)
else
  ((fget 6174 ((mk E c s (hh g))) 89).bind fun v11 =>
    (aget X 100 ((mk E c s (hh g))) v11 x9).bind fun v12 =>
    (fget 6258 ((mk E c s (hh g))) 89).bind fun v13 =>
    (aget X 100 ((mk E c s (hh g))) v13 x1).bind fun v14 =>
    if cmpI .eq v12 v14 = true then
    ((aput 100 ((mk E c s (hh g))) v1 3 ((w32 (v2 + 0)))).bind fun M15 =>
      (fget 6338 M15 89).bind fun v16 =>
      (aget X 100 M15 v16 4).bind fun v17 =>
      (fget 6178 M15 89).bind fun v18 =>
      (aget X 100 M15 v18 x9).bind fun v19 =>
      (aput 100 M15 v16 4 ((w32 (v17 + v19)))).bind fun M20 =>
      Ev prog clsT X d mc191 89 [(2, 89), (0, x1), (0, x2), (1, x3), (3, 0), (0, x5), (0, x6), (0, x7), (0, x8), (0, x9)] [] M20)
  else
    ((aput 100 ((mk E c s (hh g))) v1 3 ((w32 (v2 + 1)))).bind fun M21 =>
      (fget 6338 M21 89).bind fun v22 =>
      (aget X 100 M21 v22 4).bind fun v23 =>
      (fget 6178 M21 89).bind fun v24 =>
      (aget X 100 M21 v24 x9).bind fun v25 =>
      (aput 100 M21 v22 4 ((w32 (v23 + v25)))).bind fun M26 =>
      Ev prog clsT X d mc191 89 [(2, 89), (0, x1), (0, x2), (1, x3), (3, 0), (0, x5), (0, x6), (0, x7), (0, x8), (0, x9)] [] M26)))) X [0, 8, 25, 54, 89, 135] 36 rfl).trans (by simp (maxSteps := 10000000) only [inbL 3 20 rfl, inbL 4 20 rfl, tn3, tn4, uc_126_97, uq_3_4, ↓A107, ↓A108, ↓A126, ↓A96, ↓A97, ↓F6174_89, ↓F6178_89, ↓F6254_89, ↓F6258_89, ↓F6338_89, ↓S126, bindI, Option.bind_some, if_true_, and_self, ite_true, true_and, true_or, or_true])
set_option maxRecDepth 100000 in
theorem r191_89 (d : Nat) (x1 x2 x3 x5 x6 x7 x8 x9 : Int) : Ev prog clsT X d mc191 89 [(2, 89), (0, x1), (0, x2), (1, x3), (3, 0), (0, x5), (0, x6), (0, x7), (0, x8), (0, x9)] [] (mk E c s (hh g)) =
  (if inb x9 40 = true then
  (if inb x9 40 = true then
  (if inb x9 40 = true then
  (if inb x9 40 = true then
  (Ev prog clsT X d mc191 25 [(2, 89), (0, x1), (0, x2), (1, x3), (3, 0), (0, x5), (0, x6), (0, (if (g 97 (Int.toNat x9)) < x7 then (g 97 (Int.toNat x9)) else x7)), (0, (if x8 < (g 97 (Int.toNat x9)) then (g 97 (Int.toNat x9)) else x8)), (0, (w32 (x9 + 1)))] [] (mk E c s (hh (up (up g 126 6 ((w32 (((g 126 6)) + ((g 98 (Int.toNat x9))))))) 126 7 ((if (g 98 (Int.toNat x9)) < (g 126 7) then (g 98 (Int.toNat x9)) else (g 126 7)))))))
else none)
else none)
else none)
else none) :=
  (evk_at (r := ((fget 6338 ((mk E c s (hh g))) 89).bind fun v1 =>
  (aget X 100 ((mk E c s (hh g))) v1 6).bind fun v2 =>
  (fget 6182 ((mk E c s (hh g))) 89).bind fun v3 =>
  (aget X 100 ((mk E c s (hh g))) v3 x9).bind fun v4 =>
  (aput 100 ((mk E c s (hh g))) v1 6 ((w32 (v2 + v4)))).bind fun M5 =>
  (fget 6338 M5 89).bind fun v6 =>
  (fget 6338 M5 89).bind fun v7 =>
  (aget X 100 M5 v7 7).bind fun v8 =>
  (fget 6182 M5 89).bind fun v9 =>
  (aget X 100 M5 v9 x9).bind fun v10 =>
  (aput 100 M5 v6 7 ((if v10 < v8 then v10 else v8))).bind fun M11 =>
  (fget 6178 M11 89).bind fun v12 =>
  (aget X 100 M11 v12 x9).bind fun v13 =>
  (fget 6178 M11 89).bind fun v14 =>
  (aget X 100 M11 v14 x9).bind fun v15 =>
  Ev prog clsT X d mc191 25 [(2, 89), (0, x1), (0, x2), (1, x3), (3, 0), (0, x5), (0, x6), (0, (if v13 < x7 then v13 else x7)), (0, (if x8 < v15 then v15 else x8)), (0, (w32 (x9 + 1)))] [] M11)) X [0, 8, 25, 54, 89, 135] 42 rfl).trans (by simp (maxSteps := 10000000) only [inbL 6 20 rfl, inbL 7 20 rfl, tn6, tn7, uc_126_97, uc_126_98, uq_6_7, ↓A126, ↓A97, ↓A98, ↓F6178_89, ↓F6182_89, ↓F6338_89, ↓S126, bindI, Option.bind_some, if_true_, and_self, ite_true, true_and, true_or, or_true])
set_option maxRecDepth 100000 in
theorem r191_135 (d : Nat) (x1 x2 x3 x5 x6 x7 x8 x9 s1 s2 : Int) : Ev prog clsT X d mc191 135 [(2, 89), (0, x1), (0, x2), (1, x3), (3, 0), (0, x5), (0, x6), (0, x7), (0, x8), (0, x9)] [(0, s2), (0, s1), (2, 126)] (mk E c s (hh g)) =
  (if inb s1 20 = true then
  (if inb x2 10 = true then
  (if inb x2 10 = true then
  (if inb x2 10 = true then
  (if cmpI .eq ((g 93 (Int.toNat x2))) 0 = true then
  (some ((3, 0), ((mk E c s (hh (up (up (up (up (up (up g 126 (Int.toNat s1) s2) 126 5 ((w32 (x8 - x7)))) 126 8 ((g 92 (Int.toNat x2)))) 126 9 ((g 91 (Int.toNat x2)))) 126 10 0) 126 11 x5))))))
else
  (some ((3, 0), ((mk E c s (hh (up (up (up (up (up (up g 126 (Int.toNat s1) s2) 126 5 ((w32 (x8 - x7)))) 126 8 ((g 92 (Int.toNat x2)))) 126 9 ((g 91 (Int.toNat x2)))) 126 10 1) 126 11 x5)))))))
else none)
else none)
else none)
else none) :=
  (evk_at (r := ((aput 100 ((mk E c s (hh g))) 126 s1 (s2)).bind fun M1 =>
  (fget 6338 M1 89).bind fun v2 =>
  (aput 100 M1 v2 5 ((w32 (x8 - x7)))).bind fun M3 =>
  (fget 6338 M3 89).bind fun v4 =>
  (fget 6158 M3 89).bind fun v5 =>
  (aget X 100 M3 v5 x2).bind fun v6 =>
  (aput 100 M3 v4 8 (v6)).bind fun M7 =>
  (fget 6338 M7 89).bind fun v8 =>
  (fget 6154 M7 89).bind fun v9 =>
  (aget X 100 M7 v9 x2).bind fun v10 =>
  (aput 100 M7 v8 9 (v10)).bind fun M11 =>
  (fget 6338 M11 89).bind fun v12 =>
  (fget 6162 M11 89).bind fun v13 =>
  (aget X 102 M11 v13 x2).bind fun v14 =>
  if cmpI .eq v14 0 = true then
  ((aput 100 M11 v12 10 (0)).bind fun M15 =>
    (fget 6338 M15 89).bind fun v16 =>
    (aput 100 M15 v16 11 (x5)).bind fun M17 =>
    some ((3, 0), M17))
else
  ((aput 100 M11 v12 10 (1)).bind fun M18 =>
    (fget 6338 M18 89).bind fun v19 =>
    (aput 100 M18 v19 11 (x5)).bind fun M20 =>
    some ((3, 0), M20)))) X [0, 8, 25, 54, 89, 135] 42 rfl).trans (by simp (maxSteps := 10000000) only [inbL 10 20 rfl, inbL 11 20 rfl, inbL 5 20 rfl, inbL 8 20 rfl, inbL 9 20 rfl, tn10, tn11, tn5, tn8, tn9, uc_126_91, uc_126_92, uc_126_93, ↓A91, ↓A92, ↓A93, ↓F6154_89, ↓F6158_89, ↓F6162_89, ↓F6338_89, ↓S126, bindI, Option.bind_some, if_true_, and_self, ite_true, true_and, true_or, or_true])
set_option maxRecDepth 100000 in
theorem r192_0 (d : Nat) (x1 : Int) : Ev prog clsT X d mc192 0 [(2, 89), (0, x1), (3, 0)] [] (mk E c s (hh g)) =
  (if inb x1 13 = true then
  (if cmpI .le ((g 107 (Int.toNat x1))) 0 = true then
  ((Call prog clsT X d 193 [(2, 89), (0, x1)] ((mk E c s (hh g)))).bind fun r1 => if r1.1.1 = 4 then none else
    Ev prog clsT X d mc192 24 [(2, 89), (0, x1), (3, 0)] (pushR r1.1 []) r1.2)
else
  (if inb x1 13 = true then
    (if cmpI .ne ((g 126 1)) ((g 107 (Int.toNat x1))) = true then
    (some ((0, 100), ((mk E c s (hh g)))))
  else
    (if cmpI .le ((g 126 3)) 0 = true then
      ((Call prog clsT X d 193 [(2, 89), (0, x1)] ((mk E c s (hh g)))).bind fun r2 => if r2.1.1 = 4 then none else
        Ev prog clsT X d mc192 24 [(2, 89), (0, x1), (3, 0)] (pushR r2.1 []) r2.2)
    else
      (some ((0, 100), ((mk E c s (hh g)))))))
  else none))
else none) :=
  (evk_at (r := ((fget 6254 ((mk E c s (hh g))) 89).bind fun v1 =>
  (aget X 100 ((mk E c s (hh g))) v1 x1).bind fun v2 =>
  if cmpI .le v2 0 = true then
  (if (2 : Nat) = 2 ∧ rcv ((mk E c s (hh g))) 89 13 = true then
    ((Call prog clsT X d 193 [(2, 89), (0, x1)] ((mk E c s (hh g)))).bind fun r3 => if r3.1.1 = 4 then none else
    Ev prog clsT X d mc192 24 [(2, 89), (0, x1), (3, 0)] (pushR r3.1 []) r3.2) else none)
else
  ((fget 6338 ((mk E c s (hh g))) 89).bind fun v4 =>
    (aget X 100 ((mk E c s (hh g))) v4 1).bind fun v5 =>
    (fget 6254 ((mk E c s (hh g))) 89).bind fun v6 =>
    (aget X 100 ((mk E c s (hh g))) v6 x1).bind fun v7 =>
    if cmpI .ne v5 v7 = true then
    (some ((0, 100), (mk E c s (hh g))))
  else
    ((fget 6338 ((mk E c s (hh g))) 89).bind fun v8 =>
      (aget X 100 ((mk E c s (hh g))) v8 3).bind fun v9 =>
      if cmpI .le v9 0 = true then
      (if (2 : Nat) = 2 ∧ rcv ((mk E c s (hh g))) 89 13 = true then
        ((Call prog clsT X d 193 [(2, 89), (0, x1)] ((mk E c s (hh g)))).bind fun r10 => if r10.1.1 = 4 then none else
        Ev prog clsT X d mc192 24 [(2, 89), (0, x1), (3, 0)] (pushR r10.1 []) r10.2) else none)
    else
      (some ((0, 100), (mk E c s (hh g)))))))) X [0, 24, 32] 23 rfl).trans (by simp (maxSteps := 10000000) only [R89_13, inbL 1 20 rfl, inbL 3 20 rfl, tn1, tn3, ↓A107, ↓A126, ↓F6254_89, ↓F6338_89, bindI, Option.bind_some, if_true_, and_self, ite_true, true_and, true_or, or_true])
set_option maxRecDepth 100000 in
theorem rc192_ (d : Nat) (x1 : Int) : Call prog clsT X (d + 1) 192 [(2, 89), (0, x1)] (mk E c s (hh g)) =
  (if inb x1 13 = true then
  (if cmpI .le ((g 107 (Int.toNat x1))) 0 = true then
  ((Call prog clsT X d 193 [(2, 89), (0, x1)] ((mk E c s (hh g)))).bind fun r1 => if r1.1.1 = 4 then none else
    Ev prog clsT X d mc192 24 [(2, 89), (0, x1), (3, 0)] (pushR r1.1 []) r1.2)
else
  (if inb x1 13 = true then
    (if cmpI .ne ((g 126 1)) ((g 107 (Int.toNat x1))) = true then
    (some ((0, 100), ((mk E c s (hh g)))))
  else
    (if cmpI .le ((g 126 3)) 0 = true then
      ((Call prog clsT X d 193 [(2, 89), (0, x1)] ((mk E c s (hh g)))).bind fun r2 => if r2.1.1 = 4 then none else
        Ev prog clsT X d mc192 24 [(2, 89), (0, x1), (3, 0)] (pushR r2.1 []) r2.2)
    else
      (some ((0, 100), ((mk E c s (hh g)))))))
  else none))
else none) :=
  (show Call prog clsT X (d + 1) 192 [(2, 89), (0, x1)] (mk E c s (hh g)) = Ev prog clsT X d mc192 0 [(2, 89), (0, x1), (3, 0)] [] (mk E c s (hh g)) from rfl).trans (r192_0 X E c s g d x1 )
set_option maxRecDepth 100000 in
theorem r192_24 (d : Nat) (x1 s0 : Int) : Ev prog clsT X d mc192 24 [(2, 89), (0, x1), (3, 0)] [(0, s0)] (mk E c s (hh g)) =
  (if cmpI .lt s0 0 = true then
  ((Call prog clsT X d 193 [(2, 89), (0, 10)] ((mk E c s (hh g)))).bind fun r1 => if r1.1.1 = 4 then none else
    Ev prog clsT X d mc192 32 [(2, 89), (0, x1), (0, s0)] (pushR r1.1 []) r1.2)
else
  (Ev prog clsT X d mc192 32 [(2, 89), (0, x1), (0, s0)] [(0, s0)] (mk E c s (hh g)))) :=
  (evk_at (r := (if cmpI .lt s0 0 = true then
  (if (2 : Nat) = 2 ∧ rcv ((mk E c s (hh g))) 89 13 = true then
    ((Call prog clsT X d 193 [(2, 89), (0, 10)] ((mk E c s (hh g)))).bind fun r1 => if r1.1.1 = 4 then none else
    Ev prog clsT X d mc192 32 [(2, 89), (0, x1), (0, s0)] (pushR r1.1 []) r1.2) else none)
else
  (Ev prog clsT X d mc192 32 [(2, 89), (0, x1), (0, s0)] [(0, s0)] (mk E c s (hh g))))) X [0, 24, 32] 7 rfl).trans (by simp (maxSteps := 10000000) only [R89_13, bindI, Option.bind_some, if_true_, and_self, ite_true, true_and, true_or, or_true])
set_option maxRecDepth 100000 in
theorem r192_32 (d : Nat) (x1 x2 s0 : Int) : Ev prog clsT X d mc192 32 [(2, 89), (0, x1), (0, x2)] [(0, s0)] (mk E c s (hh g)) =
  (some ((0, s0), ((mk E c s (hh g))))) :=
  (evk_at (r := (some ((0, s0), (mk E c s (hh g))))) X [0, 24, 32] 2 rfl).trans (by simp (maxSteps := 10000000) only [bindI, Option.bind_some, if_true_, and_self, ite_true, true_and, true_or, or_true])
set_option maxRecDepth 100000 in
theorem r193_0 (d : Nat) (x1 : Int) : Ev prog clsT X d mc193 0 [(2, 89), (0, x1), (3, 0)] [] (mk E c s (hh g)) =
  (Ev prog clsT X d mc193 4 [(2, 89), (0, x1), (0, (w32 (9 * x1)))] [] (mk E c s (hh g))) :=
  evk_at X [0, 4, 17] 6 rfl
set_option maxRecDepth 100000 in
theorem rc193_ (d : Nat) (x1 : Int) : Call prog clsT X (d + 1) 193 [(2, 89), (0, x1)] (mk E c s (hh g)) =
  (Ev prog clsT X d mc193 4 [(2, 89), (0, x1), (0, (w32 (9 * x1)))] [] (mk E c s (hh g))) :=
  (show Call prog clsT X (d + 1) 193 [(2, 89), (0, x1)] (mk E c s (hh g)) = Ev prog clsT X d mc193 0 [(2, 89), (0, x1), (3, 0)] [] (mk E c s (hh g)) from rfl).trans (r193_0 X E c s g d x1 )
set_option maxRecDepth 100000 in
theorem r193_4 (d : Nat) (x1 x2 : Int) : Ev prog clsT X d mc193 4 [(2, 89), (0, x1), (0, x2)] [] (mk E c s (hh g)) =
  (if inb x1 13 = true then
  (if cmpI .ge x2 ((w32 (((w32 (9 * x1))) + ((g 109 (Int.toNat x1)))))) = true then
  (some ((0, (-1)), ((mk E c s (hh g)))))
else
  ((Call prog clsT X d 194 [(2, 89), (0, x2)] ((mk E c s (hh g)))).bind fun r1 => if r1.1.1 = 4 then none else
    Ev prog clsT X d mc193 17 [(2, 89), (0, x1), (0, x2)] (pushR r1.1 []) r1.2))
else none) :=
  (evk_at (r := ((fget 6262 ((mk E c s (hh g))) 89).bind fun v1 =>
  (aget X 100 ((mk E c s (hh g))) v1 x1).bind fun v2 =>
  if cmpI .ge x2 ((w32 (((w32 (9 * x1))) + v2))) = true then
  (some ((0, (-1)), (mk E c s (hh g))))
else
  (if (2 : Nat) = 2 ∧ rcv ((mk E c s (hh g))) 89 13 = true then
    ((Call prog clsT X d 194 [(2, 89), (0, x2)] ((mk E c s (hh g)))).bind fun r3 => if r3.1.1 = 4 then none else
    Ev prog clsT X d mc193 17 [(2, 89), (0, x1), (0, x2)] (pushR r3.1 []) r3.2) else none))) X [0, 4, 17] 14 rfl).trans (by simp (maxSteps := 10000000) only [R89_13, ↓A109, ↓F6262_89, bindI, Option.bind_some, if_true_, and_self, ite_true, true_and, true_or, or_true])
set_option maxRecDepth 100000 in
theorem r193_17 (d : Nat) (x1 x2 s0 : Int) : Ev prog clsT X d mc193 17 [(2, 89), (0, x1), (0, x2)] [(0, s0)] (mk E c s (hh g)) =
  (if cmpI .eq s0 0 = true then
  (Ev prog clsT X d mc193 4 [(2, 89), (0, x1), (0, (w32 (x2 + 1)))] [] (mk E c s (hh g)))
else
  (if inb x2 117 = true then
    (some ((0, (g 111 (Int.toNat x2))), ((mk E c s (hh g)))))
  else none)) :=
  (evk_at (r := (if cmpI .eq s0 0 = true then
  (Ev prog clsT X d mc193 4 [(2, 89), (0, x1), (0, (w32 (x2 + 1)))] [] (mk E c s (hh g)))
else
  ((fget 6270 ((mk E c s (hh g))) 89).bind fun v1 =>
    (aget X 100 ((mk E c s (hh g))) v1 x2).bind fun v2 =>
    some ((0, v2), (mk E c s (hh g)))))) X [0, 4, 17] 7 rfl).trans (by simp (maxSteps := 10000000) only [↓A111, ↓F6270_89, bindI, Option.bind_some, if_true_, and_self, ite_true, true_and, true_or, or_true])
set_option maxRecDepth 100000 in
theorem r194_0 (d : Nat) (x1 : Int) : Ev prog clsT X d mc194 0 [(2, 89), (0, x1), (3, 0), (3, 0), (3, 0), (3, 0)] [] (mk E c s (hh g)) =
  ((Call prog clsT X d 195 [(2, 89), (0, 0)] ((mk E c s (hh g)))).bind fun r1 => if r1.1.1 = 4 then none else
  Ev prog clsT X d mc194 5 [(2, 89), (0, x1), (0, 0), (3, 0), (3, 0), (3, 0)] (pushR r1.1 []) r1.2) :=
  (evk_at (r := (if (2 : Nat) = 2 ∧ rcv ((mk E c s (hh g))) 89 13 = true then
  ((Call prog clsT X d 195 [(2, 89), (0, 0)] ((mk E c s (hh g)))).bind fun r1 => if r1.1.1 = 4 then none else
  Ev prog clsT X d mc194 5 [(2, 89), (0, x1), (0, 0), (3, 0), (3, 0), (3, 0)] (pushR r1.1 []) r1.2) else none)) X [0, 5, 10, 27, 41, 48, 51, 57, 72, 75, 108, 114, 137, 143, 159, 181] 6 rfl).trans (by simp (maxSteps := 10000000) only [R89_13, bindI, Option.bind_some, if_true_, and_self, ite_true, true_and, true_or, or_true])
set_option maxRecDepth 100000 in
theorem rc194_ (d : Nat) (x1 : Int) : Call prog clsT X (d + 1) 194 [(2, 89), (0, x1)] (mk E c s (hh g)) =
  ((Call prog clsT X d 195 [(2, 89), (0, 0)] ((mk E c s (hh g)))).bind fun r1 => if r1.1.1 = 4 then none else
  Ev prog clsT X d mc194 5 [(2, 89), (0, x1), (0, 0), (3, 0), (3, 0), (3, 0)] (pushR r1.1 []) r1.2) :=
  (show Call prog clsT X (d + 1) 194 [(2, 89), (0, x1)] (mk E c s (hh g)) = Ev prog clsT X d mc194 0 [(2, 89), (0, x1), (3, 0), (3, 0), (3, 0), (3, 0)] [] (mk E c s (hh g)) from rfl).trans (r194_0 X E c s g d x1 )
set_option maxRecDepth 100000 in
theorem r194_5 (d : Nat) (x1 x2 : Int) : Ev prog clsT X d mc194 5 [(2, 89), (0, x1), (0, x2), (3, 0), (3, 0), (3, 0)] [] (mk E c s (hh g)) =
  (if inb x1 117 = true then
  (Ev prog clsT X d mc194 10 [(2, 89), (0, x1), (0, x2), (0, (g 112 (Int.toNat x1))), (3, 0), (3, 0)] [] (mk E c s (hh g)))
else none) :=
  (evk_at (r := ((fget 6274 ((mk E c s (hh g))) 89).bind fun v1 =>
  (aget X 100 ((mk E c s (hh g))) v1 x1).bind fun v2 =>
  Ev prog clsT X d mc194 10 [(2, 89), (0, x1), (0, x2), (0, v2), (3, 0), (3, 0)] [] (mk E c s (hh g)))) X [0, 5, 10, 27, 41, 48, 51, 57, 72, 75, 108, 114, 137, 143, 159, 181] 7 rfl).trans (by simp (maxSteps := 10000000) only [↓A112, ↓F6274_89, bindI, Option.bind_some, if_true_, and_self, ite_true, true_and, true_or, or_true])
set_option maxRecDepth 100000 in
theorem r194_10 (d : Nat) (x1 x2 x3 : Int) (w4 w5 : MV) : Ev prog clsT X d mc194 10 [(2, 89), (0, x1), (0, x2), (0, x3), w4, w5] [] (mk E c s (hh g)) =
  (if inb x1 117 = true then
  (if cmpI .ge x3 ((g 113 (Int.toNat x1))) = true then
  ((Call prog clsT X d 197 [(2, 89), (0, 0)] ((mk E c s (hh g)))).bind fun r1 => if r1.1.1 = 4 then none else
    Ev prog clsT X d mc194 181 [(2, 89), (0, x1), (0, x2), (0, x3), (3, 0), (3, 0)] (pushR r1.1 []) r1.2)
else
  (if inb x3 13000 = true then
    (if cmpI .eq ((g 114 (Int.toNat x3))) 28 = true then
    (Ev prog clsT X d mc194 27 [(2, 89), (0, x1), (0, x2), (0, x3), (0, (g 114 (Int.toNat x3))), (3, 0)] [] (mk E c s (hh g)))
  else
    (if cmpI .ne ((g 114 (Int.toNat x3))) 30 = true then
      (if cmpI .eq ((g 114 (Int.toNat x3))) 20 = true then
        (Ev prog clsT X d mc194 48 [(2, 89), (0, x1), (0, x2), (0, x3), (0, (g 114 (Int.toNat x3))), (3, 0)] [] (mk E c s (hh g)))
      else
        (if cmpI .ne ((g 114 (Int.toNat x3))) 21 = true then
          (Ev prog clsT X d mc194 57 [(2, 89), (0, x1), (0, x2), (0, x3), (0, (g 114 (Int.toNat x3))), (3, 0)] [] (mk E c s (hh g)))
        else
          (Ev prog clsT X d mc194 48 [(2, 89), (0, x1), (0, x2), (0, x3), (0, (g 114 (Int.toNat x3))), (3, 0)] [] (mk E c s (hh g)))))
    else
      (Ev prog clsT X d mc194 27 [(2, 89), (0, x1), (0, x2), (0, x3), (0, (g 114 (Int.toNat x3))), (3, 0)] [] (mk E c s (hh g)))))
  else none))
else none) :=
  (evk_at (r := ((fget 6278 ((mk E c s (hh g))) 89).bind fun v1 =>
  (aget X 100 ((mk E c s (hh g))) v1 x1).bind fun v2 =>
  if cmpI .ge x3 v2 = true then
  (if (2 : Nat) = 2 ∧ rcv ((mk E c s (hh g))) 89 13 = true then
    ((Call prog clsT X d 197 [(2, 89), (0, 0)] ((mk E c s (hh g)))).bind fun r3 => if r3.1.1 = 4 then none else
    Ev prog clsT X d mc194 181 [(2, 89), (0, x1), (0, x2), (0, x3), (3, 0), (3, 0)] (pushR r3.1 []) r3.2) else none)
else
  ((fget 6282 ((mk E c s (hh g))) 89).bind fun v4 =>
    (aget X 100 ((mk E c s (hh g))) v4 x3).bind fun v5 =>
    if cmpI .eq v5 28 = true then
    (Ev prog clsT X d mc194 27 [(2, 89), (0, x1), (0, x2), (0, x3), (0, v5), (3, 0)] [] (mk E c s (hh g)))
  else
    (if cmpI .ne v5 30 = true then
      (if cmpI .eq v5 20 = true then
        (Ev prog clsT X d mc194 48 [(2, 89), (0, x1), (0, x2), (0, x3), (0, v5), (3, 0)] [] (mk E c s (hh g)))
      else
        (if cmpI .ne v5 21 = true then
          (Ev prog clsT X d mc194 57 [(2, 89), (0, x1), (0, x2), (0, x3), (0, v5), (3, 0)] [] (mk E c s (hh g)))
        else
          (Ev prog clsT X d mc194 48 [(2, 89), (0, x1), (0, x2), (0, x3), (0, v5), (3, 0)] [] (mk E c s (hh g)))))
    else
      (Ev prog clsT X d mc194 27 [(2, 89), (0, x1), (0, x2), (0, x3), (0, v5), (3, 0)] [] (mk E c s (hh g))))))) X [0, 5, 10, 27, 41, 48, 51, 57, 72, 75, 108, 114, 137, 143, 159, 181] 25 rfl).trans (by simp (maxSteps := 10000000) only [R89_13, ↓A113, ↓A114, ↓F6278_89, ↓F6282_89, bindI, Option.bind_some, if_true_, and_self, ite_true, true_and, true_or, or_true])
set_option maxRecDepth 100000 in
theorem r194_27 (d : Nat) (x1 x2 x3 x4 : Int) : Ev prog clsT X d mc194 27 [(2, 89), (0, x1), (0, x2), (0, x3), (0, x4), (3, 0)] [] (mk E c s (hh g)) =
  (if cmpI .ne x4 30 = true then
  (if inb ((w32 (x2 + 1))) 7 = true then
    ((Call prog clsT X d 195 [(2, 89), (0, (w32 (x2 + 1)))] ((mk E c s (hh (up g 125 (Int.toNat ((w32 (x2 + 1)))) 0))))).bind fun r1 => if r1.1.1 = 4 then none else
    Ev prog clsT X d mc194 41 [(2, 89), (0, x1), (0, (w32 (x2 + 1))), (0, x3), (0, x4), (3, 0)] (pushR r1.1 []) r1.2)
  else none)
else
  (if inb ((w32 (x2 + 1))) 7 = true then
    ((Call prog clsT X d 195 [(2, 89), (0, (w32 (x2 + 1)))] ((mk E c s (hh (up g 125 (Int.toNat ((w32 (x2 + 1)))) 1))))).bind fun r2 => if r2.1.1 = 4 then none else
    Ev prog clsT X d mc194 41 [(2, 89), (0, x1), (0, (w32 (x2 + 1))), (0, x3), (0, x4), (3, 0)] (pushR r2.1 []) r2.2)
  else none)) :=
  (evk_at (r := ((fget 6334 ((mk E c s (hh g))) 89).bind fun v1 =>
  if cmpI .ne x4 30 = true then
  ((aput 100 ((mk E c s (hh g))) v1 ((w32 (x2 + 1))) (0)).bind fun M2 =>
    if (2 : Nat) = 2 ∧ rcv M2 89 13 = true then
    ((Call prog clsT X d 195 [(2, 89), (0, (w32 (x2 + 1)))] M2).bind fun r3 => if r3.1.1 = 4 then none else
    Ev prog clsT X d mc194 41 [(2, 89), (0, x1), (0, (w32 (x2 + 1))), (0, x3), (0, x4), (3, 0)] (pushR r3.1 []) r3.2) else none)
else
  ((aput 100 ((mk E c s (hh g))) v1 ((w32 (x2 + 1))) (1)).bind fun M4 =>
    if (2 : Nat) = 2 ∧ rcv M4 89 13 = true then
    ((Call prog clsT X d 195 [(2, 89), (0, (w32 (x2 + 1)))] M4).bind fun r5 => if r5.1.1 = 4 then none else
    Ev prog clsT X d mc194 41 [(2, 89), (0, x1), (0, (w32 (x2 + 1))), (0, x3), (0, x4), (3, 0)] (pushR r5.1 []) r5.2) else none))) X [0, 5, 10, 27, 41, 48, 51, 57, 72, 75, 108, 114, 137, 143, 159, 181] 14 rfl).trans (by simp (maxSteps := 10000000) only [R89_13, ↓F6334_89, ↓S125, bindI, Option.bind_some, if_true_, and_self, ite_true, true_and, true_or, or_true])
set_option maxRecDepth 100000 in
theorem r194_41 (d : Nat) (x1 x2 x3 x4 : Int) : Ev prog clsT X d mc194 41 [(2, 89), (0, x1), (0, x2), (0, x3), (0, x4), (3, 0)] [] (mk E c s (hh g)) =
  (Ev prog clsT X d mc194 10 [(2, 89), (0, x1), (0, x2), (0, (w32 (x3 + 1))), (0, x4), (3, 0)] [] (mk E c s (hh g))) :=
  evk_at X [0, 5, 10, 27, 41, 48, 51, 57, 72, 75, 108, 114, 137, 143, 159, 181] 5 rfl
set_option maxRecDepth 100000 in
theorem r194_48 (d : Nat) (x1 x2 x3 x4 : Int) : Ev prog clsT X d mc194 48 [(2, 89), (0, x1), (0, x2), (0, x3), (0, x4), (3, 0)] [] (mk E c s (hh g)) =
  ((Call prog clsT X d 196 [(2, 89), (0, x2)] ((mk E c s (hh g)))).bind fun r1 => if r1.1.1 = 4 then none else
  Ev prog clsT X d mc194 51 [(2, 89), (0, x1), (0, x2), (0, x3), (0, x4), (3, 0)] (pushR r1.1 []) r1.2) :=
  (evk_at (r := (if (2 : Nat) = 2 ∧ rcv ((mk E c s (hh g))) 89 13 = true then
  ((Call prog clsT X d 196 [(2, 89), (0, x2)] ((mk E c s (hh g)))).bind fun r1 => if r1.1.1 = 4 then none else
  Ev prog clsT X d mc194 51 [(2, 89), (0, x1), (0, x2), (0, x3), (0, x4), (3, 0)] (pushR r1.1 []) r1.2) else none)) X [0, 5, 10, 27, 41, 48, 51, 57, 72, 75, 108, 114, 137, 143, 159, 181] 4 rfl).trans (by simp (maxSteps := 10000000) only [R89_13, bindI, Option.bind_some, if_true_, and_self, ite_true, true_and, true_or, or_true])
set_option maxRecDepth 100000 in
theorem r194_51 (d : Nat) (x1 x2 x3 x4 : Int) : Ev prog clsT X d mc194 51 [(2, 89), (0, x1), (0, x2), (0, x3), (0, x4), (3, 0)] [] (mk E c s (hh g)) =
  (if inb x2 7 = true then
  (Ev prog clsT X d mc194 10 [(2, 89), (0, x1), (0, x2), (0, (w32 (x3 + 1))), (0, x4), (3, 0)] [] (mk E c s (hh (up g 122 (Int.toNat x2) x4))))
else none) :=
  (evk_at (r := ((fget 6322 ((mk E c s (hh g))) 89).bind fun v1 =>
  (aput 100 ((mk E c s (hh g))) v1 x2 (x4)).bind fun M2 =>
  Ev prog clsT X d mc194 10 [(2, 89), (0, x1), (0, x2), (0, (w32 (x3 + 1))), (0, x4), (3, 0)] [] M2)) X [0, 5, 10, 27, 41, 48, 51, 57, 72, 75, 108, 114, 137, 143, 159, 181] 10 rfl).trans (by simp (maxSteps := 10000000) only [↓F6322_89, ↓S122, bindI, Option.bind_some, if_true_, and_self, ite_true, true_and, true_or, or_true])
set_option maxRecDepth 100000 in
theorem r194_57 (d : Nat) (x1 x2 x3 x4 : Int) : Ev prog clsT X d mc194 57 [(2, 89), (0, x1), (0, x2), (0, x3), (0, x4), (3, 0)] [] (mk E c s (hh g)) =
  (if cmpI .ne x4 22 = true then
  (if cmpI .eq x4 24 = true then
    (Ev prog clsT X d mc194 72 [(2, 89), (0, x1), (0, x2), (0, x3), (0, x4), (3, 0)] [] (mk E c s (hh g)))
  else
    (if cmpI .ne x4 25 = true then
      (if cmpI .eq x4 26 = true then
        ((Call prog clsT X d 197 [(2, 89), (0, x2)] ((mk E c s (hh g)))).bind fun r1 => if r1.1.1 = 4 then none else
          Ev prog clsT X d mc194 108 [(2, 89), (0, x1), (0, x2), (0, x3), (0, x4), (3, 0)] (pushR r1.1 []) r1.2)
      else
        (if cmpI .ne x4 27 = true then
          (Ev prog clsT X d mc194 114 [(2, 89), (0, x1), (0, x2), (0, x3), (0, x4), (3, 0)] [] (mk E c s (hh g)))
        else
          ((Call prog clsT X d 197 [(2, 89), (0, x2)] ((mk E c s (hh g)))).bind fun r2 => if r2.1.1 = 4 then none else
            Ev prog clsT X d mc194 108 [(2, 89), (0, x1), (0, x2), (0, x3), (0, x4), (3, 0)] (pushR r2.1 []) r2.2)))
    else
      (Ev prog clsT X d mc194 72 [(2, 89), (0, x1), (0, x2), (0, x3), (0, x4), (3, 0)] [] (mk E c s (hh g)))))
else
  (if inb x2 7 = true then
    (Ev prog clsT X d mc194 10 [(2, 89), (0, x1), (0, x2), (0, (w32 (x3 + 1))), (0, x4), (3, 0)] [] (mk E c s (hh (up g 124 (Int.toNat x2) x4))))
  else none)) :=
  (evk_at (r := (if cmpI .ne x4 22 = true then
  (if cmpI .eq x4 24 = true then
    (Ev prog clsT X d mc194 72 [(2, 89), (0, x1), (0, x2), (0, x3), (0, x4), (3, 0)] [] (mk E c s (hh g)))
  else
    (if cmpI .ne x4 25 = true then
      (if cmpI .eq x4 26 = true then
        (if (2 : Nat) = 2 ∧ rcv ((mk E c s (hh g))) 89 13 = true then
          ((Call prog clsT X d 197 [(2, 89), (0, x2)] ((mk E c s (hh g)))).bind fun r1 => if r1.1.1 = 4 then none else
          Ev prog clsT X d mc194 108 [(2, 89), (0, x1), (0, x2), (0, x3), (0, x4), (3, 0)] (pushR r1.1 []) r1.2) else none)
      else
        (if cmpI .ne x4 27 = true then
          (Ev prog clsT X d mc194 114 [(2, 89), (0, x1), (0, x2), (0, x3), (0, x4), (3, 0)] [] (mk E c s (hh g)))
        else
          (if (2 : Nat) = 2 ∧ rcv ((mk E c s (hh g))) 89 13 = true then
            ((Call prog clsT X d 197 [(2, 89), (0, x2)] ((mk E c s (hh g)))).bind fun r2 => if r2.1.1 = 4 then none else
            Ev prog clsT X d mc194 108 [(2, 89), (0, x1), (0, x2), (0, x3), (0, x4), (3, 0)] (pushR r2.1 []) r2.2) else none)))
    else
      (Ev prog clsT X d mc194 72 [(2, 89), (0, x1), (0, x2), (0, x3), (0, x4), (3, 0)] [] (mk E c s (hh g)))))
else
  ((fget 6330 ((mk E c s (hh g))) 89).bind fun v3 =>
    (aput 100 ((mk E c s (hh g))) v3 x2 (x4)).bind fun M4 =>
    Ev prog clsT X d mc194 10 [(2, 89), (0, x1), (0, x2), (0, (w32 (x3 + 1))), (0, x4), (3, 0)] [] M4))) X [0, 5, 10, 27, 41, 48, 51, 57, 72, 75, 108, 114, 137, 143, 159, 181] 19 rfl).trans (by simp (maxSteps := 10000000) only [R89_13, ↓F6330_89, ↓S124, bindI, Option.bind_some, if_true_, and_self, ite_true, true_and, true_or, or_true])
set_option maxRecDepth 100000 in
theorem r194_72 (d : Nat) (x1 x2 x3 x4 : Int) : Ev prog clsT X d mc194 72 [(2, 89), (0, x1), (0, x2), (0, x3), (0, x4), (3, 0)] [] (mk E c s (hh g)) =
  ((Call prog clsT X d 196 [(2, 89), (0, x2)] ((mk E c s (hh g)))).bind fun r1 => if r1.1.1 = 4 then none else
  Ev prog clsT X d mc194 75 [(2, 89), (0, x1), (0, x2), (0, x3), (0, x4), (3, 0)] (pushR r1.1 []) r1.2) :=
  (evk_at (r := (if (2 : Nat) = 2 ∧ rcv ((mk E c s (hh g))) 89 13 = true then
  ((Call prog clsT X d 196 [(2, 89), (0, x2)] ((mk E c s (hh g)))).bind fun r1 => if r1.1.1 = 4 then none else
  Ev prog clsT X d mc194 75 [(2, 89), (0, x1), (0, x2), (0, x3), (0, x4), (3, 0)] (pushR r1.1 []) r1.2) else none)) X [0, 5, 10, 27, 41, 48, 51, 57, 72, 75, 108, 114, 137, 143, 159, 181] 4 rfl).trans (by simp (maxSteps := 10000000) only [R89_13, bindI, Option.bind_some, if_true_, and_self, ite_true, true_and, true_or, or_true])
set_option maxRecDepth 100000 in
theorem r194_75 (d : Nat) (x1 x2 x3 x4 : Int) : Ev prog clsT X d mc194 75 [(2, 89), (0, x1), (0, x2), (0, x3), (0, x4), (3, 0)] [] (mk E c s (hh g)) =
  (if inb x2 7 = true then
  (if inb x2 7 = true then
  (if inb x2 7 = true then
  (if inb x2 7 = true then
  (if inb x2 7 = true then
  (Ev prog clsT X d mc194 10 [(2, 89), (0, x1), (0, x2), (0, (w32 (x3 + 1))), (0, x4), (3, 0)] [] (mk E c s (hh (up (up (up (up g 119 (Int.toNat x2) ((g 121 (Int.toNat x2)))) 120 (Int.toNat x2) x4) 121 (Int.toNat x2) 0) 122 (Int.toNat x2) 20))))
else none)
else none)
else none)
else none)
else none) :=
  (evk_at (r := ((fget 6310 ((mk E c s (hh g))) 89).bind fun v1 =>
  (fget 6318 ((mk E c s (hh g))) 89).bind fun v2 =>
  (aget X 100 ((mk E c s (hh g))) v2 x2).bind fun v3 =>
  (aput 100 ((mk E c s (hh g))) v1 x2 (v3)).bind fun M4 =>
  (fget 6314 M4 89).bind fun v5 =>
  (aput 100 M4 v5 x2 (x4)).bind fun M6 =>
  (fget 6318 M6 89).bind fun v7 =>
  (aput 100 M6 v7 x2 (0)).bind fun M8 =>
  (fget 6322 M8 89).bind fun v9 =>
  (aput 100 M8 v9 x2 (20)).bind fun M10 =>
  Ev prog clsT X d mc194 10 [(2, 89), (0, x1), (0, x2), (0, (w32 (x3 + 1))), (0, x4), (3, 0)] [] M10)) X [0, 5, 10, 27, 41, 48, 51, 57, 72, 75, 108, 114, 137, 143, 159, 181] 28 rfl).trans (by simp (maxSteps := 10000000) only [↓A121, ↓F6310_89, ↓F6314_89, ↓F6318_89, ↓F6322_89, ↓S119, ↓S120, ↓S121, ↓S122, bindI, Option.bind_some, if_true_, and_self, ite_true, true_and, true_or, or_true])
set_option maxRecDepth 100000 in
theorem r194_108 (d : Nat) (x1 x2 x3 x4 : Int) : Ev prog clsT X d mc194 108 [(2, 89), (0, x1), (0, x2), (0, x3), (0, x4), (3, 0)] [] (mk E c s (hh g)) =
  (if inb x2 7 = true then
  (Ev prog clsT X d mc194 10 [(2, 89), (0, x1), (0, x2), (0, (w32 (x3 + 1))), (0, x4), (3, 0)] [] (mk E c s (hh (up g 118 (Int.toNat x2) x4))))
else none) :=
  (evk_at (r := ((fget 6306 ((mk E c s (hh g))) 89).bind fun v1 =>
  (aput 100 ((mk E c s (hh g))) v1 x2 (x4)).bind fun M2 =>
  Ev prog clsT X d mc194 10 [(2, 89), (0, x1), (0, x2), (0, (w32 (x3 + 1))), (0, x4), (3, 0)] [] M2)) X [0, 5, 10, 27, 41, 48, 51, 57, 72, 75, 108, 114, 137, 143, 159, 181] 10 rfl).trans (by simp (maxSteps := 10000000) only [↓F6306_89, ↓S118, bindI, Option.bind_some, if_true_, and_self, ite_true, true_and, true_or, or_true])
set_option maxRecDepth 100000 in
theorem r194_114 (d : Nat) (x1 x2 x3 x4 : Int) : Ev prog clsT X d mc194 114 [(2, 89), (0, x1), (0, x2), (0, x3), (0, x4), (3, 0)] [] (mk E c s (hh g)) =
  (if cmpI .lt x4 100 = true then
  (if cmpI .ge x4 20 = true then
    (if cmpI .ne x4 29 = true then
      (Ev prog clsT X d mc194 143 [(2, 89), (0, x1), (0, x2), (0, x3), (0, x4), (0, 0)] [] (mk E c s (hh g)))
    else
      ((Call prog clsT X d 197 [(2, 89), (0, x2)] ((mk E c s (hh g)))).bind fun r1 => if r1.1.1 = 4 then none else
        Ev prog clsT X d mc194 137 [(2, 89), (0, x1), (0, x2), (0, x3), (0, x4), (0, 0)] (pushR r1.1 []) r1.2))
  else
    (if inb x4 20 = true then
      (if cmpI .ne x4 29 = true then
      (Ev prog clsT X d mc194 143 [(2, 89), (0, x1), (0, x2), (0, x3), (0, x4), (0, (g 126 (Int.toNat x4)))] [] (mk E c s (hh g)))
    else
      ((Call prog clsT X d 197 [(2, 89), (0, x2)] ((mk E c s (hh g)))).bind fun r2 => if r2.1.1 = 4 then none else
        Ev prog clsT X d mc194 137 [(2, 89), (0, x1), (0, x2), (0, x3), (0, x4), (0, (g 126 (Int.toNat x4)))] (pushR r2.1 []) r2.2))
    else none))
else
  (if cmpI .ne x4 29 = true then
    (Ev prog clsT X d mc194 143 [(2, 89), (0, x1), (0, x2), (0, x3), (0, x4), (0, (w32 (x4 - 100)))] [] (mk E c s (hh g)))
  else
    ((Call prog clsT X d 197 [(2, 89), (0, x2)] ((mk E c s (hh g)))).bind fun r3 => if r3.1.1 = 4 then none else
      Ev prog clsT X d mc194 137 [(2, 89), (0, x1), (0, x2), (0, x3), (0, x4), (0, (w32 (x4 - 100)))] (pushR r3.1 []) r3.2))) :=
  (evk_at (r := (if cmpI .lt x4 100 = true then
  (if cmpI .ge x4 20 = true then
    (if cmpI .ne x4 29 = true then
      (Ev prog clsT X d mc194 143 [(2, 89), (0, x1), (0, x2), (0, x3), (0, x4), (0, 0)] [] (mk E c s (hh g)))
    else
      (if (2 : Nat) = 2 ∧ rcv ((mk E c s (hh g))) 89 13 = true then
        ((Call prog clsT X d 197 [(2, 89), (0, x2)] ((mk E c s (hh g)))).bind fun r1 => if r1.1.1 = 4 then none else
        Ev prog clsT X d mc194 137 [(2, 89), (0, x1), (0, x2), (0, x3), (0, x4), (0, 0)] (pushR r1.1 []) r1.2) else none))
  else
    ((fget 6338 ((mk E c s (hh g))) 89).bind fun v2 =>
      (aget X 100 ((mk E c s (hh g))) v2 x4).bind fun v3 =>
      if cmpI .ne x4 29 = true then
      (Ev prog clsT X d mc194 143 [(2, 89), (0, x1), (0, x2), (0, x3), (0, x4), (0, v3)] [] (mk E c s (hh g)))
    else
      (if (2 : Nat) = 2 ∧ rcv ((mk E c s (hh g))) 89 13 = true then
        ((Call prog clsT X d 197 [(2, 89), (0, x2)] ((mk E c s (hh g)))).bind fun r4 => if r4.1.1 = 4 then none else
        Ev prog clsT X d mc194 137 [(2, 89), (0, x1), (0, x2), (0, x3), (0, x4), (0, v3)] (pushR r4.1 []) r4.2) else none)))
else
  (if cmpI .ne x4 29 = true then
    (Ev prog clsT X d mc194 143 [(2, 89), (0, x1), (0, x2), (0, x3), (0, x4), (0, (w32 (x4 - 100)))] [] (mk E c s (hh g)))
  else
    (if (2 : Nat) = 2 ∧ rcv ((mk E c s (hh g))) 89 13 = true then
      ((Call prog clsT X d 197 [(2, 89), (0, x2)] ((mk E c s (hh g)))).bind fun r5 => if r5.1.1 = 4 then none else
      Ev prog clsT X d mc194 137 [(2, 89), (0, x1), (0, x2), (0, x3), (0, x4), (0, (w32 (x4 - 100)))] (pushR r5.1 []) r5.2) else none)))) X [0, 5, 10, 27, 41, 48, 51, 57, 72, 75, 108, 114, 137, 143, 159, 181] 19 rfl).trans (by simp (maxSteps := 10000000) only [R89_13, ↓A126, ↓F6338_89, bindI, Option.bind_some, if_true_, and_self, ite_true, true_and, true_or, or_true])
set_option maxRecDepth 100000 in
theorem r194_137 (d : Nat) (x1 x2 x3 x4 x5 : Int) : Ev prog clsT X d mc194 137 [(2, 89), (0, x1), (0, x2), (0, x3), (0, x4), (0, x5)] [] (mk E c s (hh g)) =
  (if inb x2 7 = true then
  (Ev prog clsT X d mc194 143 [(2, 89), (0, x1), (0, (w32 (x2 + (-1)))), (0, x3), (0, x4), (0, (g 117 (Int.toNat x2)))] [] (mk E c s (hh g)))
else none) :=
  (evk_at (r := ((fget 6302 ((mk E c s (hh g))) 89).bind fun v1 =>
  (aget X 100 ((mk E c s (hh g))) v1 x2).bind fun v2 =>
  Ev prog clsT X d mc194 143 [(2, 89), (0, x1), (0, (w32 (x2 + (-1)))), (0, x3), (0, x4), (0, v2)] [] (mk E c s (hh g)))) X [0, 5, 10, 27, 41, 48, 51, 57, 72, 75, 108, 114, 137, 143, 159, 181] 8 rfl).trans (by simp (maxSteps := 10000000) only [↓A117, ↓F6302_89, bindI, Option.bind_some, if_true_, and_self, ite_true, true_and, true_or, or_true])
set_option maxRecDepth 100000 in
theorem r194_143 (d : Nat) (x1 x2 x3 x5 : Int) (w4 : MV) : Ev prog clsT X d mc194 143 [(2, 89), (0, x1), (0, x2), (0, x3), w4, (0, x5)] [] (mk E c s (hh g)) =
  (if cmpI .le x2 0 = true then
  (Ev prog clsT X d mc194 159 [(2, 89), (0, x1), (0, x2), (0, x3), (3, 0), (0, x5)] [] (mk E c s (hh g)))
else
  (if inb x2 7 = true then
    (if cmpI .ne ((g 125 (Int.toNat x2))) 1 = true then
    (Ev prog clsT X d mc194 159 [(2, 89), (0, x1), (0, x2), (0, x3), (3, 0), (0, x5)] [] (mk E c s (hh g)))
  else
    (if cmpI .ne x5 0 = true then
      (Ev prog clsT X d mc194 143 [(2, 89), (0, x1), (0, (w32 (x2 + (-1)))), (0, x3), (3, 0), (0, 0)] [] (mk E c s (hh g)))
    else
      (Ev prog clsT X d mc194 143 [(2, 89), (0, x1), (0, (w32 (x2 + (-1)))), (0, x3), (3, 0), (0, 1)] [] (mk E c s (hh g)))))
  else none)) :=
  (evk_at (r := (if cmpI .le x2 0 = true then
  (Ev prog clsT X d mc194 159 [(2, 89), (0, x1), (0, x2), (0, x3), (3, 0), (0, x5)] [] (mk E c s (hh g)))
else
  ((fget 6334 ((mk E c s (hh g))) 89).bind fun v1 =>
    (aget X 100 ((mk E c s (hh g))) v1 x2).bind fun v2 =>
    if cmpI .ne v2 1 = true then
    (Ev prog clsT X d mc194 159 [(2, 89), (0, x1), (0, x2), (0, x3), (3, 0), (0, x5)] [] (mk E c s (hh g)))
  else
    (if cmpI .ne x5 0 = true then
      (Ev prog clsT X d mc194 143 [(2, 89), (0, x1), (0, (w32 (x2 + (-1)))), (0, x3), (3, 0), (0, 0)] [] (mk E c s (hh g)))
    else
      (Ev prog clsT X d mc194 143 [(2, 89), (0, x1), (0, (w32 (x2 + (-1)))), (0, x3), (3, 0), (0, 1)] [] (mk E c s (hh g))))))) X [0, 5, 10, 27, 41, 48, 51, 57, 72, 75, 108, 114, 137, 143, 159, 181] 17 rfl).trans (by simp (maxSteps := 10000000) only [↓A125, ↓F6334_89, bindI, Option.bind_some, if_true_, and_self, ite_true, true_and, true_or, or_true])
set_option maxRecDepth 100000 in
theorem r194_159 (d : Nat) (x1 x2 x3 x5 : Int) : Ev prog clsT X d mc194 159 [(2, 89), (0, x1), (0, x2), (0, x3), (3, 0), (0, x5)] [] (mk E c s (hh g)) =
  (if inb x2 7 = true then
  (if cmpI .ne ((g 124 (Int.toNat x2))) 0 = true then
  (if inb x2 7 = true then
    (if inb x2 7 = true then
    (Ev prog clsT X d mc194 10 [(2, 89), (0, x1), (0, x2), (0, (w32 (x3 + 1))), (3, 0), (0, x5)] [] (mk E c s (hh (up g 123 (Int.toNat x2) ((w32 (((g 123 (Int.toNat x2))) * x5)))))))
  else none)
  else none)
else
  (if inb x2 7 = true then
    (Ev prog clsT X d mc194 10 [(2, 89), (0, x1), (0, x2), (0, (w32 (x3 + 1))), (3, 0), (0, x5)] [] (mk E c s (hh (up g 123 (Int.toNat x2) x5))))
  else none))
else none) :=
  (evk_at (r := ((fget 6326 ((mk E c s (hh g))) 89).bind fun v1 =>
  (fget 6330 ((mk E c s (hh g))) 89).bind fun v2 =>
  (aget X 100 ((mk E c s (hh g))) v2 x2).bind fun v3 =>
  if cmpI .ne v3 0 = true then
  ((fget 6326 ((mk E c s (hh g))) 89).bind fun v4 =>
    (aget X 100 ((mk E c s (hh g))) v4 x2).bind fun v5 =>
    (aput 100 ((mk E c s (hh g))) v1 x2 ((w32 (v5 * x5)))).bind fun M6 =>
    Ev prog clsT X d mc194 10 [(2, 89), (0, x1), (0, x2), (0, (w32 (x3 + 1))), (3, 0), (0, x5)] [] M6)
else
  ((aput 100 ((mk E c s (hh g))) v1 x2 (x5)).bind fun M7 =>
    Ev prog clsT X d mc194 10 [(2, 89), (0, x1), (0, x2), (0, (w32 (x3 + 1))), (3, 0), (0, x5)] [] M7))) X [0, 5, 10, 27, 41, 48, 51, 57, 72, 75, 108, 114, 137, 143, 159, 181] 19 rfl).trans (by simp (maxSteps := 10000000) only [↓A123, ↓A124, ↓F6326_89, ↓F6330_89, ↓S123, bindI, Option.bind_some, if_true_, and_self, ite_true, true_and, true_or, or_true])
set_option maxRecDepth 100000 in
theorem r194_181 (d : Nat) (x1 x2 x3 : Int) : Ev prog clsT X d mc194 181 [(2, 89), (0, x1), (0, x2), (0, x3), (3, 0), (3, 0)] [] (mk E c s (hh g)) =
  (some ((0, (g 117 0)), ((mk E c s (hh g))))) :=
  (evk_at (r := ((fget 6302 ((mk E c s (hh g))) 89).bind fun v1 =>
  (aget X 100 ((mk E c s (hh g))) v1 0).bind fun v2 =>
  some ((0, v2), (mk E c s (hh g))))) X [0, 5, 10, 27, 41, 48, 51, 57, 72, 75, 108, 114, 137, 143, 159, 181] 6 rfl).trans (by simp (maxSteps := 10000000) only [inbL 0 7 rfl, tn0, ↓A117, ↓F6302_89, bindI, Option.bind_some, if_true_, and_self, ite_true, true_and, true_or, or_true])
set_option maxRecDepth 100000 in
theorem r195_0 (d : Nat) (x1 : Int) : Ev prog clsT X d mc195 0 [(2, 89), (0, x1)] [] (mk E c s (hh g)) =
  (if inb x1 7 = true then
  (if inb x1 7 = true then
  (if inb x1 7 = true then
  (if inb x1 7 = true then
  (if inb x1 7 = true then
  (some ((3, 0), ((mk E c s (hh (up (up (up (up (up g 118 (Int.toNat x1) 0) 120 (Int.toNat x1) 0) 121 (Int.toNat x1) 0) 122 (Int.toNat x1) 20) 124 (Int.toNat x1) 0))))))
else none)
else none)
else none)
else none)
else none) :=
  (evk_at (r := ((fget 6306 ((mk E c s (hh g))) 89).bind fun v1 =>
  (aput 100 ((mk E c s (hh g))) v1 x1 (0)).bind fun M2 =>
  (fget 6314 M2 89).bind fun v3 =>
  (aput 100 M2 v3 x1 (0)).bind fun M4 =>
  (fget 6318 M4 89).bind fun v5 =>
  (aput 100 M4 v5 x1 (0)).bind fun M6 =>
  (fget 6322 M6 89).bind fun v7 =>
  (aput 100 M6 v7 x1 (20)).bind fun M8 =>
  (fget 6330 M8 89).bind fun v9 =>
  (aput 100 M8 v9 x1 (0)).bind fun M10 =>
  some ((3, 0), M10))) X [0] 27 rfl).trans (by simp (maxSteps := 10000000) only [↓F6306_89, ↓F6314_89, ↓F6318_89, ↓F6322_89, ↓F6330_89, ↓S118, ↓S120, ↓S121, ↓S122, ↓S124, bindI, Option.bind_some, if_true_, and_self, ite_true, true_and, true_or, or_true])
set_option maxRecDepth 100000 in
theorem rc195_ (d : Nat) (x1 : Int) : Call prog clsT X (d + 1) 195 [(2, 89), (0, x1)] (mk E c s (hh g)) =
  (if inb x1 7 = true then
  (if inb x1 7 = true then
  (if inb x1 7 = true then
  (if inb x1 7 = true then
  (if inb x1 7 = true then
  (some ((3, 0), ((mk E c s (hh (up (up (up (up (up g 118 (Int.toNat x1) 0) 120 (Int.toNat x1) 0) 121 (Int.toNat x1) 0) 122 (Int.toNat x1) 20) 124 (Int.toNat x1) 0))))))
else none)
else none)
else none)
else none)
else none) :=
  (show Call prog clsT X (d + 1) 195 [(2, 89), (0, x1)] (mk E c s (hh g)) = Ev prog clsT X d mc195 0 [(2, 89), (0, x1)] [] (mk E c s (hh g)) from rfl).trans (r195_0 X E c s g d x1 )
end
