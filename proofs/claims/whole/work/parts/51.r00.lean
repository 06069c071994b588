/-! Part 51.r00: printed by wip/whole/emit6.py: equations with the fixed cells put in. -/
section
variable (X : MExt) (E : List (Nat × Nat)) (c s : Nat) (g : Nat → Nat → Int)
set_option maxRecDepth 100000 in
theorem r1_0 (d : Nat) : Ev prog clsT X d mc1 0 [(2, 55)] [] (mk E c s (hh g)) =
  ((Call prog clsT X d 248 [(2, 56), (0, 0)] ((mk E c s (hh g)))).bind fun r1 => if r1.1.1 = 4 then none else
  Ev prog clsT X d mc1 4 [(2, 55)] (pushR r1.1 []) r1.2) :=
  (evk_at (r := ((fget 2 ((mk E c s (hh g))) 55).bind fun v1 =>
  (Call prog clsT X d 248 [(2, v1), (0, 0)] ((mk E c s (hh g)))).bind fun r2 => if r2.1.1 = 4 then none else
  Ev prog clsT X d mc1 4 [(2, 55)] (pushR r2.1 []) r2.2)) X [0, 4] 5 rfl).trans (by simp (maxSteps := 10000000) only [↓F2_55, bindI, Option.bind_some, if_true_, and_self, ite_true, true_and, true_or, or_true])
set_option maxRecDepth 100000 in
theorem rc1_ (d : Nat) : Call prog clsT X (d + 1) 1 [(2, 55)] (mk E c s (hh g)) =
  ((Call prog clsT X d 248 [(2, 56), (0, 0)] ((mk E c s (hh g)))).bind fun r1 => if r1.1.1 = 4 then none else
  Ev prog clsT X d mc1 4 [(2, 55)] (pushR r1.1 []) r1.2) :=
  (show Call prog clsT X (d + 1) 1 [(2, 55)] (mk E c s (hh g)) = Ev prog clsT X d mc1 0 [(2, 55)] [] (mk E c s (hh g)) from rfl).trans (r1_0 X E c s g d  )
set_option maxRecDepth 100000 in
theorem r1_4 (d : Nat) : Ev prog clsT X d mc1 4 [(2, 55)] [] (mk E c s (hh g)) =
  (some ((3, 0), ((mk E c s (hh g))))) :=
  (evk_at (r := (some ((3, 0), (mk E c s (hh g))))) X [0, 4] 2 rfl).trans (by simp (maxSteps := 10000000) only [bindI, Option.bind_some, if_true_, and_self, ite_true, true_and, true_or, or_true])
set_option maxRecDepth 100000 in
theorem r2_0 (d : Nat) (x1 x2 x3 : Int) : Ev prog clsT X d mc2 0 [(2, 55), (0, x1), (0, x2), (0, x3)] [] (mk E c s (hh g)) =
  (if inb x1 40 = true then
  (if inb x1 40 = true then
  (if inb x1 40 = true then
  (some ((3, 0), ((mk E c s (hh (up (up (up g 56 (Int.toNat x1) 1) 58 (Int.toNat x1) x2) 59 (Int.toNat x1) x3))))))
else none)
else none)
else none) :=
  (evk_at (r := ((fget 2 ((mk E c s (hh g))) 55).bind fun v1 =>
  (aput 100 ((mk E c s (hh g))) v1 x1 (1)).bind fun M2 =>
  (fget 10 M2 55).bind fun v3 =>
  (aput 100 M2 v3 x1 (x2)).bind fun M4 =>
  (fget 14 M4 55).bind fun v5 =>
  (aput 100 M4 v5 x1 (x3)).bind fun M6 =>
  some ((3, 0), M6))) X [0] 17 rfl).trans (by simp (maxSteps := 10000000) only [↓F10_55, ↓F14_55, ↓F2_55, ↓S56, ↓S58, ↓S59, bindI, Option.bind_some, if_true_, and_self, ite_true, true_and, true_or, or_true])
set_option maxRecDepth 100000 in
theorem rc2_ (d : Nat) (x1 x2 x3 : Int) : Call prog clsT X (d + 1) 2 [(2, 55), (0, x1), (0, x2), (0, x3)] (mk E c s (hh g)) =
  (if inb x1 40 = true then
  (if inb x1 40 = true then
  (if inb x1 40 = true then
  (some ((3, 0), ((mk E c s (hh (up (up (up g 56 (Int.toNat x1) 1) 58 (Int.toNat x1) x2) 59 (Int.toNat x1) x3))))))
else none)
else none)
else none) :=
  (show Call prog clsT X (d + 1) 2 [(2, 55), (0, x1), (0, x2), (0, x3)] (mk E c s (hh g)) = Ev prog clsT X d mc2 0 [(2, 55), (0, x1), (0, x2), (0, x3)] [] (mk E c s (hh g)) from rfl).trans (r2_0 X E c s g d x1 x2 x3 )
set_option maxRecDepth 100000 in
theorem r3_0 (d : Nat) (x1 : Int) : Ev prog clsT X d mc3 0 [(2, 55), (0, x1), (3, 0), (3, 0)] [] (mk E c s (hh g)) =
  (Ev prog clsT X d mc3 2 [(2, 55), (0, x1), (0, 0), (3, 0)] [] (mk E c s (hh g))) :=
  evk_at X [0, 2, 10, 30] 4 rfl
set_option maxRecDepth 100000 in
theorem rc3_ (d : Nat) (x1 : Int) : Call prog clsT X (d + 1) 3 [(2, 55), (0, x1)] (mk E c s (hh g)) =
  (Ev prog clsT X d mc3 2 [(2, 55), (0, x1), (0, 0), (3, 0)] [] (mk E c s (hh g))) :=
  (show Call prog clsT X (d + 1) 3 [(2, 55), (0, x1)] (mk E c s (hh g)) = Ev prog clsT X d mc3 0 [(2, 55), (0, x1), (3, 0), (3, 0)] [] (mk E c s (hh g)) from rfl).trans (r3_0 X E c s g d x1 )
set_option maxRecDepth 100000 in
theorem r3_2 (d : Nat) (x1 x2 : Int) (w3 : MV) : Ev prog clsT X d mc3 2 [(2, 55), (0, x1), (0, x2), w3] [] (mk E c s (hh g)) =
  (if cmpI .ge x2 x1 = true then
  (some ((3, 0), ((mk E c s (hh g)))))
else
  (if cmpI .ge x2 40 = true then
    (some ((3, 0), ((mk E c s (hh g)))))
  else
    (Ev prog clsT X d mc3 10 [(2, 55), (0, x1), (0, x2), (0, 0)] [] (mk E c s (hh g))))) :=
  (evk_at (r := (if cmpI .ge x2 x1 = true then
  (some ((3, 0), (mk E c s (hh g))))
else
  (if cmpI .ge x2 40 = true then
    (some ((3, 0), (mk E c s (hh g))))
  else
    (Ev prog clsT X d mc3 10 [(2, 55), (0, x1), (0, x2), (0, 0)] [] (mk E c s (hh g)))))) X [0, 2, 10, 30] 10 rfl).trans (by simp (maxSteps := 10000000) only [bindI, Option.bind_some, if_true_, and_self, ite_true, true_and, true_or, or_true])
set_option maxRecDepth 100000 in
theorem r3_10 (d : Nat) (x1 x2 x3 : Int) : Ev prog clsT X d mc3 10 [(2, 55), (0, x1), (0, x2), (0, x3)] [] (mk E c s (hh g)) =
  (if inb x2 40 = true then
  (if cmpI .le ((g 56 (Int.toNat x2))) 0 = true then
  (Ev prog clsT X d mc3 2 [(2, 55), (0, x1), (0, (w32 (x2 + 1))), (0, x3)] [] (mk E c s (hh g)))
else
  (if cmpI .ge x3 x1 = true then
    (Ev prog clsT X d mc3 2 [(2, 55), (0, x1), (0, (w32 (x2 + 1))), (0, x3)] [] (mk E c s (hh g)))
  else
    (if cmpI .ge x3 40 = true then
      (Ev prog clsT X d mc3 2 [(2, 55), (0, x1), (0, (w32 (x2 + 1))), (0, x3)] [] (mk E c s (hh g)))
    else
      (if inb x3 40 = true then
        (if cmpI .le ((g 56 (Int.toNat x3))) 0 = true then
        (Ev prog clsT X d mc3 10 [(2, 55), (0, x1), (0, x2), (0, (w32 (x3 + 1)))] [] (mk E c s (hh g)))
      else
        ((Call prog clsT X d 4 [(2, 55), (0, x3), (0, x2)] ((mk E c s (hh g)))).bind fun r1 => if r1.1.1 = 4 then none else
          Ev prog clsT X d mc3 30 [(2, 55), (0, x1), (0, x2), (0, x3)] (pushR r1.1 []) r1.2))
      else none))))
else none) :=
  (evk_at (r := ((fget 2 ((mk E c s (hh g))) 55).bind fun v1 =>
  (aget X 100 ((mk E c s (hh g))) v1 x2).bind fun v2 =>
  if cmpI .le v2 0 = true then
  (Ev prog clsT X d mc3 2 [(2, 55), (0, x1), (0, (w32 (x2 + 1))), (0, x3)] [] (mk E c s (hh g)))
else
  (if cmpI .ge x3 x1 = true then
    (Ev prog clsT X d mc3 2 [(2, 55), (0, x1), (0, (w32 (x2 + 1))), (0, x3)] [] (mk E c s (hh g)))
  else
    (if cmpI .ge x3 40 = true then
      (Ev prog clsT X d mc3 2 [(2, 55), (0, x1), (0, (w32 (x2 + 1))), (0, x3)] [] (mk E c s (hh g)))
    else
      ((fget 2 ((mk E c s (hh g))) 55).bind fun v3 =>
        (aget X 100 ((mk E c s (hh g))) v3 x3).bind fun v4 =>
        if cmpI .le v4 0 = true then
        (Ev prog clsT X d mc3 10 [(2, 55), (0, x1), (0, x2), (0, (w32 (x3 + 1)))] [] (mk E c s (hh g)))
      else
        (if (2 : Nat) = 2 ∧ rcv ((mk E c s (hh g))) 55 1 = true then
          ((Call prog clsT X d 4 [(2, 55), (0, x3), (0, x2)] ((mk E c s (hh g)))).bind fun r5 => if r5.1.1 = 4 then none else
          Ev prog clsT X d mc3 30 [(2, 55), (0, x1), (0, x2), (0, x3)] (pushR r5.1 []) r5.2) else none)))))) X [0, 2, 10, 30] 21 rfl).trans (by simp (maxSteps := 10000000) only [R55_1, ↓A56, ↓F2_55, bindI, Option.bind_some, if_true_, and_self, ite_true, true_and, true_or, or_true])
set_option maxRecDepth 100000 in
theorem r3_30 (d : Nat) (x1 x2 x3 s0 : Int) : Ev prog clsT X d mc3 30 [(2, 55), (0, x1), (0, x2), (0, x3)] [(0, s0)] (mk E c s (hh g)) =
  (if cmpI .eq s0 0 = true then
  (Ev prog clsT X d mc3 10 [(2, 55), (0, x1), (0, x2), (0, (w32 (x3 + 1)))] [] (mk E c s (hh g)))
else
  (if inb x2 40 = true then
    (if inb x2 40 = true then
    (Ev prog clsT X d mc3 10 [(2, 55), (0, x1), (0, x2), (0, (w32 (x3 + 1)))] [] (mk E c s (hh (up g 56 (Int.toNat x2) ((w32 (((g 56 (Int.toNat x2))) + 1)))))))
  else none)
  else none)) :=
  (evk_at (r := (if cmpI .eq s0 0 = true then
  (Ev prog clsT X d mc3 10 [(2, 55), (0, x1), (0, x2), (0, (w32 (x3 + 1)))] [] (mk E c s (hh g)))
else
  ((fget 2 ((mk E c s (hh g))) 55).bind fun v1 =>
    (aget X 100 ((mk E c s (hh g))) v1 x2).bind fun v2 =>
    (aput 100 ((mk E c s (hh g))) v1 x2 ((w32 (v2 + 1)))).bind fun M3 =>
    Ev prog clsT X d mc3 10 [(2, 55), (0, x1), (0, x2), (0, (w32 (x3 + 1)))] [] M3))) X [0, 2, 10, 30] 13 rfl).trans (by simp (maxSteps := 10000000) only [↓A56, ↓F2_55, ↓S56, bindI, Option.bind_some, if_true_, and_self, ite_true, true_and, true_or, or_true])
set_option maxRecDepth 100000 in
theorem r4_0 (d : Nat) (x1 x2 : Int) : Ev prog clsT X d mc4 0 [(2, 55), (0, x1), (0, x2)] [] (mk E c s (hh g)) =
  (if inb x1 40 = true then
  (if inb x2 40 = true then
  (if cmpI .eq ((g 58 (Int.toNat x1))) ((g 58 (Int.toNat x2))) = true then
  (if inb x1 40 = true then
    (if inb x2 40 = true then
    (if cmpI .le ((g 59 (Int.toNat x1))) ((g 59 (Int.toNat x2))) = true then
    (some ((0, 0), ((mk E c s (hh g)))))
  else
    (some ((0, 1), ((mk E c s (hh g))))))
  else none)
  else none)
else
  (if inb x1 40 = true then
    (if inb x2 40 = true then
    (if cmpI .le ((g 58 (Int.toNat x1))) ((g 58 (Int.toNat x2))) = true then
    (some ((0, 0), ((mk E c s (hh g)))))
  else
    (some ((0, 1), ((mk E c s (hh g))))))
  else none)
  else none))
else none)
else none) :=
  (evk_at (r := ((fget 10 ((mk E c s (hh g))) 55).bind fun v1 =>
  (aget X 100 ((mk E c s (hh g))) v1 x1).bind fun v2 =>
  (fget 10 ((mk E c s (hh g))) 55).bind fun v3 =>
  (aget X 100 ((mk E c s (hh g))) v3 x2).bind fun v4 =>
  if cmpI .eq v2 v4 = true then
  ((fget 14 ((mk E c s (hh g))) 55).bind fun v5 =>
    (aget X 100 ((mk E c s (hh g))) v5 x1).bind fun v6 =>
    (fget 14 ((mk E c s (hh g))) 55).bind fun v7 =>
    (aget X 100 ((mk E c s (hh g))) v7 x2).bind fun v8 =>
    if cmpI .le v6 v8 = true then
    (some ((0, 0), (mk E c s (hh g))))
  else
    (some ((0, 1), (mk E c s (hh g)))))
else
  ((fget 10 ((mk E c s (hh g))) 55).bind fun v9 =>
    (aget X 100 ((mk E c s (hh g))) v9 x1).bind fun v10 =>
    (fget 10 ((mk E c s (hh g))) 55).bind fun v11 =>
    (aget X 100 ((mk E c s (hh g))) v11 x2).bind fun v12 =>
    if cmpI .le v10 v12 = true then
    (some ((0, 0), (mk E c s (hh g))))
  else
    (some ((0, 1), (mk E c s (hh g))))))) X [0] 22 rfl).trans (by simp (maxSteps := 10000000) only [↓A58, ↓A59, ↓F10_55, ↓F14_55, bindI, Option.bind_some, if_true_, and_self, ite_true, true_and, true_or, or_true])
set_option maxRecDepth 100000 in
theorem rc4_ (d : Nat) (x1 x2 : Int) : Call prog clsT X (d + 1) 4 [(2, 55), (0, x1), (0, x2)] (mk E c s (hh g)) =
  (if inb x1 40 = true then
  (if inb x2 40 = true then
  (if cmpI .eq ((g 58 (Int.toNat x1))) ((g 58 (Int.toNat x2))) = true then
  (if inb x1 40 = true then
    (if inb x2 40 = true then
    (if cmpI .le ((g 59 (Int.toNat x1))) ((g 59 (Int.toNat x2))) = true then
    (some ((0, 0), ((mk E c s (hh g)))))
  else
    (some ((0, 1), ((mk E c s (hh g))))))
  else none)
  else none)
else
  (if inb x1 40 = true then
    (if inb x2 40 = true then
    (if cmpI .le ((g 58 (Int.toNat x1))) ((g 58 (Int.toNat x2))) = true then
    (some ((0, 0), ((mk E c s (hh g)))))
  else
    (some ((0, 1), ((mk E c s (hh g))))))
  else none)
  else none))
else none)
else none) :=
  (show Call prog clsT X (d + 1) 4 [(2, 55), (0, x1), (0, x2)] (mk E c s (hh g)) = Ev prog clsT X d mc4 0 [(2, 55), (0, x1), (0, x2)] [] (mk E c s (hh g)) from rfl).trans (r4_0 X E c s g d x1 x2 )
set_option maxRecDepth 100000 in
theorem r5_0 (d : Nat) : Ev prog clsT X d mc5 0 [(2, 55)] [] (mk E c s (hh g)) =
  ((Call prog clsT X d 248 [(2, 62), (0, 0)] ((mk E c s (hh g)))).bind fun r1 => if r1.1.1 = 4 then none else
  Ev prog clsT X d mc5 4 [(2, 55)] (pushR r1.1 []) r1.2) :=
  (evk_at (r := ((fget 34 ((mk E c s (hh g))) 55).bind fun v1 =>
  (Call prog clsT X d 248 [(2, v1), (0, 0)] ((mk E c s (hh g)))).bind fun r2 => if r2.1.1 = 4 then none else
  Ev prog clsT X d mc5 4 [(2, 55)] (pushR r2.1 []) r2.2)) X [0, 4, 8, 12] 5 rfl).trans (by simp (maxSteps := 10000000) only [↓F34_55, bindI, Option.bind_some, if_true_, and_self, ite_true, true_and, true_or, or_true])
set_option maxRecDepth 100000 in
theorem rc5_ (d : Nat) : Call prog clsT X (d + 1) 5 [(2, 55)] (mk E c s (hh g)) =
  ((Call prog clsT X d 248 [(2, 62), (0, 0)] ((mk E c s (hh g)))).bind fun r1 => if r1.1.1 = 4 then none else
  Ev prog clsT X d mc5 4 [(2, 55)] (pushR r1.1 []) r1.2) :=
  (show Call prog clsT X (d + 1) 5 [(2, 55)] (mk E c s (hh g)) = Ev prog clsT X d mc5 0 [(2, 55)] [] (mk E c s (hh g)) from rfl).trans (r5_0 X E c s g d  )
set_option maxRecDepth 100000 in
theorem r5_4 (d : Nat) : Ev prog clsT X d mc5 4 [(2, 55)] [] (mk E c s (hh g)) =
  ((Call prog clsT X d 248 [(2, 63), (0, 0)] ((mk E c s (hh g)))).bind fun r1 => if r1.1.1 = 4 then none else
  Ev prog clsT X d mc5 8 [(2, 55)] (pushR r1.1 []) r1.2) :=
  (evk_at (r := ((fget 38 ((mk E c s (hh g))) 55).bind fun v1 =>
  (Call prog clsT X d 248 [(2, v1), (0, 0)] ((mk E c s (hh g)))).bind fun r2 => if r2.1.1 = 4 then none else
  Ev prog clsT X d mc5 8 [(2, 55)] (pushR r2.1 []) r2.2)) X [0, 4, 8, 12] 5 rfl).trans (by simp (maxSteps := 10000000) only [↓F38_55, bindI, Option.bind_some, if_true_, and_self, ite_true, true_and, true_or, or_true])
set_option maxRecDepth 100000 in
theorem r5_8 (d : Nat) : Ev prog clsT X d mc5 8 [(2, 55)] [] (mk E c s (hh g)) =
  ((Call prog clsT X d 248 [(2, 64), (0, 0)] ((mk E c s (hh g)))).bind fun r1 => if r1.1.1 = 4 then none else
  Ev prog clsT X d mc5 12 [(2, 55)] (pushR r1.1 []) r1.2) :=
  (evk_at (r := ((fget 42 ((mk E c s (hh g))) 55).bind fun v1 =>
  (Call prog clsT X d 248 [(2, v1), (0, 0)] ((mk E c s (hh g)))).bind fun r2 => if r2.1.1 = 4 then none else
  Ev prog clsT X d mc5 12 [(2, 55)] (pushR r2.1 []) r2.2)) X [0, 4, 8, 12] 5 rfl).trans (by simp (maxSteps := 10000000) only [↓F42_55, bindI, Option.bind_some, if_true_, and_self, ite_true, true_and, true_or, or_true])
set_option maxRecDepth 100000 in
theorem r5_12 (d : Nat) : Ev prog clsT X d mc5 12 [(2, 55)] [] (mk E c s (hh g)) =
  (some ((3, 0), ((mk E c s (hh g))))) :=
  (evk_at (r := (some ((3, 0), (mk E c s (hh g))))) X [0, 4, 8, 12] 2 rfl).trans (by simp (maxSteps := 10000000) only [bindI, Option.bind_some, if_true_, and_self, ite_true, true_and, true_or, or_true])
set_option maxRecDepth 100000 in
theorem r6_0 (d : Nat) (x1 x2 : Int) : Ev prog clsT X d mc6 0 [(2, 55), (0, x1), (0, x2)] [] (mk E c s (hh g)) =
  (if cmpI .lt x2 1 = true then
  (some ((3, 0), ((mk E c s (hh g)))))
else
  (if cmpI .le x2 3 = true then
    (if inb x1 10 = true then
      (if inb ((w32 (x2 - 1))) 3 = true then
      (if inb x1 10 = true then
      (if inb x1 10 = true then
      (if inb ((w32 (x2 - 1))) 3 = true then
      (if inb x1 10 = true then
      (if inb x1 10 = true then
      (if cmpI .ne x2 1 = true then
      (if inb x1 10 = true then
        (some ((3, 0), ((mk E c s (hh (up (up (up g 62 (Int.toNat x1) ((w32 (((g 62 (Int.toNat x1))) + ((g 60 (Int.toNat ((w32 (x2 - 1)))))))))) 64 (Int.toNat x1) ((w32 (((g 64 (Int.toNat x1))) + ((g 61 (Int.toNat ((w32 (x2 - 1)))))))))) 63 (Int.toNat x1) ((w32 (((g 63 (Int.toNat x1))) + 0)))))))))
      else none)
    else
      (if inb x1 10 = true then
        (some ((3, 0), ((mk E c s (hh (up (up (up g 62 (Int.toNat x1) ((w32 (((g 62 (Int.toNat x1))) + ((g 60 (Int.toNat ((w32 (x2 - 1)))))))))) 64 (Int.toNat x1) ((w32 (((g 64 (Int.toNat x1))) + ((g 61 (Int.toNat ((w32 (x2 - 1)))))))))) 63 (Int.toNat x1) ((w32 (((g 63 (Int.toNat x1))) + 1)))))))))
      else none))
    else none)
    else none)
    else none)
    else none)
    else none)
    else none)
    else none)
  else
    (some ((3, 0), ((mk E c s (hh g))))))) :=
  (evk_at (r := (if cmpI .lt x2 1 = true then
  (some ((3, 0), (mk E c s (hh g))))
else
  (if cmpI .le x2 3 = true then
    ((fget 34 ((mk E c s (hh g))) 55).bind fun v1 =>
      (aget X 100 ((mk E c s (hh g))) v1 x1).bind fun v2 =>
      (fget 18 ((mk E c s (hh g))) 55).bind fun v3 =>
      (aget X 100 ((mk E c s (hh g))) v3 ((w32 (x2 - 1)))).bind fun v4 =>
      (aput 100 ((mk E c s (hh g))) v1 x1 ((w32 (v2 + v4)))).bind fun M5 =>
      (fget 42 M5 55).bind fun v6 =>
      (aget X 100 M5 v6 x1).bind fun v7 =>
      (fget 22 M5 55).bind fun v8 =>
      (aget X 100 M5 v8 ((w32 (x2 - 1)))).bind fun v9 =>
      (aput 100 M5 v6 x1 ((w32 (v7 + v9)))).bind fun M10 =>
      (fget 38 M10 55).bind fun v11 =>
      (aget X 100 M10 v11 x1).bind fun v12 =>
      if cmpI .ne x2 1 = true then
      ((aput 100 M10 v11 x1 ((w32 (v12 + 0)))).bind fun M13 =>
        some ((3, 0), M13))
    else
      ((aput 100 M10 v11 x1 ((w32 (v12 + 1)))).bind fun M14 =>
        some ((3, 0), M14)))
  else
    (some ((3, 0), (mk E c s (hh g))))))) X [0] 46 rfl).trans (by simp (maxSteps := 10000000) only [uc_62_61, uc_62_63, uc_62_64, uc_64_63, ↓A60, ↓A61, ↓A62, ↓A63, ↓A64, ↓F18_55, ↓F22_55, ↓F34_55, ↓F38_55, ↓F42_55, ↓S62, ↓S63, ↓S64, bindI, Option.bind_some, if_true_, and_self, ite_true, true_and, true_or, or_true])
set_option maxRecDepth 100000 in
theorem rc6_ (d : Nat) (x1 x2 : Int) : Call prog clsT X (d + 1) 6 [(2, 55), (0, x1), (0, x2)] (mk E c s (hh g)) =
  (if cmpI .lt x2 1 = true then
  (some ((3, 0), ((mk E c s (hh g)))))
else
  (if cmpI .le x2 3 = true then
    (if inb x1 10 = true then
      (if inb ((w32 (x2 - 1))) 3 = true then
      (if inb x1 10 = true then
      (if inb x1 10 = true then
      (if inb ((w32 (x2 - 1))) 3 = true then
      (if inb x1 10 = true then
      (if inb x1 10 = true then
      (if cmpI .ne x2 1 = true then
      (if inb x1 10 = true then
        (some ((3, 0), ((mk E c s (hh (up (up (up g 62 (Int.toNat x1) ((w32 (((g 62 (Int.toNat x1))) + ((g 60 (Int.toNat ((w32 (x2 - 1)))))))))) 64 (Int.toNat x1) ((w32 (((g 64 (Int.toNat x1))) + ((g 61 (Int.toNat ((w32 (x2 - 1)))))))))) 63 (Int.toNat x1) ((w32 (((g 63 (Int.toNat x1))) + 0)))))))))
      else none)
    else
      (if inb x1 10 = true then
        (some ((3, 0), ((mk E c s (hh (up (up (up g 62 (Int.toNat x1) ((w32 (((g 62 (Int.toNat x1))) + ((g 60 (Int.toNat ((w32 (x2 - 1)))))))))) 64 (Int.toNat x1) ((w32 (((g 64 (Int.toNat x1))) + ((g 61 (Int.toNat ((w32 (x2 - 1)))))))))) 63 (Int.toNat x1) ((w32 (((g 63 (Int.toNat x1))) + 1)))))))))
      else none))
    else none)
    else none)
    else none)
    else none)
    else none)
    else none)
    else none)
  else
    (some ((3, 0), ((mk E c s (hh g))))))) :=
  (show Call prog clsT X (d + 1) 6 [(2, 55), (0, x1), (0, x2)] (mk E c s (hh g)) = Ev prog clsT X d mc6 0 [(2, 55), (0, x1), (0, x2)] [] (mk E c s (hh g)) from rfl).trans (r6_0 X E c s g d x1 x2 )
set_option maxRecDepth 100000 in
theorem r7_0 (d : Nat) : Ev prog clsT X d mc7 0 [(2, 55)] [] (mk E c s (hh g)) =
  (some ((3, 0), ((mk E c s (hh (cpy g 56 57 40)))))) :=
  (evk_at (r := ((fget 2 ((mk E c s (hh g))) 55).bind fun v1 =>
  (fget 6 ((mk E c s (hh g))) 55).bind fun v2 =>
  (acopy ((mk E c s (hh g))) v1 0 v2 0 40).bind fun M3 =>
  some ((3, 0), M3))) X [0] 10 rfl).trans (by simp (maxSteps := 10000000) only [↓CP_56_57, ↓F2_55, ↓F6_55, bindI, Option.bind_some, if_true_, and_self, ite_true, true_and, true_or, or_true])
set_option maxRecDepth 100000 in
theorem rc7_ (d : Nat) : Call prog clsT X (d + 1) 7 [(2, 55)] (mk E c s (hh g)) =
  (some ((3, 0), ((mk E c s (hh (cpy g 56 57 40)))))) :=
  (show Call prog clsT X (d + 1) 7 [(2, 55)] (mk E c s (hh g)) = Ev prog clsT X d mc7 0 [(2, 55)] [] (mk E c s (hh g)) from rfl).trans (r7_0 X E c s g d  )
set_option maxRecDepth 100000 in
theorem r8_0 (d : Nat) (x1 : Int) : Ev prog clsT X d mc8 0 [(2, 55), (0, x1), (3, 0), (3, 0)] [] (mk E c s (hh g)) =
  (Ev prog clsT X d mc8 4 [(2, 55), (0, x1), (0, 0), (0, 0)] [] (mk E c s (hh g))) :=
  evk_at X [0, 4] 6 rfl
set_option maxRecDepth 100000 in
theorem rc8_ (d : Nat) (x1 : Int) : Call prog clsT X (d + 1) 8 [(2, 55), (0, x1)] (mk E c s (hh g)) =
  (Ev prog clsT X d mc8 4 [(2, 55), (0, x1), (0, 0), (0, 0)] [] (mk E c s (hh g))) :=
  (show Call prog clsT X (d + 1) 8 [(2, 55), (0, x1)] (mk E c s (hh g)) = Ev prog clsT X d mc8 0 [(2, 55), (0, x1), (3, 0), (3, 0)] [] (mk E c s (hh g)) from rfl).trans (r8_0 X E c s g d x1 )
set_option maxRecDepth 100000 in
theorem r8_4 (d : Nat) (x1 x2 x3 : Int) : Ev prog clsT X d mc8 4 [(2, 55), (0, x1), (0, x2), (0, x3)] [] (mk E c s (hh g)) =
  (if cmpI .ge x3 40 = true then
  (some ((0, x2), ((mk E c s (hh g)))))
else
  (if cmpI .eq x3 x1 = true then
    (Ev prog clsT X d mc8 4 [(2, 55), (0, x1), (0, (w32 (x2 + 0))), (0, (w32 (x3 + 1)))] [] (mk E c s (hh g)))
  else
    (if inb x3 40 = true then
      (if inb x3 40 = true then
      (if cmpI .eq ((g 56 (Int.toNat x3))) ((g 57 (Int.toNat x3))) = true then
      (Ev prog clsT X d mc8 4 [(2, 55), (0, x1), (0, (w32 (x2 + 0))), (0, (w32 (x3 + 1)))] [] (mk E c s (hh g)))
    else
      (Ev prog clsT X d mc8 4 [(2, 55), (0, x1), (0, (w32 (x2 + 1))), (0, (w32 (x3 + 1)))] [] (mk E c s (hh g))))
    else none)
    else none))) :=
  (evk_at (r := (if cmpI .ge x3 40 = true then
  (some ((0, x2), (mk E c s (hh g))))
else
  (if cmpI .eq x3 x1 = true then
    (Ev prog clsT X d mc8 4 [(2, 55), (0, x1), (0, (w32 (x2 + 0))), (0, (w32 (x3 + 1)))] [] (mk E c s (hh g)))
  else
    ((fget 2 ((mk E c s (hh g))) 55).bind fun v1 =>
      (aget X 100 ((mk E c s (hh g))) v1 x3).bind fun v2 =>
      (fget 6 ((mk E c s (hh g))) 55).bind fun v3 =>
      (aget X 100 ((mk E c s (hh g))) v3 x3).bind fun v4 =>
      if cmpI .eq v2 v4 = true then
      (Ev prog clsT X d mc8 4 [(2, 55), (0, x1), (0, (w32 (x2 + 0))), (0, (w32 (x3 + 1)))] [] (mk E c s (hh g)))
    else
      (Ev prog clsT X d mc8 4 [(2, 55), (0, x1), (0, (w32 (x2 + 1))), (0, (w32 (x3 + 1)))] [] (mk E c s (hh g))))))) X [0, 4] 24 rfl).trans (by simp (maxSteps := 10000000) only [↓A56, ↓A57, ↓F2_55, ↓F6_55, bindI, Option.bind_some, if_true_, and_self, ite_true, true_and, true_or, or_true])
set_option maxRecDepth 100000 in
theorem r10_0 (d : Nat) (x1 x2 : Int) : Ev prog clsT X d mc10 0 [(2, 65), (0, x1), (0, x2)] [] (mk E c s (hh g)) =
  (if cmpI .ge ((g 65 2)) 3 = true then
  (some ((3, 0), ((mk E c s (hh g)))))
else
  (if cmpI .ge x1 5 = true then
    (some ((3, 0), ((mk E c s (hh g)))))
  else
    (if inb ((w32 (((w32 (((g 65 2)) * 5))) + x1))) 15 = true then
      (some ((3, 0), ((mk E c s (hh (up g 69 (Int.toNat ((w32 (((w32 (((g 65 2)) * 5))) + x1)))) x2))))))
    else none))) :=
  (evk_at (r := ((fget 520 ((mk E c s (hh g))) 65).bind fun v1 =>
  if cmpI .ge v1 3 = true then
  (some ((3, 0), (mk E c s (hh g))))
else
  (if cmpI .ge x1 5 = true then
    (some ((3, 0), (mk E c s (hh g))))
  else
    ((fget 530 ((mk E c s (hh g))) 65).bind fun v2 =>
      (fget 520 ((mk E c s (hh g))) 65).bind fun v3 =>
      (aput 100 ((mk E c s (hh g))) v2 ((w32 (((w32 (v3 * 5))) + x1))) (x2)).bind fun M4 =>
      some ((3, 0), M4))))) X [0] 19 rfl).trans (by simp (maxSteps := 10000000) only [↓F520_65, ↓F530_65, ↓S69, bindI, Option.bind_some, if_true_, and_self, ite_true, true_and, true_or, or_true])
set_option maxRecDepth 100000 in
theorem rc10_ (d : Nat) (x1 x2 : Int) : Call prog clsT X (d + 1) 10 [(2, 65), (0, x1), (0, x2)] (mk E c s (hh g)) =
  (if cmpI .ge ((g 65 2)) 3 = true then
  (some ((3, 0), ((mk E c s (hh g)))))
else
  (if cmpI .ge x1 5 = true then
    (some ((3, 0), ((mk E c s (hh g)))))
  else
    (if inb ((w32 (((w32 (((g 65 2)) * 5))) + x1))) 15 = true then
      (some ((3, 0), ((mk E c s (hh (up g 69 (Int.toNat ((w32 (((w32 (((g 65 2)) * 5))) + x1)))) x2))))))
    else none))) :=
  (show Call prog clsT X (d + 1) 10 [(2, 65), (0, x1), (0, x2)] (mk E c s (hh g)) = Ev prog clsT X d mc10 0 [(2, 65), (0, x1), (0, x2)] [] (mk E c s (hh g)) from rfl).trans (r10_0 X E c s g d x1 x2 )
set_option maxRecDepth 100000 in
theorem r11_0 (d : Nat) (x1 : Int) : Ev prog clsT X d mc11 0 [(2, 65), (0, x1)] [] (mk E c s (hh g)) =
  (if cmpI .ge ((g 65 2)) 3 = true then
  (some ((3, 0), ((mk E c s (hh g)))))
else
  (if inb ((g 65 2)) 3 = true then
    (some ((3, 0), ((mk E c s (hh (up (up g 68 (Int.toNat ((g 65 2))) x1) 65 2 ((w32 (((g 65 2)) + 1)))))))))
  else none)) :=
  (evk_at (r := ((fget 520 ((mk E c s (hh g))) 65).bind fun v1 =>
  if cmpI .ge v1 3 = true then
  (some ((3, 0), (mk E c s (hh g))))
else
  ((fget 526 ((mk E c s (hh g))) 65).bind fun v2 =>
    (fget 520 ((mk E c s (hh g))) 65).bind fun v3 =>
    (aput 100 ((mk E c s (hh g))) v2 v3 (x1)).bind fun M4 =>
    (fget 520 M4 65).bind fun v5 =>
    (fput 520 M4 65 ((w32 (v5 + 1)))).bind fun M6 =>
    some ((3, 0), M6)))) X [0] 18 rfl).trans (by simp (maxSteps := 10000000) only [uc_68_65, ↓F520_65, ↓F526_65, ↓S68, ↓W520_65, bindI, Option.bind_some, if_true_, and_self, ite_true, true_and, true_or, or_true])
set_option maxRecDepth 100000 in
theorem rc11_ (d : Nat) (x1 : Int) : Call prog clsT X (d + 1) 11 [(2, 65), (0, x1)] (mk E c s (hh g)) =
  (if cmpI .ge ((g 65 2)) 3 = true then
  (some ((3, 0), ((mk E c s (hh g)))))
else
  (if inb ((g 65 2)) 3 = true then
    (some ((3, 0), ((mk E c s (hh (up (up g 68 (Int.toNat ((g 65 2))) x1) 65 2 ((w32 (((g 65 2)) + 1)))))))))
  else none)) :=
  (show Call prog clsT X (d + 1) 11 [(2, 65), (0, x1)] (mk E c s (hh g)) = Ev prog clsT X d mc11 0 [(2, 65), (0, x1)] [] (mk E c s (hh g)) from rfl).trans (r11_0 X E c s g d x1 )
set_option maxRecDepth 100000 in
theorem r12_0 (d : Nat) (x1 : Int) : Ev prog clsT X d mc12 0 [(2, 65), (0, x1), (2, 60), (3, 0)] [] (mk E c s (hh g)) =
  (if inb ((g 65 2)) 4 = true then
  (Ev prog clsT X d mc12 21 [(2, 65), (0, x1), (2, 60), (0, (w32 (((g 65 2)) - 1)))] [] (mk E c s (hh (up (cpy (up g 65 7 x1) 60 71 3) 70 (Int.toNat ((g 65 2))) 0))))
else none) :=
  (evk_at (r := ((fput 540 ((mk E c s (hh g))) 65 x1).bind fun M1 =>
  (fget 538 M1 65).bind fun v2 =>
  (acopy M1 60 0 v2 0 3).bind fun M3 =>
  (fget 534 M3 65).bind fun v4 =>
  (fget 520 M3 65).bind fun v5 =>
  (aput 100 M3 v4 v5 (0)).bind fun M6 =>
  (fget 520 M6 65).bind fun v7 =>
  Ev prog clsT X d mc12 21 [(2, 65), (0, x1), (2, 60), (0, (w32 (v7 - 1)))] [] M6)) X [0, 21, 35, 44] 23 rfl).trans (by simp (maxSteps := 10000000) only [cc_71_65, uc_70_65, uq_7_2, ↓CP_60_71, ↓F520_65, ↓F534_65, ↓F538_65, ↓S70, ↓W540_65, bindI, Option.bind_some, if_true_, and_self, ite_true, true_and, true_or, or_true])
set_option maxRecDepth 100000 in
theorem rc12_ (d : Nat) (x1 : Int) : Call prog clsT X (d + 1) 12 [(2, 65), (0, x1), (2, 60)] (mk E c s (hh g)) =
  (if inb ((g 65 2)) 4 = true then
  (Ev prog clsT X d mc12 21 [(2, 65), (0, x1), (2, 60), (0, (w32 (((g 65 2)) - 1)))] [] (mk E c s (hh (up (cpy (up g 65 7 x1) 60 71 3) 70 (Int.toNat ((g 65 2))) 0))))
else none) :=
  (show Call prog clsT X (d + 1) 12 [(2, 65), (0, x1), (2, 60)] (mk E c s (hh g)) = Ev prog clsT X d mc12 0 [(2, 65), (0, x1), (2, 60), (3, 0)] [] (mk E c s (hh g)) from rfl).trans (r12_0 X E c s g d x1 )
set_option maxRecDepth 100000 in
theorem r12_21 (d : Nat) (x3 : Int) (w1 w2 : MV) : Ev prog clsT X d mc12 21 [(2, 65), w1, w2, (0, x3)] [] (mk E c s (hh g)) =
  (if cmpI .lt x3 0 = true then
  ((Call prog clsT X d 14 [(2, 65), (0, 0), (0, 0), (0, 0)] ((mk E c s (hh g)))).bind fun r1 => if r1.1.1 = 4 then none else
    Ev prog clsT X d mc12 44 [(2, 65), (3, 0), (3, 0), (0, x3)] (pushR r1.1 []) r1.2)
else
  (if inb ((w32 (x3 + 1))) 4 = true then
    ((Call prog clsT X d 13 [(2, 65), (0, x3)] ((mk E c s (hh g)))).bind fun r2 => if r2.1.1 = 4 then none else
    Ev prog clsT X d mc12 35 [(2, 65), (3, 0), (3, 0), (0, x3)] (pushR r2.1 [(0, (g 70 (Int.toNat ((w32 (x3 + 1)))))), (0, x3), (2, 70)]) r2.2)
  else none)) :=
  (evk_at (r := (if cmpI .lt x3 0 = true then
  (if (2 : Nat) = 2 ∧ rcv ((mk E c s (hh g))) 65 2 = true then
    ((Call prog clsT X d 14 [(2, 65), (0, 0), (0, 0), (0, 0)] ((mk E c s (hh g)))).bind fun r1 => if r1.1.1 = 4 then none else
    Ev prog clsT X d mc12 44 [(2, 65), (3, 0), (3, 0), (0, x3)] (pushR r1.1 []) r1.2) else none)
else
  ((fget 534 ((mk E c s (hh g))) 65).bind fun v2 =>
    (fget 534 ((mk E c s (hh g))) 65).bind fun v3 =>
    (aget X 100 ((mk E c s (hh g))) v3 ((w32 (x3 + 1)))).bind fun v4 =>
    if (2 : Nat) = 2 ∧ rcv ((mk E c s (hh g))) 65 2 = true then
    ((Call prog clsT X d 13 [(2, 65), (0, x3)] ((mk E c s (hh g)))).bind fun r5 => if r5.1.1 = 4 then none else
    Ev prog clsT X d mc12 35 [(2, 65), (3, 0), (3, 0), (0, x3)] (pushR r5.1 [(0, v4), (0, x3), (2, v2)]) r5.2) else none))) X [0, 21, 35, 44] 15 rfl).trans (by simp (maxSteps := 10000000) only [R65_2, ↓A70, ↓F534_65, bindI, Option.bind_some, if_true_, and_self, ite_true, true_and, true_or, or_true])
set_option maxRecDepth 100000 in
theorem r12_35 (d : Nat) (x3 s1 s2 s3 : Int) : Ev prog clsT X d mc12 35 [(2, 65), (3, 0), (3, 0), (0, x3)] [(0, s3), (0, s2), (0, s1), (2, 70)] (mk E c s (hh g)) =
  (if inb s1 4 = true then
  (Ev prog clsT X d mc12 21 [(2, 65), (3, 0), (3, 0), (0, (w32 (x3 + (-1))))] [] (mk E c s (hh (up g 70 (Int.toNat s1) ((w32 (s2 + s3)))))))
else none) :=
  (evk_at (r := ((aput 100 ((mk E c s (hh g))) 70 s1 ((w32 (s2 + s3)))).bind fun M1 =>
  Ev prog clsT X d mc12 21 [(2, 65), (3, 0), (3, 0), (0, (w32 (x3 + (-1))))] [] M1)) X [0, 21, 35, 44] 6 rfl).trans (by simp (maxSteps := 10000000) only [↓S70, bindI, Option.bind_some, if_true_, and_self, ite_true, true_and, true_or, or_true])
set_option maxRecDepth 100000 in
theorem r12_44 (d : Nat) (x3 s0 : Int) : Ev prog clsT X d mc12 44 [(2, 65), (3, 0), (3, 0), (0, x3)] [(0, s0)] (mk E c s (hh g)) =
  (if (0 : Nat) = 0 ∧ one01 s0 = true then some ((0, s0), ((mk E c s (hh g)))) else none) :=
  (evk_at (r := (if (0 : Nat) = 0 ∧ one01 s0 = true then some ((0, s0), (mk E c s (hh g))) else none)) X [0, 21, 35, 44] 2 rfl).trans (by simp (maxSteps := 10000000) only [bindI, Option.bind_some, if_true_, and_self, ite_true, true_and, true_or, or_true])
set_option maxRecDepth 100000 in
theorem r13_0 (d : Nat) (x1 : Int) : Ev prog clsT X d mc13 0 [(2, 65), (0, x1), (3, 0), (3, 0), (3, 0)] [] (mk E c s (hh g)) =
  (Ev prog clsT X d mc13 19 [(2, 65), (0, x1), (0, (if (g 71 0) < (if (g 71 1) < (g 71 2) then (g 71 2) else (g 71 1)) then (if (g 71 1) < (g 71 2) then (g 71 2) else (g 71 1)) else (g 71 0))), (0, 0), (0, 0)] [] (mk E c s (hh g))) :=
  (evk_at (r := ((fget 538 ((mk E c s (hh g))) 65).bind fun v1 =>
  (aget X 100 ((mk E c s (hh g))) v1 0).bind fun v2 =>
  (fget 538 ((mk E c s (hh g))) 65).bind fun v3 =>
  (aget X 100 ((mk E c s (hh g))) v3 1).bind fun v4 =>
  (fget 538 ((mk E c s (hh g))) 65).bind fun v5 =>
  (aget X 100 ((mk E c s (hh g))) v5 2).bind fun v6 =>
  Ev prog clsT X d mc13 19 [(2, 65), (0, x1), (0, (if v2 < (if v4 < v6 then v6 else v4) then (if v4 < v6 then v6 else v4) else v2)), (0, 0), (0, 0)] [] (mk E c s (hh g)))) X [0, 19] 21 rfl).trans (by simp (maxSteps := 10000000) only [inbL 0 3 rfl, inbL 1 3 rfl, inbL 2 3 rfl, tn0, tn1, tn2, ↓A71, ↓F538_65, bindI, Option.bind_some, if_true_, and_self, ite_true, true_and, true_or, or_true])
set_option maxRecDepth 100000 in
theorem rc13_ (d : Nat) (x1 : Int) : Call prog clsT X (d + 1) 13 [(2, 65), (0, x1)] (mk E c s (hh g)) =
  (Ev prog clsT X d mc13 19 [(2, 65), (0, x1), (0, (if (g 71 0) < (if (g 71 1) < (g 71 2) then (g 71 2) else (g 71 1)) then (if (g 71 1) < (g 71 2) then (g 71 2) else (g 71 1)) else (g 71 0))), (0, 0), (0, 0)] [] (mk E c s (hh g))) :=
  (show Call prog clsT X (d + 1) 13 [(2, 65), (0, x1)] (mk E c s (hh g)) = Ev prog clsT X d mc13 0 [(2, 65), (0, x1), (3, 0), (3, 0), (3, 0)] [] (mk E c s (hh g)) from rfl).trans (r13_0 X E c s g d x1 )
set_option maxRecDepth 100000 in
theorem r13_19 (d : Nat) (x1 x2 x3 x4 : Int) : Ev prog clsT X d mc13 19 [(2, 65), (0, x1), (0, x2), (0, x3), (0, x4)] [] (mk E c s (hh g)) =
  (if inb x1 3 = true then
  (if cmpI .ge x4 ((g 68 (Int.toNat x1))) = true then
  (some ((0, (w32 (x2 * ((if 3 < x3 then 3 else x3))))), ((mk E c s (hh g)))))
else
  (if inb ((w32 (((w32 (x1 * 5))) + x4))) 15 = true then
    (if cmpI .ne ((g 69 (Int.toNat ((w32 (((w32 (x1 * 5))) + x4)))))) ((g 65 7)) = true then
    (Ev prog clsT X d mc13 19 [(2, 65), (0, x1), (0, x2), (0, (w32 (x3 + 0))), (0, (w32 (x4 + 1)))] [] (mk E c s (hh g)))
  else
    (Ev prog clsT X d mc13 19 [(2, 65), (0, x1), (0, x2), (0, (w32 (x3 + 1))), (0, (w32 (x4 + 1)))] [] (mk E c s (hh g))))
  else none))
else none) :=
  (evk_at (r := ((fget 526 ((mk E c s (hh g))) 65).bind fun v1 =>
  (aget X 100 ((mk E c s (hh g))) v1 x1).bind fun v2 =>
  if cmpI .ge x4 v2 = true then
  (some ((0, (w32 (x2 * ((if 3 < x3 then 3 else x3))))), (mk E c s (hh g))))
else
  ((fget 530 ((mk E c s (hh g))) 65).bind fun v3 =>
    (aget X 100 ((mk E c s (hh g))) v3 ((w32 (((w32 (x1 * 5))) + x4)))).bind fun v4 =>
    (fget 540 ((mk E c s (hh g))) 65).bind fun v5 =>
    if cmpI .ne v4 v5 = true then
    (Ev prog clsT X d mc13 19 [(2, 65), (0, x1), (0, x2), (0, (w32 (x3 + 0))), (0, (w32 (x4 + 1)))] [] (mk E c s (hh g)))
  else
    (Ev prog clsT X d mc13 19 [(2, 65), (0, x1), (0, x2), (0, (w32 (x3 + 1))), (0, (w32 (x4 + 1)))] [] (mk E c s (hh g)))))) X [0, 19] 26 rfl).trans (by simp (maxSteps := 10000000) only [↓A68, ↓A69, ↓F526_65, ↓F530_65, ↓F540_65, bindI, Option.bind_some, if_true_, and_self, ite_true, true_and, true_or, or_true])
set_option maxRecDepth 100000 in
theorem r14_0 (d : Nat) (x1 x2 x3 : Int) : Ev prog clsT X d mc14 0 [(2, 65), (0, x1), (0, x2), (0, x3), (3, 0), (3, 0), (3, 0), (3, 0)] [] (mk E c s (hh g)) =
  (if cmpI .lt x1 ((g 65 2)) = true then
  (if cmpI .ge x2 3 = true then
    ((Call prog clsT X d 14 [(2, 65), (0, (w32 (x1 + 1))), (0, 0), (0, 0)] ((mk E c s (hh g)))).bind fun r1 => if r1.1.1 = 4 then none else
      Ev prog clsT X d mc14 23 [(2, 65), (0, x1), (0, x2), (0, x3), (3, 0), (3, 0), (3, 0), (3, 0)] (pushR r1.1 []) r1.2)
  else
    (if inb x1 3 = true then
      (if cmpI .lt x2 ((g 68 (Int.toNat x1))) = true then
      (if cmpI .ne x2 0 = true then
        (Ev prog clsT X d mc14 45 [(2, 65), (0, x1), (0, x2), (0, x3), (0, 0), (0, 0), (3, 0), (3, 0)] [] (mk E c s (hh g)))
      else
        (if inb ((g 65 7)) 11 = true then
          (if inb x1 4 = true then
          ((Call prog clsT X d 16 [(2, 65), (0, (w32 (((g 66 (Int.toNat ((g 65 7))))) + ((g 70 (Int.toNat x1))))))] ((mk E c s (hh g)))).bind fun r2 => if r2.1.1 = 4 then none else
          Ev prog clsT X d mc14 38 [(2, 65), (0, x1), (0, x2), (0, x3), (3, 0), (3, 0), (3, 0), (3, 0)] (pushR r2.1 []) r2.2)
        else none)
        else none))
    else
      ((Call prog clsT X d 14 [(2, 65), (0, (w32 (x1 + 1))), (0, 0), (0, 0)] ((mk E c s (hh g)))).bind fun r3 => if r3.1.1 = 4 then none else
        Ev prog clsT X d mc14 23 [(2, 65), (0, x1), (0, x2), (0, x3), (3, 0), (3, 0), (3, 0), (3, 0)] (pushR r3.1 []) r3.2))
    else none))
else
  ((Call prog clsT X d 15 [(2, 65)] ((mk E c s (hh g)))).bind fun r4 => if r4.1.1 = 4 then none else
    Ev prog clsT X d mc14 6 [(2, 65), (0, x1), (0, x2), (0, x3), (3, 0), (3, 0), (3, 0), (3, 0)] (pushR r4.1 []) r4.2)) :=
  (evk_at (r := ((fget 520 ((mk E c s (hh g))) 65).bind fun v1 =>
  if cmpI .lt x1 v1 = true then
  (if cmpI .ge x2 3 = true then
    (if (2 : Nat) = 2 ∧ rcv ((mk E c s (hh g))) 65 2 = true then
      ((Call prog clsT X d 14 [(2, 65), (0, (w32 (x1 + 1))), (0, 0), (0, 0)] ((mk E c s (hh g)))).bind fun r2 => if r2.1.1 = 4 then none else
      Ev prog clsT X d mc14 23 [(2, 65), (0, x1), (0, x2), (0, x3), (3, 0), (3, 0), (3, 0), (3, 0)] (pushR r2.1 []) r2.2) else none)
  else
    ((fget 526 ((mk E c s (hh g))) 65).bind fun v3 =>
      (aget X 100 ((mk E c s (hh g))) v3 x1).bind fun v4 =>
      if cmpI .lt x2 v4 = true then
      (if cmpI .ne x2 0 = true then
        (Ev prog clsT X d mc14 45 [(2, 65), (0, x1), (0, x2), (0, x3), (0, 0), (0, 0), (3, 0), (3, 0)] [] (mk E c s (hh g)))
      else
        ((fget 514 ((mk E c s (hh g))) 65).bind fun v5 =>
          (fget 540 ((mk E c s (hh g))) 65).bind fun v6 =>
          (aget X 100 ((mk E c s (hh g))) v5 v6).bind fun v7 =>
          (fget 534 ((mk E c s (hh g))) 65).bind fun v8 =>
          (aget X 100 ((mk E c s (hh g))) v8 x1).bind fun v9 =>
          if (2 : Nat) = 2 ∧ rcv ((mk E c s (hh g))) 65 2 = true then
          ((Call prog clsT X d 16 [(2, 65), (0, (w32 (v7 + v9)))] ((mk E c s (hh g)))).bind fun r10 => if r10.1.1 = 4 then none else
          Ev prog clsT X d mc14 38 [(2, 65), (0, x1), (0, x2), (0, x3), (3, 0), (3, 0), (3, 0), (3, 0)] (pushR r10.1 []) r10.2) else none))
    else
      (if (2 : Nat) = 2 ∧ rcv ((mk E c s (hh g))) 65 2 = true then
        ((Call prog clsT X d 14 [(2, 65), (0, (w32 (x1 + 1))), (0, 0), (0, 0)] ((mk E c s (hh g)))).bind fun r11 => if r11.1.1 = 4 then none else
        Ev prog clsT X d mc14 23 [(2, 65), (0, x1), (0, x2), (0, x3), (3, 0), (3, 0), (3, 0), (3, 0)] (pushR r11.1 []) r11.2) else none)))
else
  (if (2 : Nat) = 2 ∧ rcv ((mk E c s (hh g))) 65 2 = true then
    ((Call prog clsT X d 15 [(2, 65)] ((mk E c s (hh g)))).bind fun r12 => if r12.1.1 = 4 then none else
    Ev prog clsT X d mc14 6 [(2, 65), (0, x1), (0, x2), (0, x3), (3, 0), (3, 0), (3, 0), (3, 0)] (pushR r12.1 []) r12.2) else none))) X [0, 6, 23, 38, 45, 66, 72, 73, 90, 113] 28 rfl).trans (by simp (maxSteps := 10000000) only [R65_2, ↓A66, ↓A68, ↓A70, ↓F514_65, ↓F520_65, ↓F526_65, ↓F534_65, ↓F540_65, bindI, Option.bind_some, if_true_, and_self, ite_true, true_and, true_or, or_true])
set_option maxRecDepth 100000 in
theorem rc14_ (d : Nat) (x1 x2 x3 : Int) : Call prog clsT X (d + 1) 14 [(2, 65), (0, x1), (0, x2), (0, x3)] (mk E c s (hh g)) =
  (if cmpI .lt x1 ((g 65 2)) = true then
  (if cmpI .ge x2 3 = true then
    ((Call prog clsT X d 14 [(2, 65), (0, (w32 (x1 + 1))), (0, 0), (0, 0)] ((mk E c s (hh g)))).bind fun r1 => if r1.1.1 = 4 then none else
      Ev prog clsT X d mc14 23 [(2, 65), (0, x1), (0, x2), (0, x3), (3, 0), (3, 0), (3, 0), (3, 0)] (pushR r1.1 []) r1.2)
  else
    (if inb x1 3 = true then
      (if cmpI .lt x2 ((g 68 (Int.toNat x1))) = true then
      (if cmpI .ne x2 0 = true then
        (Ev prog clsT X d mc14 45 [(2, 65), (0, x1), (0, x2), (0, x3), (0, 0), (0, 0), (3, 0), (3, 0)] [] (mk E c s (hh g)))
      else
        (if inb ((g 65 7)) 11 = true then
          (if inb x1 4 = true then
          ((Call prog clsT X d 16 [(2, 65), (0, (w32 (((g 66 (Int.toNat ((g 65 7))))) + ((g 70 (Int.toNat x1))))))] ((mk E c s (hh g)))).bind fun r2 => if r2.1.1 = 4 then none else
          Ev prog clsT X d mc14 38 [(2, 65), (0, x1), (0, x2), (0, x3), (3, 0), (3, 0), (3, 0), (3, 0)] (pushR r2.1 []) r2.2)
        else none)
        else none))
    else
      ((Call prog clsT X d 14 [(2, 65), (0, (w32 (x1 + 1))), (0, 0), (0, 0)] ((mk E c s (hh g)))).bind fun r3 => if r3.1.1 = 4 then none else
        Ev prog clsT X d mc14 23 [(2, 65), (0, x1), (0, x2), (0, x3), (3, 0), (3, 0), (3, 0), (3, 0)] (pushR r3.1 []) r3.2))
    else none))
else
  ((Call prog clsT X d 15 [(2, 65)] ((mk E c s (hh g)))).bind fun r4 => if r4.1.1 = 4 then none else
    Ev prog clsT X d mc14 6 [(2, 65), (0, x1), (0, x2), (0, x3), (3, 0), (3, 0), (3, 0), (3, 0)] (pushR r4.1 []) r4.2)) :=
  (show Call prog clsT X (d + 1) 14 [(2, 65), (0, x1), (0, x2), (0, x3)] (mk E c s (hh g)) = Ev prog clsT X d mc14 0 [(2, 65), (0, x1), (0, x2), (0, x3), (3, 0), (3, 0), (3, 0), (3, 0)] [] (mk E c s (hh g)) from rfl).trans (r14_0 X E c s g d x1 x2 x3 )
set_option maxRecDepth 100000 in
theorem r14_6 (d : Nat) (x1 x2 x3 s0 : Int) : Ev prog clsT X d mc14 6 [(2, 65), (0, x1), (0, x2), (0, x3), (3, 0), (3, 0), (3, 0), (3, 0)] [(0, s0)] (mk E c s (hh g)) =
  (if (0 : Nat) = 0 ∧ one01 s0 = true then some ((0, s0), ((mk E c s (hh g)))) else none) :=
  (evk_at (r := (if (0 : Nat) = 0 ∧ one01 s0 = true then some ((0, s0), (mk E c s (hh g))) else none)) X [0, 6, 23, 38, 45, 66, 72, 73, 90, 113] 2 rfl).trans (by simp (maxSteps := 10000000) only [bindI, Option.bind_some, if_true_, and_self, ite_true, true_and, true_or, or_true])
set_option maxRecDepth 100000 in
theorem r14_23 (d : Nat) (x1 x2 x3 s0 : Int) : Ev prog clsT X d mc14 23 [(2, 65), (0, x1), (0, x2), (0, x3), (3, 0), (3, 0), (3, 0), (3, 0)] [(0, s0)] (mk E c s (hh g)) =
  (if (0 : Nat) = 0 ∧ one01 s0 = true then some ((0, s0), ((mk E c s (hh g)))) else none) :=
  (evk_at (r := (if (0 : Nat) = 0 ∧ one01 s0 = true then some ((0, s0), (mk E c s (hh g))) else none)) X [0, 6, 23, 38, 45, 66, 72, 73, 90, 113] 2 rfl).trans (by simp (maxSteps := 10000000) only [bindI, Option.bind_some, if_true_, and_self, ite_true, true_and, true_or, or_true])
set_option maxRecDepth 100000 in
theorem r14_38 (d : Nat) (x1 x2 x3 s0 : Int) : Ev prog clsT X d mc14 38 [(2, 65), (0, x1), (0, x2), (0, x3), (3, 0), (3, 0), (3, 0), (3, 0)] [(0, s0)] (mk E c s (hh g)) =
  (if cmpI .eq s0 0 = true then
  (Ev prog clsT X d mc14 45 [(2, 65), (0, x1), (0, x2), (0, x3), (0, 0), (0, 0), (3, 0), (3, 0)] [] (mk E c s (hh g)))
else
  (some ((0, 0), ((mk E c s (hh g)))))) :=
  (evk_at (r := (if cmpI .eq s0 0 = true then
  (Ev prog clsT X d mc14 45 [(2, 65), (0, x1), (0, x2), (0, x3), (0, 0), (0, 0), (3, 0), (3, 0)] [] (mk E c s (hh g)))
else
  (some ((0, 0), (mk E c s (hh g)))))) X [0, 6, 23, 38, 45, 66, 72, 73, 90, 113] 7 rfl).trans (by simp (maxSteps := 10000000) only [bindI, Option.bind_some, if_true_, and_self, ite_true, true_and, true_or, or_true])
set_option maxRecDepth 100000 in
theorem r14_45 (d : Nat) (x1 x2 x3 x4 x5 : Int) (w6 w7 : MV) : Ev prog clsT X d mc14 45 [(2, 65), (0, x1), (0, x2), (0, x3), (0, x4), (0, x5), w6, w7] [] (mk E c s (hh g)) =
  (if inb x1 3 = true then
  (if cmpI .ge x5 ((g 68 (Int.toNat x1))) = true then
  (some ((0, 0), ((mk E c s (hh g)))))
else
  (if inb ((w32 (((w32 (x1 * 5))) + x5))) 15 = true then
    (if cmpI .ne ((iand32 ((ishr32 x3 x5)) 1)) 0 = true then
    (Ev prog clsT X d mc14 45 [(2, 65), (0, x1), (0, x2), (0, x3), (0, x4), (0, (w32 (x5 + 1))), (0, (g 69 (Int.toNat ((w32 (((w32 (x1 * 5))) + x5)))))), (3, 0)] [] (mk E c s (hh g)))
  else
    (Ev prog clsT X d mc14 66 [(2, 65), (0, x1), (0, x2), (0, x3), (0, x4), (0, x5), (0, (g 69 (Int.toNat ((w32 (((w32 (x1 * 5))) + x5)))))), (3, 0)] [] (mk E c s (hh g))))
  else none))
else none) :=
  (evk_at (r := ((fget 526 ((mk E c s (hh g))) 65).bind fun v1 =>
  (aget X 100 ((mk E c s (hh g))) v1 x1).bind fun v2 =>
  if cmpI .ge x5 v2 = true then
  (some ((0, 0), (mk E c s (hh g))))
else
  ((fget 530 ((mk E c s (hh g))) 65).bind fun v3 =>
    (aget X 100 ((mk E c s (hh g))) v3 ((w32 (((w32 (x1 * 5))) + x5)))).bind fun v4 =>
    if cmpI .ne ((iand32 ((ishr32 x3 x5)) 1)) 0 = true then
    (Ev prog clsT X d mc14 45 [(2, 65), (0, x1), (0, x2), (0, x3), (0, x4), (0, (w32 (x5 + 1))), (0, v4), (3, 0)] [] (mk E c s (hh g)))
  else
    (Ev prog clsT X d mc14 66 [(2, 65), (0, x1), (0, x2), (0, x3), (0, x4), (0, x5), (0, v4), (3, 0)] [] (mk E c s (hh g)))))) X [0, 6, 23, 38, 45, 66, 72, 73, 90, 113] 25 rfl).trans (by simp (maxSteps := 10000000) only [↓A68, ↓A69, ↓F526_65, ↓F530_65, bindI, Option.bind_some, if_true_, and_self, ite_true, true_and, true_or, or_true])
set_option maxRecDepth 100000 in
theorem r14_66 (d : Nat) (x1 x2 x3 x4 x5 x6 : Int) : Ev prog clsT X d mc14 66 [(2, 65), (0, x1), (0, x2), (0, x3), (0, x4), (0, x5), (0, x6), (3, 0)] [] (mk E c s (hh g)) =
  (if cmpI .eq ((iand32 ((ishr32 x4 x6)) 1)) 0 = true then
  (Ev prog clsT X d mc14 73 [(2, 65), (0, x1), (0, x2), (0, x3), (0, x4), (0, x5), (0, x6), (3, 0)] [] (mk E c s (hh g)))
else
  (Ev prog clsT X d mc14 72 [(2, 65), (0, x1), (0, x2), (0, x3), (0, x4), (0, x5), (0, x6), (3, 0)] [] (mk E c s (hh g)))) :=
  evk_at X [0, 6, 23, 38, 45, 66, 72, 73, 90, 113] 8 rfl
set_option maxRecDepth 100000 in
theorem r14_72 (d : Nat) (x1 x2 x3 x4 x5 x6 : Int) : Ev prog clsT X d mc14 72 [(2, 65), (0, x1), (0, x2), (0, x3), (0, x4), (0, x5), (0, x6), (3, 0)] [] (mk E c s (hh g)) =
  (Ev prog clsT X d mc14 45 [(2, 65), (0, x1), (0, x2), (0, x3), (0, x4), (0, (w32 (x5 + 1))), (0, x6), (3, 0)] [] (mk E c s (hh g))) :=
  evk_at X [0, 6, 23, 38, 45, 66, 72, 73, 90, 113] 5 rfl
set_option maxRecDepth 100000 in
theorem r14_73 (d : Nat) (x1 x2 x3 x4 x5 x6 : Int) : Ev prog clsT X d mc14 73 [(2, 65), (0, x1), (0, x2), (0, x3), (0, x4), (0, x5), (0, x6), (3, 0)] [] (mk E c s (hh g)) =
  (if inb x6 11 = true then
  (if inb x2 3 = true then
  (if inb x6 11 = true then
  (Ev prog clsT X d mc14 90 [(2, 65), (0, x1), (0, x2), (0, x3), (0, (ior32 x4 ((ishl32 1 x6)))), (0, x5), (0, x6), (3, 0)] [] (mk E c s (hh (up g 66 (Int.toNat x6) ((w32 (((g 66 (Int.toNat x6))) + ((g 71 (Int.toNat x2))))))))))
else none)
else none)
else none) :=
  (evk_at (r := ((fget 514 ((mk E c s (hh g))) 65).bind fun v1 =>
  (aget X 100 ((mk E c s (hh g))) v1 x6).bind fun v2 =>
  (fget 538 ((mk E c s (hh g))) 65).bind fun v3 =>
  (aget X 100 ((mk E c s (hh g))) v3 x2).bind fun v4 =>
  (aput 100 ((mk E c s (hh g))) v1 x6 ((w32 (v2 + v4)))).bind fun M5 =>
  Ev prog clsT X d mc14 90 [(2, 65), (0, x1), (0, x2), (0, x3), (0, (ior32 x4 ((ishl32 1 x6)))), (0, x5), (0, x6), (3, 0)] [] M5)) X [0, 6, 23, 38, 45, 66, 72, 73, 90, 113] 19 rfl).trans (by simp (maxSteps := 10000000) only [↓A66, ↓A71, ↓F514_65, ↓F538_65, ↓S66, bindI, Option.bind_some, if_true_, and_self, ite_true, true_and, true_or, or_true])
set_option maxRecDepth 100000 in
theorem r14_90 (d : Nat) (x1 x2 x3 x4 x5 x6 : Int) : Ev prog clsT X d mc14 90 [(2, 65), (0, x1), (0, x2), (0, x3), (0, x4), (0, x5), (0, x6), (3, 0)] [] (mk E c s (hh g)) =
  (if inb x6 11 = true then
  (if cmpI .ne x2 0 = true then
  (if inb x6 11 = true then
    ((Call prog clsT X d 14 [(2, 65), (0, x1), (0, (w32 (x2 + 1))), (0, (ior32 x3 ((ishl32 1 x5))))] ((mk E c s (hh (up g 67 (Int.toNat x6) ((w32 (((g 67 (Int.toNat x6))) + 0)))))))).bind fun r1 => if r1.1.1 = 4 then none else
    Ev prog clsT X d mc14 113 [(2, 65), (0, x1), (0, x2), (0, x3), (0, x4), (0, x5), (0, x6), (3, 0)] (pushR r1.1 []) r1.2)
  else none)
else
  (if inb x6 11 = true then
    ((Call prog clsT X d 14 [(2, 65), (0, x1), (0, (w32 (x2 + 1))), (0, (ior32 x3 ((ishl32 1 x5))))] ((mk E c s (hh (up g 67 (Int.toNat x6) ((w32 (((g 67 (Int.toNat x6))) + 1)))))))).bind fun r2 => if r2.1.1 = 4 then none else
    Ev prog clsT X d mc14 113 [(2, 65), (0, x1), (0, x2), (0, x3), (0, x4), (0, x5), (0, x6), (3, 0)] (pushR r2.1 []) r2.2)
  else none))
else none) :=
  (evk_at (r := ((fget 518 ((mk E c s (hh g))) 65).bind fun v1 =>
  (aget X 100 ((mk E c s (hh g))) v1 x6).bind fun v2 =>
  if cmpI .ne x2 0 = true then
  ((aput 100 ((mk E c s (hh g))) v1 x6 ((w32 (v2 + 0)))).bind fun M3 =>
    if (2 : Nat) = 2 ∧ rcv M3 65 2 = true then
    ((Call prog clsT X d 14 [(2, 65), (0, x1), (0, (w32 (x2 + 1))), (0, (ior32 x3 ((ishl32 1 x5))))] M3).bind fun r4 => if r4.1.1 = 4 then none else
    Ev prog clsT X d mc14 113 [(2, 65), (0, x1), (0, x2), (0, x3), (0, x4), (0, x5), (0, x6), (3, 0)] (pushR r4.1 []) r4.2) else none)
else
  ((aput 100 ((mk E c s (hh g))) v1 x6 ((w32 (v2 + 1)))).bind fun M5 =>
    if (2 : Nat) = 2 ∧ rcv M5 65 2 = true then
    ((Call prog clsT X d 14 [(2, 65), (0, x1), (0, (w32 (x2 + 1))), (0, (ior32 x3 ((ishl32 1 x5))))] M5).bind fun r6 => if r6.1.1 = 4 then none else
    Ev prog clsT X d mc14 113 [(2, 65), (0, x1), (0, x2), (0, x3), (0, x4), (0, x5), (0, x6), (3, 0)] (pushR r6.1 []) r6.2) else none))) X [0, 6, 23, 38, 45, 66, 72, 73, 90, 113] 23 rfl).trans (by simp (maxSteps := 10000000) only [R65_2, ↓A67, ↓F518_65, ↓S67, bindI, Option.bind_some, if_true_, and_self, ite_true, true_and, true_or, or_true])
set_option maxRecDepth 100000 in
theorem r14_113 (d : Nat) (x1 x2 x3 x4 x5 x6 s0 : Int) : Ev prog clsT X d mc14 113 [(2, 65), (0, x1), (0, x2), (0, x3), (0, x4), (0, x5), (0, x6), (3, 0)] [(0, s0)] (mk E c s (hh g)) =
  (if inb x6 11 = true then
  (if inb x2 3 = true then
  (if inb x6 11 = true then
  (if inb x6 11 = true then
  (if cmpI .ne x2 0 = true then
  (if inb x6 11 = true then
    (if cmpI .eq s0 0 = true then
    (Ev prog clsT X d mc14 45 [(2, 65), (0, x1), (0, x2), (0, x3), (0, x4), (0, (w32 (x5 + 1))), (0, x6), (0, s0)] [] (mk E c s (hh (up (up g 66 (Int.toNat x6) ((w32 (((g 66 (Int.toNat x6))) - ((g 71 (Int.toNat x2))))))) 67 (Int.toNat x6) ((w32 (((g 67 (Int.toNat x6))) - 0)))))))
  else
    (some ((0, 1), ((mk E c s (hh (up (up g 66 (Int.toNat x6) ((w32 (((g 66 (Int.toNat x6))) - ((g 71 (Int.toNat x2))))))) 67 (Int.toNat x6) ((w32 (((g 67 (Int.toNat x6))) - 0))))))))))
  else none)
else
  (if inb x6 11 = true then
    (if cmpI .eq s0 0 = true then
    (Ev prog clsT X d mc14 45 [(2, 65), (0, x1), (0, x2), (0, x3), (0, x4), (0, (w32 (x5 + 1))), (0, x6), (0, s0)] [] (mk E c s (hh (up (up g 66 (Int.toNat x6) ((w32 (((g 66 (Int.toNat x6))) - ((g 71 (Int.toNat x2))))))) 67 (Int.toNat x6) ((w32 (((g 67 (Int.toNat x6))) - 1)))))))
  else
    (some ((0, 1), ((mk E c s (hh (up (up g 66 (Int.toNat x6) ((w32 (((g 66 (Int.toNat x6))) - ((g 71 (Int.toNat x2))))))) 67 (Int.toNat x6) ((w32 (((g 67 (Int.toNat x6))) - 1))))))))))
  else none))
else none)
else none)
else none)
else none) :=
  (evk_at (r := ((fget 514 ((mk E c s (hh g))) 65).bind fun v1 =>
  (aget X 100 ((mk E c s (hh g))) v1 x6).bind fun v2 =>
  (fget 538 ((mk E c s (hh g))) 65).bind fun v3 =>
  (aget X 100 ((mk E c s (hh g))) v3 x2).bind fun v4 =>
  (aput 100 ((mk E c s (hh g))) v1 x6 ((w32 (v2 - v4)))).bind fun M5 =>
  (fget 518 M5 65).bind fun v6 =>
  (aget X 100 M5 v6 x6).bind fun v7 =>
  if cmpI .ne x2 0 = true then
  ((aput 100 M5 v6 x6 ((w32 (v7 - 0)))).bind fun M8 =>
    if cmpI .eq s0 0 = true then
    (Ev prog clsT X d mc14 45 [(2, 65), (0, x1), (0, x2), (0, x3), (0, x4), (0, (w32 (x5 + 1))), (0, x6), (0, s0)] [] M8)
  else
    (some ((0, 1), M8)))
else
  ((aput 100 M5 v6 x6 ((w32 (v7 - 1)))).bind fun M9 =>
    if cmpI .eq s0 0 = true then
    (Ev prog clsT X d mc14 45 [(2, 65), (0, x1), (0, x2), (0, x3), (0, x4), (0, (w32 (x5 + 1))), (0, x6), (0, s0)] [] M9)
  else
    (some ((0, 1), M9))))) X [0, 6, 23, 38, 45, 66, 72, 73, 90, 113] 29 rfl).trans (by simp (maxSteps := 10000000) only [uc_66_67, ↓A66, ↓A67, ↓A71, ↓F514_65, ↓F518_65, ↓F538_65, ↓S66, ↓S67, bindI, Option.bind_some, if_true_, and_self, ite_true, true_and, true_or, or_true])
set_option maxRecDepth 100000 in
theorem r15_0 (d : Nat) : Ev prog clsT X d mc15 0 [(2, 65), (3, 0)] [] (mk E c s (hh g)) =
  (if inb ((g 65 7)) 11 = true then
  ((Call prog clsT X d 16 [(2, 65), (0, (g 66 (Int.toNat ((g 65 7)))))] ((mk E c s (hh g)))).bind fun r1 => if r1.1.1 = 4 then none else
  Ev prog clsT X d mc15 7 [(2, 65), (3, 0)] (pushR r1.1 []) r1.2)
else none) :=
  (evk_at (r := ((fget 514 ((mk E c s (hh g))) 65).bind fun v1 =>
  (fget 540 ((mk E c s (hh g))) 65).bind fun v2 =>
  (aget X 100 ((mk E c s (hh g))) v1 v2).bind fun v3 =>
  if (2 : Nat) = 2 ∧ rcv ((mk E c s (hh g))) 65 2 = true then
  ((Call prog clsT X d 16 [(2, 65), (0, v3)] ((mk E c s (hh g)))).bind fun r4 => if r4.1.1 = 4 then none else
  Ev prog clsT X d mc15 7 [(2, 65), (3, 0)] (pushR r4.1 []) r4.2) else none)) X [0, 7, 12] 8 rfl).trans (by simp (maxSteps := 10000000) only [R65_2, ↓A66, ↓F514_65, ↓F540_65, bindI, Option.bind_some, if_true_, and_self, ite_true, true_and, true_or, or_true])
set_option maxRecDepth 100000 in
theorem rc15_ (d : Nat) : Call prog clsT X (d + 1) 15 [(2, 65)] (mk E c s (hh g)) =
  (if inb ((g 65 7)) 11 = true then
  ((Call prog clsT X d 16 [(2, 65), (0, (g 66 (Int.toNat ((g 65 7)))))] ((mk E c s (hh g)))).bind fun r1 => if r1.1.1 = 4 then none else
  Ev prog clsT X d mc15 7 [(2, 65), (3, 0)] (pushR r1.1 []) r1.2)
else none) :=
  (show Call prog clsT X (d + 1) 15 [(2, 65)] (mk E c s (hh g)) = Ev prog clsT X d mc15 0 [(2, 65), (3, 0)] [] (mk E c s (hh g)) from rfl).trans (r15_0 X E c s g d  )
set_option maxRecDepth 100000 in
theorem r15_7 (d : Nat) (s0 : Int) : Ev prog clsT X d mc15 7 [(2, 65), (3, 0)] [(0, s0)] (mk E c s (hh g)) =
  (if cmpI .eq s0 0 = true then
  (Ev prog clsT X d mc15 12 [(2, 65), (0, 0)] [] (mk E c s (hh g)))
else
  (some ((0, 0), ((mk E c s (hh g)))))) :=
  (evk_at (r := (if cmpI .eq s0 0 = true then
  (Ev prog clsT X d mc15 12 [(2, 65), (0, 0)] [] (mk E c s (hh g)))
else
  (some ((0, 0), (mk E c s (hh g)))))) X [0, 7, 12] 5 rfl).trans (by simp (maxSteps := 10000000) only [bindI, Option.bind_some, if_true_, and_self, ite_true, true_and, true_or, or_true])
set_option maxRecDepth 100000 in
theorem r15_12 (d : Nat) (x1 : Int) : Ev prog clsT X d mc15 12 [(2, 65), (0, x1)] [] (mk E c s (hh g)) =
  (if cmpI .ge x1 10 = true then
  (some ((0, 1), ((mk E c s (hh g)))))
else
  (if inb x1 11 = true then
    (if inb ((g 65 7)) 11 = true then
    (if cmpI .ne ((g 66 (Int.toNat x1))) ((g 66 (Int.toNat ((g 65 7))))) = true then
    (Ev prog clsT X d mc15 12 [(2, 65), (0, (w32 (x1 + 1)))] [] (mk E c s (hh g)))
  else
    (if inb x1 11 = true then
      (if inb ((g 65 7)) 11 = true then
      (if cmpI .le ((g 67 (Int.toNat x1))) ((g 67 (Int.toNat ((g 65 7))))) = true then
      (Ev prog clsT X d mc15 12 [(2, 65), (0, (w32 (x1 + 1)))] [] (mk E c s (hh g)))
    else
      (some ((0, 0), ((mk E c s (hh g))))))
    else none)
    else none))
  else none)
  else none)) :=
  (evk_at (r := (if cmpI .ge x1 10 = true then
  (some ((0, 1), (mk E c s (hh g))))
else
  ((fget 514 ((mk E c s (hh g))) 65).bind fun v1 =>
    (aget X 100 ((mk E c s (hh g))) v1 x1).bind fun v2 =>
    (fget 514 ((mk E c s (hh g))) 65).bind fun v3 =>
    (fget 540 ((mk E c s (hh g))) 65).bind fun v4 =>
    (aget X 100 ((mk E c s (hh g))) v3 v4).bind fun v5 =>
    if cmpI .ne v2 v5 = true then
    (Ev prog clsT X d mc15 12 [(2, 65), (0, (w32 (x1 + 1)))] [] (mk E c s (hh g)))
  else
    ((fget 518 ((mk E c s (hh g))) 65).bind fun v6 =>
      (aget X 100 ((mk E c s (hh g))) v6 x1).bind fun v7 =>
      (fget 518 ((mk E c s (hh g))) 65).bind fun v8 =>
      (fget 540 ((mk E c s (hh g))) 65).bind fun v9 =>
      (aget X 100 ((mk E c s (hh g))) v8 v9).bind fun v10 =>
      if cmpI .le v7 v10 = true then
      (Ev prog clsT X d mc15 12 [(2, 65), (0, (w32 (x1 + 1)))] [] (mk E c s (hh g)))
    else
      (some ((0, 0), (mk E c s (hh g)))))))) X [0, 7, 12] 27 rfl).trans (by simp (maxSteps := 10000000) only [↓A66, ↓A67, ↓F514_65, ↓F518_65, ↓F540_65, bindI, Option.bind_some, if_true_, and_self, ite_true, true_and, true_or, or_true])
set_option maxRecDepth 100000 in
theorem r16_0 (d : Nat) (x1 : Int) : Ev prog clsT X d mc16 0 [(2, 65), (0, x1), (3, 0)] [] (mk E c s (hh g)) =
  (Ev prog clsT X d mc16 2 [(2, 65), (0, x1), (0, 0)] [] (mk E c s (hh g))) :=
  evk_at X [0, 2] 4 rfl
set_option maxRecDepth 100000 in
theorem rc16_ (d : Nat) (x1 : Int) : Call prog clsT X (d + 1) 16 [(2, 65), (0, x1)] (mk E c s (hh g)) =
  (Ev prog clsT X d mc16 2 [(2, 65), (0, x1), (0, 0)] [] (mk E c s (hh g))) :=
  (show Call prog clsT X (d + 1) 16 [(2, 65), (0, x1)] (mk E c s (hh g)) = Ev prog clsT X d mc16 0 [(2, 65), (0, x1), (3, 0)] [] (mk E c s (hh g)) from rfl).trans (r16_0 X E c s g d x1 )
set_option maxRecDepth 100000 in
theorem r16_2 (d : Nat) (x1 x2 : Int) : Ev prog clsT X d mc16 2 [(2, 65), (0, x1), (0, x2)] [] (mk E c s (hh g)) =
  (if cmpI .ge x2 10 = true then
  (if cmpI .gt x1 0 = true then
    (some ((0, 0), ((mk E c s (hh g)))))
  else
    (some ((0, 1), ((mk E c s (hh g))))))
else
  (if cmpI .eq x2 ((g 65 7)) = true then
    (Ev prog clsT X d mc16 2 [(2, 65), (0, x1), (0, (w32 (x2 + 1)))] [] (mk E c s (hh g)))
  else
    (if inb x2 11 = true then
      (if cmpI .le ((g 66 (Int.toNat x2))) x1 = true then
      (Ev prog clsT X d mc16 2 [(2, 65), (0, x1), (0, (w32 (x2 + 1)))] [] (mk E c s (hh g)))
    else
      (some ((0, 1), ((mk E c s (hh g))))))
    else none))) :=
  (evk_at (r := (if cmpI .ge x2 10 = true then
  (if cmpI .gt x1 0 = true then
    (some ((0, 0), (mk E c s (hh g))))
  else
    (some ((0, 1), (mk E c s (hh g)))))
else
  ((fget 540 ((mk E c s (hh g))) 65).bind fun v1 =>
    if cmpI .eq x2 v1 = true then
    (Ev prog clsT X d mc16 2 [(2, 65), (0, x1), (0, (w32 (x2 + 1)))] [] (mk E c s (hh g)))
  else
    ((fget 514 ((mk E c s (hh g))) 65).bind fun v2 =>
      (aget X 100 ((mk E c s (hh g))) v2 x2).bind fun v3 =>
      if cmpI .le v3 x1 = true then
      (Ev prog clsT X d mc16 2 [(2, 65), (0, x1), (0, (w32 (x2 + 1)))] [] (mk E c s (hh g)))
    else
      (some ((0, 1), (mk E c s (hh g)))))))) X [0, 2] 17 rfl).trans (by simp (maxSteps := 10000000) only [↓A66, ↓F514_65, ↓F540_65, bindI, Option.bind_some, if_true_, and_self, ite_true, true_and, true_or, or_true])
set_option maxRecDepth 100000 in
theorem r18_0 (d : Nat) : Ev prog clsT X d mc18 0 [(2, 30), (3, 0), (3, 0), (3, 0)] [] (mk E c s (hh g)) =
  (Ev prog clsT X d mc18 4 [(2, 30), (1, 0), (3, 0), (0, 0)] [] (mk E c s (hh g))) :=
  evk_at X [0, 4, 12] 6 rfl
set_option maxRecDepth 100000 in
theorem rc18_ (d : Nat) : Call prog clsT X (d + 1) 18 [(2, 30)] (mk E c s (hh g)) =
  (Ev prog clsT X d mc18 4 [(2, 30), (1, 0), (3, 0), (0, 0)] [] (mk E c s (hh g))) :=
  (show Call prog clsT X (d + 1) 18 [(2, 30)] (mk E c s (hh g)) = Ev prog clsT X d mc18 0 [(2, 30), (3, 0), (3, 0), (3, 0)] [] (mk E c s (hh g)) from rfl).trans (r18_0 X E c s g d  )
set_option maxRecDepth 100000 in
theorem r18_4 (d : Nat) (x1 x3 : Int) (w2 : MV) : Ev prog clsT X d mc18 4 [(2, 30), (1, x1), w2, (0, x3)] [] (mk E c s (hh g)) =
  (if cmpI .ge x3 ((g 30 0)) = true then
  (some ((1, x1), ((mk E c s (hh g)))))
else
  ((Call prog clsT X d 19 [(2, 30), (0, x3)] ((mk E c s (hh g)))).bind fun r1 => if r1.1.1 = 4 then none else
    Ev prog clsT X d mc18 12 [(2, 30), (1, x1), (3, 0), (0, x3)] (pushR r1.1 [(1, x1)]) r1.2)) :=
  (evk_at (r := ((fget 1024 ((mk E c s (hh g))) 30).bind fun v1 =>
  if cmpI .ge x3 v1 = true then
  (some ((1, x1), (mk E c s (hh g))))
else
  (if (2 : Nat) = 2 ∧ rcv ((mk E c s (hh g))) 30 3 = true then
    ((Call prog clsT X d 19 [(2, 30), (0, x3)] ((mk E c s (hh g)))).bind fun r2 => if r2.1.1 = 4 then none else
    Ev prog clsT X d mc18 12 [(2, 30), (1, x1), (3, 0), (0, x3)] (pushR r2.1 [(1, x1)]) r2.2) else none))) X [0, 4, 12] 9 rfl).trans (by simp (maxSteps := 10000000) only [R30_3, ↓F1024_30, bindI, Option.bind_some, if_true_, and_self, ite_true, true_and, true_or, or_true])
set_option maxRecDepth 100000 in
theorem r18_12 (d : Nat) (x1 x3 s0 s1 : Int) : Ev prog clsT X d mc18 12 [(2, 30), (1, x1), (3, 0), (0, x3)] [(0, s1), (1, s0)] (mk E c s (hh g)) =
  (if cmpI .eq s1 0 = true then
  (Ev prog clsT X d mc18 4 [(2, 30), (1, (lor64 s0 0)), (3, 0), (0, (w32 (x3 + 1)))] [] (mk E c s (hh g)))
else
  (if inb x3 40 = true then
    (Ev prog clsT X d mc18 4 [(2, 30), (1, (lor64 s0 ((g 33 (Int.toNat x3))))), (3, 0), (0, (w32 (x3 + 1)))] [] (mk E c s (hh g)))
  else none)) :=
  (evk_at (r := (if cmpI .eq s1 0 = true then
  (Ev prog clsT X d mc18 4 [(2, 30), (1, (lor64 s0 0)), (3, 0), (0, (w32 (x3 + 1)))] [] (mk E c s (hh g)))
else
  ((fget 1042 ((mk E c s (hh g))) 30).bind fun v1 =>
    (aget X 101 ((mk E c s (hh g))) v1 x3).bind fun v2 =>
    Ev prog clsT X d mc18 4 [(2, 30), (1, (lor64 s0 v2)), (3, 0), (0, (w32 (x3 + 1)))] [] (mk E c s (hh g))))) X [0, 4, 12] 12 rfl).trans (by simp (maxSteps := 10000000) only [↓A33, ↓F1042_30, bindI, Option.bind_some, if_true_, and_self, ite_true, true_and, true_or, or_true])
set_option maxRecDepth 100000 in
theorem r19_0 (d : Nat) (x1 : Int) : Ev prog clsT X d mc19 0 [(2, 30), (0, x1)] [] (mk E c s (hh g)) =
  ((Call prog clsT X d 20 [(2, 30), (0, x1)] ((mk E c s (hh g)))).bind fun r1 => if r1.1.1 = 4 then none else
  Ev prog clsT X d mc19 3 [(2, 30), (0, x1)] (pushR r1.1 []) r1.2) :=
  (evk_at (r := (if (2 : Nat) = 2 ∧ rcv ((mk E c s (hh g))) 30 3 = true then
  ((Call prog clsT X d 20 [(2, 30), (0, x1)] ((mk E c s (hh g)))).bind fun r1 => if r1.1.1 = 4 then none else
  Ev prog clsT X d mc19 3 [(2, 30), (0, x1)] (pushR r1.1 []) r1.2) else none)) X [0, 3] 4 rfl).trans (by simp (maxSteps := 10000000) only [R30_3, bindI, Option.bind_some, if_true_, and_self, ite_true, true_and, true_or, or_true])
set_option maxRecDepth 100000 in
theorem rc19_ (d : Nat) (x1 : Int) : Call prog clsT X (d + 1) 19 [(2, 30), (0, x1)] (mk E c s (hh g)) =
  ((Call prog clsT X d 20 [(2, 30), (0, x1)] ((mk E c s (hh g)))).bind fun r1 => if r1.1.1 = 4 then none else
  Ev prog clsT X d mc19 3 [(2, 30), (0, x1)] (pushR r1.1 []) r1.2) :=
  (show Call prog clsT X (d + 1) 19 [(2, 30), (0, x1)] (mk E c s (hh g)) = Ev prog clsT X d mc19 0 [(2, 30), (0, x1)] [] (mk E c s (hh g)) from rfl).trans (r19_0 X E c s g d x1 )
set_option maxRecDepth 100000 in
theorem r19_3 (d : Nat) (x1 s0 : Int) : Ev prog clsT X d mc19 3 [(2, 30), (0, x1)] [(0, s0)] (mk E c s (hh g)) =
  (if cmpI .eq s0 0 = true then
  (some ((0, 0), ((mk E c s (hh g)))))
else
  (if cmpI .eq ((lcmpI ((land64 ((lshr64 ((g 30 1)) x1)) 1)) 0)) 0 = true then
    (some ((0, 0), ((mk E c s (hh g)))))
  else
    (some ((0, 1), ((mk E c s (hh g))))))) :=
  (evk_at (r := (if cmpI .eq s0 0 = true then
  (some ((0, 0), (mk E c s (hh g))))
else
  ((fget 1029 ((mk E c s (hh g))) 30).bind fun v1 =>
    if cmpI .eq ((lcmpI ((land64 ((lshr64 v1 x1)) 1)) 0)) 0 = true then
    (some ((0, 0), (mk E c s (hh g))))
  else
    (some ((0, 1), (mk E c s (hh g))))))) X [0, 3] 14 rfl).trans (by simp (maxSteps := 10000000) only [↓F1029_30, bindI, Option.bind_some, if_true_, and_self, ite_true, true_and, true_or, or_true])
set_option maxRecDepth 100000 in
theorem r20_0 (d : Nat) (x1 : Int) : Ev prog clsT X d mc20 0 [(2, 30), (0, x1)] [] (mk E c s (hh g)) =
  (if cmpI .lt x1 0 = true then
  (some ((0, 0), ((mk E c s (hh g)))))
else
  (if cmpI .ge x1 ((g 30 0)) = true then
    (some ((0, 0), ((mk E c s (hh g)))))
  else
    (if cmpI .ge x1 40 = true then
      (some ((0, 0), ((mk E c s (hh g)))))
    else
      (some ((0, 1), ((mk E c s (hh g)))))))) :=
  (evk_at (r := (if cmpI .lt x1 0 = true then
  (some ((0, 0), (mk E c s (hh g))))
else
  ((fget 1024 ((mk E c s (hh g))) 30).bind fun v1 =>
    if cmpI .ge x1 v1 = true then
    (some ((0, 0), (mk E c s (hh g))))
  else
    (if cmpI .ge x1 40 = true then
      (some ((0, 0), (mk E c s (hh g))))
    else
      (some ((0, 1), (mk E c s (hh g)))))))) X [0] 13 rfl).trans (by simp (maxSteps := 10000000) only [↓F1024_30, bindI, Option.bind_some, if_true_, and_self, ite_true, true_and, true_or, or_true])
set_option maxRecDepth 100000 in
theorem rc20_ (d : Nat) (x1 : Int) : Call prog clsT X (d + 1) 20 [(2, 30), (0, x1)] (mk E c s (hh g)) =
  (if cmpI .lt x1 0 = true then
  (some ((0, 0), ((mk E c s (hh g)))))
else
  (if cmpI .ge x1 ((g 30 0)) = true then
    (some ((0, 0), ((mk E c s (hh g)))))
  else
    (if cmpI .ge x1 40 = true then
      (some ((0, 0), ((mk E c s (hh g)))))
    else
      (some ((0, 1), ((mk E c s (hh g)))))))) :=
  (show Call prog clsT X (d + 1) 20 [(2, 30), (0, x1)] (mk E c s (hh g)) = Ev prog clsT X d mc20 0 [(2, 30), (0, x1)] [] (mk E c s (hh g)) from rfl).trans (r20_0 X E c s g d x1 )
set_option maxRecDepth 100000 in
theorem r21_0 (d : Nat) (x1 x2 x3 x5 : Int) : Ev prog clsT X d mc21 0 [(2, 30), (0, x1), (0, x2), (1, x3), (3, 0), (0, x5), (3, 0)] [] (mk E c s (hh g)) =
  (if cmpI .lt ((g 30 0)) 40 = true then
  (if inb ((g 30 0)) 40 = true then
    (if inb ((g 30 0)) 40 = true then
    (if inb ((g 30 0)) 40 = true then
    (if inb ((g 30 0)) 40 = true then
    (if inb ((g 30 0)) 40 = true then
    (some ((0, (g 30 0)), ((mk E c s (hh (up (up (up (up (up (up (up g 31 (Int.toNat ((g 30 0))) x1) 32 (Int.toNat ((g 30 0))) x2) 33 (Int.toNat ((g 30 0))) x3) 34 (Int.toNat ((g 30 0))) x5) 35 (Int.toNat ((g 30 0))) 0) 30 1 ((lor64 ((g 30 1)) ((lshl64 1 ((g 30 0))))))) 30 0 ((w32 (((g 30 0)) + 1)))))))))
  else none)
  else none)
  else none)
  else none)
  else none)
else
  (some ((0, (-1)), ((mk E c s (hh g)))))) :=
  (evk_at (r := ((fget 1024 ((mk E c s (hh g))) 30).bind fun v1 =>
  if cmpI .lt v1 40 = true then
  ((fget 1034 ((mk E c s (hh g))) 30).bind fun v2 =>
    (aput 100 ((mk E c s (hh g))) v2 v1 (x1)).bind fun M3 =>
    (fget 1038 M3 30).bind fun v4 =>
    (aput 100 M3 v4 v1 (x2)).bind fun M5 =>
    (fget 1042 M5 30).bind fun v6 =>
    (aput 101 M5 v6 v1 (x3)).bind fun M7 =>
    (fget 1046 M7 30).bind fun v8 =>
    (aput 100 M7 v8 v1 (x5)).bind fun M9 =>
    (fget 1050 M9 30).bind fun v10 =>
    (aput 100 M9 v10 v1 (0)).bind fun M11 =>
    (fget 1029 M11 30).bind fun v12 =>
    (fput 1029 M11 30 ((lor64 v12 ((lshl64 1 v1))))).bind fun M13 =>
    (fget 1024 M13 30).bind fun v14 =>
    (fput 1024 M13 30 ((w32 (v14 + 1)))).bind fun M15 =>
    some ((0, v1), M15))
else
  (some ((0, (-1)), (mk E c s (hh g)))))) X [0] 48 rfl).trans (by simp (maxSteps := 10000000) only [uc_31_30, uc_32_30, uc_33_30, uc_34_30, uc_35_30, uq_1_0, ↓F1024_30, ↓F1029_30, ↓F1034_30, ↓F1038_30, ↓F1042_30, ↓F1046_30, ↓F1050_30, ↓S31, ↓S32, ↓S33, ↓S34, ↓S35, ↓W1024_30, ↓W1029_30, bindI, Option.bind_some, if_true_, and_self, ite_true, true_and, true_or, or_true])
set_option maxRecDepth 100000 in
theorem rc21_ (d : Nat) (x1 x2 x3 x5 : Int) : Call prog clsT X (d + 1) 21 [(2, 30), (0, x1), (0, x2), (1, x3), (0, x5)] (mk E c s (hh g)) =
  (if cmpI .lt ((g 30 0)) 40 = true then
  (if inb ((g 30 0)) 40 = true then
    (if inb ((g 30 0)) 40 = true then
    (if inb ((g 30 0)) 40 = true then
    (if inb ((g 30 0)) 40 = true then
    (if inb ((g 30 0)) 40 = true then
    (some ((0, (g 30 0)), ((mk E c s (hh (up (up (up (up (up (up (up g 31 (Int.toNat ((g 30 0))) x1) 32 (Int.toNat ((g 30 0))) x2) 33 (Int.toNat ((g 30 0))) x3) 34 (Int.toNat ((g 30 0))) x5) 35 (Int.toNat ((g 30 0))) 0) 30 1 ((lor64 ((g 30 1)) ((lshl64 1 ((g 30 0))))))) 30 0 ((w32 (((g 30 0)) + 1)))))))))
  else none)
  else none)
  else none)
  else none)
  else none)
else
  (some ((0, (-1)), ((mk E c s (hh g)))))) :=
  (show Call prog clsT X (d + 1) 21 [(2, 30), (0, x1), (0, x2), (1, x3), (0, x5)] (mk E c s (hh g)) = Ev prog clsT X d mc21 0 [(2, 30), (0, x1), (0, x2), (1, x3), (3, 0), (0, x5), (3, 0)] [] (mk E c s (hh g)) from rfl).trans (r21_0 X E c s g d x1 x2 x3 x5 )
set_option maxRecDepth 100000 in
theorem r22_0 (d : Nat) (x1 x2 : Int) : Ev prog clsT X d mc22 0 [(2, 30), (0, x1), (0, x2)] [] (mk E c s (hh g)) =
  ((Call prog clsT X d 20 [(2, 30), (0, x1)] ((mk E c s (hh g)))).bind fun r1 => if r1.1.1 = 4 then none else
  Ev prog clsT X d mc22 3 [(2, 30), (0, x1), (0, x2)] (pushR r1.1 []) r1.2) :=
  (evk_at (r := (if (2 : Nat) = 2 ∧ rcv ((mk E c s (hh g))) 30 3 = true then
  ((Call prog clsT X d 20 [(2, 30), (0, x1)] ((mk E c s (hh g)))).bind fun r1 => if r1.1.1 = 4 then none else
  Ev prog clsT X d mc22 3 [(2, 30), (0, x1), (0, x2)] (pushR r1.1 []) r1.2) else none)) X [0, 3] 4 rfl).trans (by simp (maxSteps := 10000000) only [R30_3, bindI, Option.bind_some, if_true_, and_self, ite_true, true_and, true_or, or_true])
set_option maxRecDepth 100000 in
theorem rc22_ (d : Nat) (x1 x2 : Int) : Call prog clsT X (d + 1) 22 [(2, 30), (0, x1), (0, x2)] (mk E c s (hh g)) =
  ((Call prog clsT X d 20 [(2, 30), (0, x1)] ((mk E c s (hh g)))).bind fun r1 => if r1.1.1 = 4 then none else
  Ev prog clsT X d mc22 3 [(2, 30), (0, x1), (0, x2)] (pushR r1.1 []) r1.2) :=
  (show Call prog clsT X (d + 1) 22 [(2, 30), (0, x1), (0, x2)] (mk E c s (hh g)) = Ev prog clsT X d mc22 0 [(2, 30), (0, x1), (0, x2)] [] (mk E c s (hh g)) from rfl).trans (r22_0 X E c s g d x1 x2 )
set_option maxRecDepth 100000 in
theorem r22_3 (d : Nat) (x1 x2 s0 : Int) : Ev prog clsT X d mc22 3 [(2, 30), (0, x1), (0, x2)] [(0, s0)] (mk E c s (hh g)) =
  (if cmpI .eq s0 0 = true then
  (some ((0, 0), ((mk E c s (hh g)))))
else
  (if cmpI .eq ((lcmpI ((land64 ((lshr64 ((g 30 1)) x1)) 1)) 0)) 0 = true then
    (some ((0, 0), ((mk E c s (hh g)))))
  else
    (if inb x1 40 = true then
      (if cmpI .ne ((g 31 (Int.toNat x1))) x2 = true then
      (some ((0, 0), ((mk E c s (hh g)))))
    else
      (some ((0, 1), ((mk E c s (hh g))))))
    else none))) :=
  (evk_at (r := (if cmpI .eq s0 0 = true then
  (some ((0, 0), (mk E c s (hh g))))
else
  ((fget 1029 ((mk E c s (hh g))) 30).bind fun v1 =>
    if cmpI .eq ((lcmpI ((land64 ((lshr64 v1 x1)) 1)) 0)) 0 = true then
    (some ((0, 0), (mk E c s (hh g))))
  else
    ((fget 1034 ((mk E c s (hh g))) 30).bind fun v2 =>
      (aget X 100 ((mk E c s (hh g))) v2 x1).bind fun v3 =>
      if cmpI .ne v3 x2 = true then
      (some ((0, 0), (mk E c s (hh g))))
    else
      (some ((0, 1), (mk E c s (hh g)))))))) X [0, 3] 20 rfl).trans (by simp (maxSteps := 10000000) only [↓A31, ↓F1029_30, ↓F1034_30, bindI, Option.bind_some, if_true_, and_self, ite_true, true_and, true_or, or_true])
set_option maxRecDepth 100000 in
theorem r23_0 (d : Nat) (x1 x2 : Int) : Ev prog clsT X d mc23 0 [(2, 30), (0, x1), (0, x2), (3, 0), (3, 0)] [] (mk E c s (hh g)) =
  (Ev prog clsT X d mc23 4 [(2, 30), (0, x1), (0, x2), (0, 0), (0, 0)] [] (mk E c s (hh g))) :=
  evk_at X [0, 4, 13] 6 rfl
set_option maxRecDepth 100000 in
theorem rc23_ (d : Nat) (x1 x2 : Int) : Call prog clsT X (d + 1) 23 [(2, 30), (0, x1), (0, x2)] (mk E c s (hh g)) =
  (Ev prog clsT X d mc23 4 [(2, 30), (0, x1), (0, x2), (0, 0), (0, 0)] [] (mk E c s (hh g))) :=
  (show Call prog clsT X (d + 1) 23 [(2, 30), (0, x1), (0, x2)] (mk E c s (hh g)) = Ev prog clsT X d mc23 0 [(2, 30), (0, x1), (0, x2), (3, 0), (3, 0)] [] (mk E c s (hh g)) from rfl).trans (r23_0 X E c s g d x1 x2 )
set_option maxRecDepth 100000 in
theorem r23_4 (d : Nat) (x1 x2 x3 x4 : Int) : Ev prog clsT X d mc23 4 [(2, 30), (0, x1), (0, x2), (0, x3), (0, x4)] [] (mk E c s (hh g)) =
  (if cmpI .ge x4 ((g 30 0)) = true then
  (some ((0, x3), ((mk E c s (hh g)))))
else
  ((Call prog clsT X d 22 [(2, 30), (0, x4), (0, x2)] ((mk E c s (hh g)))).bind fun r1 => if r1.1.1 = 4 then none else
    Ev prog clsT X d mc23 13 [(2, 30), (0, x1), (0, x2), (0, x3), (0, x4)] (pushR r1.1 [(0, x3)]) r1.2)) :=
  (evk_at (r := ((fget 1024 ((mk E c s (hh g))) 30).bind fun v1 =>
  if cmpI .ge x4 v1 = true then
  (some ((0, x3), (mk E c s (hh g))))
else
  (if (2 : Nat) = 2 ∧ rcv ((mk E c s (hh g))) 30 3 = true then
    ((Call prog clsT X d 22 [(2, 30), (0, x4), (0, x2)] ((mk E c s (hh g)))).bind fun r2 => if r2.1.1 = 4 then none else
    Ev prog clsT X d mc23 13 [(2, 30), (0, x1), (0, x2), (0, x3), (0, x4)] (pushR r2.1 [(0, x3)]) r2.2) else none))) X [0, 4, 13] 10 rfl).trans (by simp (maxSteps := 10000000) only [R30_3, ↓F1024_30, bindI, Option.bind_some, if_true_, and_self, ite_true, true_and, true_or, or_true])
set_option maxRecDepth 100000 in
theorem r23_13 (d : Nat) (x1 x2 x3 x4 s0 s1 : Int) : Ev prog clsT X d mc23 13 [(2, 30), (0, x1), (0, x2), (0, x3), (0, x4)] [(0, s1), (0, s0)] (mk E c s (hh g)) =
  (if cmpI .eq s1 0 = true then
  (Ev prog clsT X d mc23 4 [(2, 30), (0, x1), (0, x2), (0, (w32 (s0 + 0))), (0, (w32 (x4 + 1)))] [] (mk E c s (hh g)))
else
  (if inb x4 40 = true then
    (if cmpI .ne ((g 32 (Int.toNat x4))) x1 = true then
    (Ev prog clsT X d mc23 4 [(2, 30), (0, x1), (0, x2), (0, (w32 (s0 + 0))), (0, (w32 (x4 + 1)))] [] (mk E c s (hh g)))
  else
    (Ev prog clsT X d mc23 4 [(2, 30), (0, x1), (0, x2), (0, (w32 (s0 + 1))), (0, (w32 (x4 + 1)))] [] (mk E c s (hh g))))
  else none)) :=
  (evk_at (r := (if cmpI .eq s1 0 = true then
  (Ev prog clsT X d mc23 4 [(2, 30), (0, x1), (0, x2), (0, (w32 (s0 + 0))), (0, (w32 (x4 + 1)))] [] (mk E c s (hh g)))
else
  ((fget 1038 ((mk E c s (hh g))) 30).bind fun v1 =>
    (aget X 100 ((mk E c s (hh g))) v1 x4).bind fun v2 =>
    if cmpI .ne v2 x1 = true then
    (Ev prog clsT X d mc23 4 [(2, 30), (0, x1), (0, x2), (0, (w32 (s0 + 0))), (0, (w32 (x4 + 1)))] [] (mk E c s (hh g)))
  else
    (Ev prog clsT X d mc23 4 [(2, 30), (0, x1), (0, x2), (0, (w32 (s0 + 1))), (0, (w32 (x4 + 1)))] [] (mk E c s (hh g)))))) X [0, 4, 13] 15 rfl).trans (by simp (maxSteps := 10000000) only [↓A32, ↓F1038_30, bindI, Option.bind_some, if_true_, and_self, ite_true, true_and, true_or, or_true])
set_option maxRecDepth 100000 in
theorem r24_0 (d : Nat) (x1 : Int) : Ev prog clsT X d mc24 0 [(2, 30), (0, x1), (3, 0), (3, 0)] [] (mk E c s (hh g)) =
  (Ev prog clsT X d mc24 4 [(2, 30), (0, x1), (0, 0), (0, 0)] [] (mk E c s (hh g))) :=
  evk_at X [0, 4, 13] 6 rfl
set_option maxRecDepth 100000 in
theorem rc24_ (d : Nat) (x1 : Int) : Call prog clsT X (d + 1) 24 [(2, 30), (0, x1)] (mk E c s (hh g)) =
  (Ev prog clsT X d mc24 4 [(2, 30), (0, x1), (0, 0), (0, 0)] [] (mk E c s (hh g))) :=
  (show Call prog clsT X (d + 1) 24 [(2, 30), (0, x1)] (mk E c s (hh g)) = Ev prog clsT X d mc24 0 [(2, 30), (0, x1), (3, 0), (3, 0)] [] (mk E c s (hh g)) from rfl).trans (r24_0 X E c s g d x1 )
set_option maxRecDepth 100000 in
theorem r24_4 (d : Nat) (x1 x2 x3 : Int) : Ev prog clsT X d mc24 4 [(2, 30), (0, x1), (0, x2), (0, x3)] [] (mk E c s (hh g)) =
  (if cmpI .ge x3 ((g 30 0)) = true then
  (some ((0, x2), ((mk E c s (hh g)))))
else
  ((Call prog clsT X d 22 [(2, 30), (0, x3), (0, x1)] ((mk E c s (hh g)))).bind fun r1 => if r1.1.1 = 4 then none else
    Ev prog clsT X d mc24 13 [(2, 30), (0, x1), (0, x2), (0, x3)] (pushR r1.1 [(0, x2)]) r1.2)) :=
  (evk_at (r := ((fget 1024 ((mk E c s (hh g))) 30).bind fun v1 =>
  if cmpI .ge x3 v1 = true then
  (some ((0, x2), (mk E c s (hh g))))
else
  (if (2 : Nat) = 2 ∧ rcv ((mk E c s (hh g))) 30 3 = true then
    ((Call prog clsT X d 22 [(2, 30), (0, x3), (0, x1)] ((mk E c s (hh g)))).bind fun r2 => if r2.1.1 = 4 then none else
    Ev prog clsT X d mc24 13 [(2, 30), (0, x1), (0, x2), (0, x3)] (pushR r2.1 [(0, x2)]) r2.2) else none))) X [0, 4, 13] 10 rfl).trans (by simp (maxSteps := 10000000) only [R30_3, ↓F1024_30, bindI, Option.bind_some, if_true_, and_self, ite_true, true_and, true_or, or_true])
set_option maxRecDepth 100000 in
theorem r24_13 (d : Nat) (x1 x2 x3 s0 s1 : Int) : Ev prog clsT X d mc24 13 [(2, 30), (0, x1), (0, x2), (0, x3)] [(0, s1), (0, s0)] (mk E c s (hh g)) =
  (if cmpI .eq s1 0 = true then
  (Ev prog clsT X d mc24 4 [(2, 30), (0, x1), (0, (w32 (s0 + 0))), (0, (w32 (x3 + 1)))] [] (mk E c s (hh g)))
else
  (Ev prog clsT X d mc24 4 [(2, 30), (0, x1), (0, (w32 (s0 + 1))), (0, (w32 (x3 + 1)))] [] (mk E c s (hh g)))) :=
  evk_at X [0, 4, 13] 9 rfl
set_option maxRecDepth 100000 in
theorem r25_0 (d : Nat) : Ev prog clsT X d mc25 0 [(2, 30), (3, 0), (3, 0)] [] (mk E c s (hh g)) =
  (Ev prog clsT X d mc25 4 [(2, 30), (0, 0), (0, 0)] [] (mk E c s (hh g))) :=
  evk_at X [0, 4] 6 rfl
set_option maxRecDepth 100000 in
theorem rc25_ (d : Nat) : Call prog clsT X (d + 1) 25 [(2, 30)] (mk E c s (hh g)) =
  (Ev prog clsT X d mc25 4 [(2, 30), (0, 0), (0, 0)] [] (mk E c s (hh g))) :=
  (show Call prog clsT X (d + 1) 25 [(2, 30)] (mk E c s (hh g)) = Ev prog clsT X d mc25 0 [(2, 30), (3, 0), (3, 0)] [] (mk E c s (hh g)) from rfl).trans (r25_0 X E c s g d  )
set_option maxRecDepth 100000 in
theorem r25_4 (d : Nat) (x1 x2 : Int) : Ev prog clsT X d mc25 4 [(2, 30), (0, x1), (0, x2)] [] (mk E c s (hh g)) =
  (if cmpI .ge x2 ((g 30 0)) = true then
  (some ((0, x1), ((mk E c s (hh g)))))
else
  (if inb x2 40 = true then
    (Ev prog clsT X d mc25 4 [(2, 30), (0, (w32 (x1 + ((g 35 (Int.toNat x2)))))), (0, (w32 (x2 + 1)))] [] (mk E c s (hh g)))
  else none)) :=
  (evk_at (r := ((fget 1024 ((mk E c s (hh g))) 30).bind fun v1 =>
  if cmpI .ge x2 v1 = true then
  (some ((0, x1), (mk E c s (hh g))))
else
  ((fget 1050 ((mk E c s (hh g))) 30).bind fun v2 =>
    (aget X 100 ((mk E c s (hh g))) v2 x2).bind fun v3 =>
    Ev prog clsT X d mc25 4 [(2, 30), (0, (w32 (x1 + v3))), (0, (w32 (x2 + 1)))] [] (mk E c s (hh g))))) X [0, 4] 15 rfl).trans (by simp (maxSteps := 10000000) only [↓A35, ↓F1024_30, ↓F1050_30, bindI, Option.bind_some, if_true_, and_self, ite_true, true_and, true_or, or_true])
set_option maxRecDepth 100000 in
theorem r26_34 (d : Nat) : Ev prog clsT X d mc26 34 [(2, 40)] [] (mk E c s (hh g)) =
  ((Call prog clsT X d 248 [(2, 44), (0, (-1))] ((mk E c s (hh g)))).bind fun r1 => if r1.1.1 = 4 then none else
  Ev prog clsT X d mc26 38 [(2, 40)] (pushR r1.1 []) r1.2) :=
  (evk_at (r := ((fget 1550 ((mk E c s (hh g))) 40).bind fun v1 =>
  (Call prog clsT X d 248 [(2, v1), (0, (-1))] ((mk E c s (hh g)))).bind fun r2 => if r2.1.1 = 4 then none else
  Ev prog clsT X d mc26 38 [(2, 40)] (pushR r2.1 []) r2.2)) X [0, 34, 38] 5 rfl).trans (by simp (maxSteps := 10000000) only [↓F1550_40, bindI, Option.bind_some, if_true_, and_self, ite_true, true_and, true_or, or_true])
set_option maxRecDepth 100000 in
theorem r26_38 (d : Nat) : Ev prog clsT X d mc26 38 [(2, 40)] [] (mk E c s (hh g)) =
  (some ((3, 0), ((mk E c s (hh g))))) :=
  (evk_at (r := (some ((3, 0), (mk E c s (hh g))))) X [0, 34, 38] 2 rfl).trans (by simp (maxSteps := 10000000) only [bindI, Option.bind_some, if_true_, and_self, ite_true, true_and, true_or, or_true])
set_option maxRecDepth 100000 in
theorem r27_0 (d : Nat) (x1 : Int) : Ev prog clsT X d mc27 0 [(2, 40), (0, x1), (3, 0), (3, 0)] [] (mk E c s (hh g)) =
  (Ev prog clsT X d mc27 4 [(2, 40), (0, x1), (0, 0), (0, 0)] [] (mk E c s (hh g))) :=
  evk_at X [0, 4] 6 rfl
set_option maxRecDepth 100000 in
theorem rc27_ (d : Nat) (x1 : Int) : Call prog clsT X (d + 1) 27 [(2, 40), (0, x1)] (mk E c s (hh g)) =
  (Ev prog clsT X d mc27 4 [(2, 40), (0, x1), (0, 0), (0, 0)] [] (mk E c s (hh g))) :=
  (show Call prog clsT X (d + 1) 27 [(2, 40), (0, x1)] (mk E c s (hh g)) = Ev prog clsT X d mc27 0 [(2, 40), (0, x1), (3, 0), (3, 0)] [] (mk E c s (hh g)) from rfl).trans (r27_0 X E c s g d x1 )
set_option maxRecDepth 100000 in
theorem r27_4 (d : Nat) (x1 x2 x3 : Int) : Ev prog clsT X d mc27 4 [(2, 40), (0, x1), (0, x2), (0, x3)] [] (mk E c s (hh g)) =
  (if cmpI .ge x3 5 = true then
  (some ((0, x2), ((mk E c s (hh g)))))
else
  (if inb ((w32 (((w32 (x1 * 5))) + x3))) 50 = true then
    (Ev prog clsT X d mc27 4 [(2, 40), (0, x1), (0, (if x2 < (g 44 (Int.toNat ((w32 (((w32 (x1 * 5))) + x3))))) then (g 44 (Int.toNat ((w32 (((w32 (x1 * 5))) + x3))))) else x2)), (0, (w32 (x3 + 1)))] [] (mk E c s (hh g)))
  else none)) :=
  (evk_at (r := (if cmpI .ge x3 5 = true then
  (some ((0, x2), (mk E c s (hh g))))
else
  ((fget 1550 ((mk E c s (hh g))) 40).bind fun v1 =>
    (aget X 100 ((mk E c s (hh g))) v1 ((w32 (((w32 (x1 * 5))) + x3)))).bind fun v2 =>
    Ev prog clsT X d mc27 4 [(2, 40), (0, x1), (0, (if x2 < v2 then v2 else x2)), (0, (w32 (x3 + 1)))] [] (mk E c s (hh g))))) X [0, 4] 18 rfl).trans (by simp (maxSteps := 10000000) only [↓A44, ↓F1550_40, bindI, Option.bind_some, if_true_, and_self, ite_true, true_and, true_or, or_true])
set_option maxRecDepth 100000 in
theorem r28_0 (d : Nat) : Ev prog clsT X d mc28 0 [(2, 40), (3, 0), (3, 0)] [] (mk E c s (hh g)) =
  (Ev prog clsT X d mc28 4 [(2, 40), (0, 0), (0, 0)] [] (mk E c s (hh g))) :=
  evk_at X [0, 4, 38, 53] 6 rfl
set_option maxRecDepth 100000 in
theorem rc28_ (d : Nat) : Call prog clsT X (d + 1) 28 [(2, 40)] (mk E c s (hh g)) =
  (Ev prog clsT X d mc28 4 [(2, 40), (0, 0), (0, 0)] [] (mk E c s (hh g))) :=
  (show Call prog clsT X (d + 1) 28 [(2, 40)] (mk E c s (hh g)) = Ev prog clsT X d mc28 0 [(2, 40), (3, 0), (3, 0)] [] (mk E c s (hh g)) from rfl).trans (r28_0 X E c s g d  )
set_option maxRecDepth 100000 in
theorem r28_4 (d : Nat) (x1 x2 : Int) : Ev prog clsT X d mc28 4 [(2, 40), (0, x1), (0, x2)] [] (mk E c s (hh g)) =
  (if cmpI .ge x2 10 = true then
  (if cmpI .le x1 ((w32 (((w32 (((g 41 0)) + ((g 41 1))))) + ((g 41 2))))) = true then
    (Ev prog clsT X d mc28 38 [(2, 40), (0, x1), (0, 0)] [] (mk E c s (hh g)))
  else
    (some ((0, (-1)), ((mk E c s (hh g))))))
else
  (if inb x2 10 = true then
    (Ev prog clsT X d mc28 4 [(2, 40), (0, (w32 (x1 + ((if (g 45 (Int.toNat x2)) < 0 then 0 else (g 45 (Int.toNat x2))))))), (0, (w32 (x2 + 1)))] [] (mk E c s (hh g)))
  else none)) :=
  (evk_at (r := (if cmpI .ge x2 10 = true then
  ((fget 1538 ((mk E c s (hh g))) 40).bind fun v1 =>
    (aget X 100 ((mk E c s (hh g))) v1 0).bind fun v2 =>
    (fget 1538 ((mk E c s (hh g))) 40).bind fun v3 =>
    (aget X 100 ((mk E c s (hh g))) v3 1).bind fun v4 =>
    (fget 1538 ((mk E c s (hh g))) 40).bind fun v5 =>
    (aget X 100 ((mk E c s (hh g))) v5 2).bind fun v6 =>
    if cmpI .le x1 ((w32 (((w32 (v2 + v4))) + v6))) = true then
    (Ev prog clsT X d mc28 38 [(2, 40), (0, x1), (0, 0)] [] (mk E c s (hh g)))
  else
    (some ((0, (-1)), (mk E c s (hh g)))))
else
  ((fget 1554 ((mk E c s (hh g))) 40).bind fun v7 =>
    (aget X 100 ((mk E c s (hh g))) v7 x2).bind fun v8 =>
    Ev prog clsT X d mc28 4 [(2, 40), (0, (w32 (x1 + ((if v8 < 0 then 0 else v8))))), (0, (w32 (x2 + 1)))] [] (mk E c s (hh g))))) X [0, 4, 38, 53] 23 rfl).trans (by simp (maxSteps := 10000000) only [inbL 0 3 rfl, inbL 1 3 rfl, inbL 2 3 rfl, tn0, tn1, tn2, ↓A41, ↓A45, ↓F1538_40, ↓F1554_40, bindI, Option.bind_some, if_true_, and_self, ite_true, true_and, true_or, or_true])
set_option maxRecDepth 100000 in
theorem r28_38 (d : Nat) (x2 : Int) (w1 : MV) : Ev prog clsT X d mc28 38 [(2, 40), w1, (0, x2)] [] (mk E c s (hh g)) =
  (if cmpI .gt x2 10 = true then
  (some ((0, (-1)), ((mk E c s (hh g)))))
else
  ((Call prog clsT X d 29 [(2, 40), (0, 0), (0, x2)] ((mk E c s (hh (cpy g 41 47 3))))).bind fun r1 => if r1.1.1 = 4 then none else
    Ev prog clsT X d mc28 53 [(2, 40), (3, 0), (0, x2)] (pushR r1.1 []) r1.2)) :=
  (evk_at (r := (if cmpI .gt x2 10 = true then
  (some ((0, (-1)), (mk E c s (hh g))))
else
  ((fget 1538 ((mk E c s (hh g))) 40).bind fun v1 =>
    (fget 1562 ((mk E c s (hh g))) 40).bind fun v2 =>
    (acopy ((mk E c s (hh g))) v1 0 v2 0 3).bind fun M3 =>
    if (2 : Nat) = 2 ∧ rcv M3 40 4 = true then
    ((Call prog clsT X d 29 [(2, 40), (0, 0), (0, x2)] M3).bind fun r4 => if r4.1.1 = 4 then none else
    Ev prog clsT X d mc28 53 [(2, 40), (3, 0), (0, x2)] (pushR r4.1 []) r4.2) else none))) X [0, 4, 38, 53] 16 rfl).trans (by simp (maxSteps := 10000000) only [R40_4, ↓CP_41_47, ↓F1538_40, ↓F1562_40, bindI, Option.bind_some, if_true_, and_self, ite_true, true_and, true_or, or_true])
set_option maxRecDepth 100000 in
theorem r28_53 (d : Nat) (x2 s0 : Int) : Ev prog clsT X d mc28 53 [(2, 40), (3, 0), (0, x2)] [(0, s0)] (mk E c s (hh g)) =
  (if cmpI .eq s0 0 = true then
  (Ev prog clsT X d mc28 38 [(2, 40), (3, 0), (0, (w32 (x2 + 1)))] [] (mk E c s (hh g)))
else
  (some ((0, x2), ((mk E c s (hh g)))))) :=
  (evk_at (r := (if cmpI .eq s0 0 = true then
  (Ev prog clsT X d mc28 38 [(2, 40), (3, 0), (0, (w32 (x2 + 1)))] [] (mk E c s (hh g)))
else
  (some ((0, x2), (mk E c s (hh g)))))) X [0, 4, 38, 53] 5 rfl).trans (by simp (maxSteps := 10000000) only [bindI, Option.bind_some, if_true_, and_self, ite_true, true_and, true_or, or_true])
set_option maxRecDepth 100000 in
theorem r29_0 (d : Nat) (x1 x2 : Int) : Ev prog clsT X d mc29 0 [(2, 40), (0, x1), (0, x2), (3, 0), (3, 0)] [] (mk E c s (hh g)) =
  (if cmpI .lt x1 10 = true then
  (if inb x1 10 = true then
    (if cmpI .ne ((g 45 (Int.toNat x1))) ((-1)) = true then
    (Ev prog clsT X d mc29 20 [(2, 40), (0, x1), (0, x2), (0, 0), (3, 0)] [] (mk E c s (hh g)))
  else
    ((Call prog clsT X d 29 [(2, 40), (0, (w32 (x1 + 1))), (0, x2)] ((mk E c s (hh g)))).bind fun r1 => if r1.1.1 = 4 then none else
      Ev prog clsT X d mc29 17 [(2, 40), (0, x1), (0, x2), (3, 0), (3, 0)] (pushR r1.1 []) r1.2))
  else none)
else
  (some ((0, 1), ((mk E c s (hh g)))))) :=
  (evk_at (r := (if cmpI .lt x1 10 = true then
  ((fget 1554 ((mk E c s (hh g))) 40).bind fun v1 =>
    (aget X 100 ((mk E c s (hh g))) v1 x1).bind fun v2 =>
    if cmpI .ne v2 ((-1)) = true then
    (Ev prog clsT X d mc29 20 [(2, 40), (0, x1), (0, x2), (0, 0), (3, 0)] [] (mk E c s (hh g)))
  else
    (if (2 : Nat) = 2 ∧ rcv ((mk E c s (hh g))) 40 4 = true then
      ((Call prog clsT X d 29 [(2, 40), (0, (w32 (x1 + 1))), (0, x2)] ((mk E c s (hh g)))).bind fun r3 => if r3.1.1 = 4 then none else
      Ev prog clsT X d mc29 17 [(2, 40), (0, x1), (0, x2), (3, 0), (3, 0)] (pushR r3.1 []) r3.2) else none))
else
  (some ((0, 1), (mk E c s (hh g)))))) X [0, 17, 20, 70] 16 rfl).trans (by simp (maxSteps := 10000000) only [R40_4, ↓A45, ↓F1554_40, bindI, Option.bind_some, if_true_, and_self, ite_true, true_and, true_or, or_true])
set_option maxRecDepth 100000 in
theorem rc29_ (d : Nat) (x1 x2 : Int) : Call prog clsT X (d + 1) 29 [(2, 40), (0, x1), (0, x2)] (mk E c s (hh g)) =
  (if cmpI .lt x1 10 = true then
  (if inb x1 10 = true then
    (if cmpI .ne ((g 45 (Int.toNat x1))) ((-1)) = true then
    (Ev prog clsT X d mc29 20 [(2, 40), (0, x1), (0, x2), (0, 0), (3, 0)] [] (mk E c s (hh g)))
  else
    ((Call prog clsT X d 29 [(2, 40), (0, (w32 (x1 + 1))), (0, x2)] ((mk E c s (hh g)))).bind fun r1 => if r1.1.1 = 4 then none else
      Ev prog clsT X d mc29 17 [(2, 40), (0, x1), (0, x2), (3, 0), (3, 0)] (pushR r1.1 []) r1.2))
  else none)
else
  (some ((0, 1), ((mk E c s (hh g)))))) :=
  (show Call prog clsT X (d + 1) 29 [(2, 40), (0, x1), (0, x2)] (mk E c s (hh g)) = Ev prog clsT X d mc29 0 [(2, 40), (0, x1), (0, x2), (3, 0), (3, 0)] [] (mk E c s (hh g)) from rfl).trans (r29_0 X E c s g d x1 x2 )
set_option maxRecDepth 100000 in
theorem r29_17 (d : Nat) (x1 x2 s0 : Int) : Ev prog clsT X d mc29 17 [(2, 40), (0, x1), (0, x2), (3, 0), (3, 0)] [(0, s0)] (mk E c s (hh g)) =
  (if (0 : Nat) = 0 ∧ one01 s0 = true then some ((0, s0), ((mk E c s (hh g)))) else none) :=
  (evk_at (r := (if (0 : Nat) = 0 ∧ one01 s0 = true then some ((0, s0), (mk E c s (hh g))) else none)) X [0, 17, 20, 70] 2 rfl).trans (by simp (maxSteps := 10000000) only [bindI, Option.bind_some, if_true_, and_self, ite_true, true_and, true_or, or_true])
set_option maxRecDepth 100000 in
theorem r29_20 (d : Nat) (x1 x2 x3 : Int) (w4 : MV) : Ev prog clsT X d mc29 20 [(2, 40), (0, x1), (0, x2), (0, x3), w4] [] (mk E c s (hh g)) =
  (if cmpI .ge x3 3 = true then
  (some ((0, 0), ((mk E c s (hh g)))))
else
  (if inb x1 10 = true then
    (if cmpI .ne x3 ((g 42 (Int.toNat x1))) = true then
    (if cmpI .gt 1 x2 = true then
      (Ev prog clsT X d mc29 20 [(2, 40), (0, x1), (0, x2), (0, (w32 (x3 + 1))), (0, 1)] [] (mk E c s (hh g)))
    else
      (if inb x1 10 = true then
        (if inb x3 3 = true then
        (if cmpI .le ((g 45 (Int.toNat x1))) ((g 47 (Int.toNat x3))) = true then
        (if inb x1 10 = true then
          (if inb x3 3 = true then
          (if inb x1 10 = true then
          (if inb x3 3 = true then
          ((Call prog clsT X d 29 [(2, 40), (0, (w32 (x1 + 1))), (0, (w32 (x2 - 1)))] ((mk E c s (hh (up (up g 46 (Int.toNat x1) x3) 47 (Int.toNat x3) ((w32 (((g 47 (Int.toNat x3))) - ((g 45 (Int.toNat x1))))))))))).bind fun r1 => if r1.1.1 = 4 then none else
          Ev prog clsT X d mc29 70 [(2, 40), (0, x1), (0, x2), (0, x3), (0, 1)] (pushR r1.1 []) r1.2)
        else none)
        else none)
        else none)
        else none)
      else
        (Ev prog clsT X d mc29 20 [(2, 40), (0, x1), (0, x2), (0, (w32 (x3 + 1))), (0, 1)] [] (mk E c s (hh g))))
      else none)
      else none))
  else
    (if cmpI .gt 0 x2 = true then
      (Ev prog clsT X d mc29 20 [(2, 40), (0, x1), (0, x2), (0, (w32 (x3 + 1))), (0, 0)] [] (mk E c s (hh g)))
    else
      (if inb x1 10 = true then
        (if inb x3 3 = true then
        (if cmpI .le ((g 45 (Int.toNat x1))) ((g 47 (Int.toNat x3))) = true then
        (if inb x1 10 = true then
          (if inb x3 3 = true then
          (if inb x1 10 = true then
          (if inb x3 3 = true then
          ((Call prog clsT X d 29 [(2, 40), (0, (w32 (x1 + 1))), (0, (w32 (x2 - 0)))] ((mk E c s (hh (up (up g 46 (Int.toNat x1) x3) 47 (Int.toNat x3) ((w32 (((g 47 (Int.toNat x3))) - ((g 45 (Int.toNat x1))))))))))).bind fun r2 => if r2.1.1 = 4 then none else
          Ev prog clsT X d mc29 70 [(2, 40), (0, x1), (0, x2), (0, x3), (0, 0)] (pushR r2.1 []) r2.2)
        else none)
        else none)
        else none)
        else none)
      else
        (Ev prog clsT X d mc29 20 [(2, 40), (0, x1), (0, x2), (0, (w32 (x3 + 1))), (0, 0)] [] (mk E c s (hh g))))
      else none)
      else none)))
  else none)) :=
  (evk_at (r := (if cmpI .ge x3 3 = true then
  (some ((0, 0), (mk E c s (hh g))))
else
  ((fget 1542 ((mk E c s (hh g))) 40).bind fun v1 =>
    (aget X 100 ((mk E c s (hh g))) v1 x1).bind fun v2 =>
    if cmpI .ne x3 v2 = true then
    (if cmpI .gt 1 x2 = true then
      (Ev prog clsT X d mc29 20 [(2, 40), (0, x1), (0, x2), (0, (w32 (x3 + 1))), (0, 1)] [] (mk E c s (hh g)))
    else
      ((fget 1554 ((mk E c s (hh g))) 40).bind fun v3 =>
        (aget X 100 ((mk E c s (hh g))) v3 x1).bind fun v4 =>
        (fget 1562 ((mk E c s (hh g))) 40).bind fun v5 =>
        (aget X 100 ((mk E c s (hh g))) v5 x3).bind fun v6 =>
        if cmpI .le v4 v6 = true then
        ((fget 1558 ((mk E c s (hh g))) 40).bind fun v7 =>
          (aput 100 ((mk E c s (hh g))) v7 x1 (x3)).bind fun M8 =>
          (fget 1562 M8 40).bind fun v9 =>
          (aget X 100 M8 v9 x3).bind fun v10 =>
          (fget 1554 M8 40).bind fun v11 =>
          (aget X 100 M8 v11 x1).bind fun v12 =>
          (aput 100 M8 v9 x3 ((w32 (v10 - v12)))).bind fun M13 =>
          if (2 : Nat) = 2 ∧ rcv M13 40 4 = true then
          ((Call prog clsT X d 29 [(2, 40), (0, (w32 (x1 + 1))), (0, (w32 (x2 - 1)))] M13).bind fun r14 => if r14.1.1 = 4 then none else
          Ev prog clsT X d mc29 70 [(2, 40), (0, x1), (0, x2), (0, x3), (0, 1)] (pushR r14.1 []) r14.2) else none)
      else
        (Ev prog clsT X d mc29 20 [(2, 40), (0, x1), (0, x2), (0, (w32 (x3 + 1))), (0, 1)] [] (mk E c s (hh g)))))
  else
    (if cmpI .gt 0 x2 = true then
      (Ev prog clsT X d mc29 20 [(2, 40), (0, x1), (0, x2), (0, (w32 (x3 + 1))), (0, 0)] [] (mk E c s (hh g)))
    else
      ((fget 1554 ((mk E c s (hh g))) 40).bind fun v15 =>
        (aget X 100 ((mk E c s (hh g))) v15 x1).bind fun v16 =>
        (fget 1562 ((mk E c s (hh g))) 40).bind fun v17 =>
        (aget X 100 ((mk E c s (hh g))) v17 x3).bind fun v18 =>
        if cmpI .le v16 v18 = true then
        ((fget 1558 ((mk E c s (hh g))) 40).bind fun v19 =>
          (aput 100 ((mk E c s (hh g))) v19 x1 (x3)).bind fun M20 =>
          (fget 1562 M20 40).bind fun v21 =>
          (aget X 100 M20 v21 x3).bind fun v22 =>
          (fget 1554 M20 40).bind fun v23 =>
          (aget X 100 M20 v23 x1).bind fun v24 =>
          (aput 100 M20 v21 x3 ((w32 (v22 - v24)))).bind fun M25 =>
          if (2 : Nat) = 2 ∧ rcv M25 40 4 = true then
          ((Call prog clsT X d 29 [(2, 40), (0, (w32 (x1 + 1))), (0, (w32 (x2 - 0)))] M25).bind fun r26 => if r26.1.1 = 4 then none else
          Ev prog clsT X d mc29 70 [(2, 40), (0, x1), (0, x2), (0, x3), (0, 0)] (pushR r26.1 []) r26.2) else none)
      else
        (Ev prog clsT X d mc29 20 [(2, 40), (0, x1), (0, x2), (0, (w32 (x3 + 1))), (0, 0)] [] (mk E c s (hh g)))))))) X [0, 17, 20, 70] 49 rfl).trans (by simp (maxSteps := 10000000) only [R40_4, uc_46_45, uc_46_47, ↓A42, ↓A45, ↓A47, ↓F1542_40, ↓F1554_40, ↓F1558_40, ↓F1562_40, ↓S46, ↓S47, bindI, Option.bind_some, if_true_, and_self, ite_true, true_and, true_or, or_true])
set_option maxRecDepth 100000 in
theorem r29_70 (d : Nat) (x1 x2 x3 x4 s0 : Int) : Ev prog clsT X d mc29 70 [(2, 40), (0, x1), (0, x2), (0, x3), (0, x4)] [(0, s0)] (mk E c s (hh g)) =
  (if cmpI .eq s0 0 = true then
  (if inb x3 3 = true then
    (if inb x1 10 = true then
    (if inb x3 3 = true then
    (Ev prog clsT X d mc29 20 [(2, 40), (0, x1), (0, x2), (0, (w32 (x3 + 1))), (0, x4)] [] (mk E c s (hh (up g 47 (Int.toNat x3) ((w32 (((g 47 (Int.toNat x3))) + ((g 45 (Int.toNat x1))))))))))
  else none)
  else none)
  else none)
else
  (some ((0, 1), ((mk E c s (hh g)))))) :=
  (evk_at (r := (if cmpI .eq s0 0 = true then
  ((fget 1562 ((mk E c s (hh g))) 40).bind fun v1 =>
    (aget X 100 ((mk E c s (hh g))) v1 x3).bind fun v2 =>
    (fget 1554 ((mk E c s (hh g))) 40).bind fun v3 =>
    (aget X 100 ((mk E c s (hh g))) v3 x1).bind fun v4 =>
    (aput 100 ((mk E c s (hh g))) v1 x3 ((w32 (v2 + v4)))).bind fun M5 =>
    Ev prog clsT X d mc29 20 [(2, 40), (0, x1), (0, x2), (0, (w32 (x3 + 1))), (0, x4)] [] M5)
else
  (some ((0, 1), (mk E c s (hh g)))))) X [0, 17, 20, 70] 16 rfl).trans (by simp (maxSteps := 10000000) only [↓A45, ↓A47, ↓F1554_40, ↓F1562_40, ↓S47, bindI, Option.bind_some, if_true_, and_self, ite_true, true_and, true_or, or_true])
set_option maxRecDepth 100000 in
theorem r30_0 (d : Nat) (x1 : Int) : Ev prog clsT X d mc30 0 [(2, 40), (0, x1), (3, 0), (3, 0)] [] (mk E c s (hh g)) =
  (Ev prog clsT X d mc30 4 [(2, 40), (0, x1), (0, 0), (0, 0)] [] (mk E c s (hh g))) :=
  evk_at X [0, 4] 6 rfl
set_option maxRecDepth 100000 in
theorem rc30_ (d : Nat) (x1 : Int) : Call prog clsT X (d + 1) 30 [(2, 40), (0, x1)] (mk E c s (hh g)) =
  (Ev prog clsT X d mc30 4 [(2, 40), (0, x1), (0, 0), (0, 0)] [] (mk E c s (hh g))) :=
  (show Call prog clsT X (d + 1) 30 [(2, 40), (0, x1)] (mk E c s (hh g)) = Ev prog clsT X d mc30 0 [(2, 40), (0, x1), (3, 0), (3, 0)] [] (mk E c s (hh g)) from rfl).trans (r30_0 X E c s g d x1 )
set_option maxRecDepth 100000 in
theorem r30_4 (d : Nat) (x1 x2 x3 : Int) : Ev prog clsT X d mc30 4 [(2, 40), (0, x1), (0, x2), (0, x3)] [] (mk E c s (hh g)) =
  (if cmpI .ge x3 5 = true then
  (some ((0, x2), ((mk E c s (hh g)))))
else
  (if inb ((w32 (((w32 (x1 * 5))) + x3))) 50 = true then
    (if cmpI .eq ((g 44 (Int.toNat ((w32 (((w32 (x1 * 5))) + x3)))))) ((-1)) = true then
    (Ev prog clsT X d mc30 4 [(2, 40), (0, x1), (0, (w32 (x2 + 0))), (0, (w32 (x3 + 1)))] [] (mk E c s (hh g)))
  else
    (Ev prog clsT X d mc30 4 [(2, 40), (0, x1), (0, (w32 (x2 + 1))), (0, (w32 (x3 + 1)))] [] (mk E c s (hh g))))
  else none)) :=
  (evk_at (r := (if cmpI .ge x3 5 = true then
  (some ((0, x2), (mk E c s (hh g))))
else
  ((fget 1550 ((mk E c s (hh g))) 40).bind fun v1 =>
    (aget X 100 ((mk E c s (hh g))) v1 ((w32 (((w32 (x1 * 5))) + x3)))).bind fun v2 =>
    if cmpI .eq v2 ((-1)) = true then
    (Ev prog clsT X d mc30 4 [(2, 40), (0, x1), (0, (w32 (x2 + 0))), (0, (w32 (x3 + 1)))] [] (mk E c s (hh g)))
  else
    (Ev prog clsT X d mc30 4 [(2, 40), (0, x1), (0, (w32 (x2 + 1))), (0, (w32 (x3 + 1)))] [] (mk E c s (hh g)))))) X [0, 4] 22 rfl).trans (by simp (maxSteps := 10000000) only [↓A44, ↓F1550_40, bindI, Option.bind_some, if_true_, and_self, ite_true, true_and, true_or, or_true])
end
