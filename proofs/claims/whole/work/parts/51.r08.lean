/-! Part 51.r08: printed by wip/whole/emit6.py: equations with the fixed cells put in. -/
section
variable (X : MExt) (E : List (Nat × Nat)) (c s : Nat) (g : Nat → Nat → Int)
set_option maxRecDepth 100000 in
theorem r215_0 (d : Nat) (x1 x2 : Int) : Ev prog clsT X d mc215 0 [(2, 89), (0, x1), (0, x2)] [] (mk E c s (hh g)) =
  ((Call prog clsT X d 152 [(0, x1), (0, 0), (0, 2)] ((mk E c s (hh (up g 89 0 0))))).bind fun r1 => if r1.1.1 = 4 then none else
  Ev prog clsT X d mc215 7 [(2, 89), (0, x1), (0, x2)] (pushR r1.1 []) r1.2) :=
  (evk_at (r := ((fput 6144 ((mk E c s (hh g))) 89 0).bind fun M1 =>
  (Call prog clsT X d 152 [(0, x1), (0, 0), (0, 2)] M1).bind fun r2 => if r2.1.1 = 4 then none else
  Ev prog clsT X d mc215 7 [(2, 89), (0, x1), (0, x2)] (pushR r2.1 []) r2.2)) X [0, 7, 12] 8 rfl).trans (by simp (maxSteps := 10000000) only [↓W6144_89, bindI, Option.bind_some, if_true_, and_self, ite_true, true_and, true_or, or_true])
set_option maxRecDepth 100000 in
theorem rc215_ (d : Nat) (x1 x2 : Int) : Call prog clsT X (d + 1) 215 [(2, 89), (0, x1), (0, x2)] (mk E c s (hh g)) =
  ((Call prog clsT X d 152 [(0, x1), (0, 0), (0, 2)] ((mk E c s (hh (up g 89 0 0))))).bind fun r1 => if r1.1.1 = 4 then none else
  Ev prog clsT X d mc215 7 [(2, 89), (0, x1), (0, x2)] (pushR r1.1 []) r1.2) :=
  (show Call prog clsT X (d + 1) 215 [(2, 89), (0, x1), (0, x2)] (mk E c s (hh g)) = Ev prog clsT X d mc215 0 [(2, 89), (0, x1), (0, x2)] [] (mk E c s (hh g)) from rfl).trans (r215_0 X E c s g d x1 x2 )
set_option maxRecDepth 100000 in
theorem r215_7 (d : Nat) (x1 x2 s0 : Int) : Ev prog clsT X d mc215 7 [(2, 89), (0, x1), (0, x2)] [(0, s0)] (mk E c s (hh g)) =
  (if cmpI .eq s0 0 = true then
  (some ((0, 0), ((mk E c s (hh g)))))
else
  ((Call prog clsT X d 152 [(0, x2), (0, 0), (0, 99)] ((mk E c s (hh g)))).bind fun r1 => if r1.1.1 = 4 then none else
    Ev prog clsT X d mc215 12 [(2, 89), (0, x1), (0, x2)] (pushR r1.1 []) r1.2)) :=
  (evk_at (r := (if cmpI .eq s0 0 = true then
  (some ((0, 0), (mk E c s (hh g))))
else
  ((Call prog clsT X d 152 [(0, x2), (0, 0), (0, 99)] ((mk E c s (hh g)))).bind fun r1 => if r1.1.1 = 4 then none else
    Ev prog clsT X d mc215 12 [(2, 89), (0, x1), (0, x2)] (pushR r1.1 []) r1.2))) X [0, 7, 12] 6 rfl).trans (by simp (maxSteps := 10000000) only [bindI, Option.bind_some, if_true_, and_self, ite_true, true_and, true_or, or_true])
set_option maxRecDepth 100000 in
theorem r215_12 (d : Nat) (x1 x2 s0 : Int) : Ev prog clsT X d mc215 12 [(2, 89), (0, x1), (0, x2)] [(0, s0)] (mk E c s (hh g)) =
  (if cmpI .ne s0 0 = true then
  (if inb x1 3 = true then
    (some ((0, 1), ((mk E c s (hh (up g 131 (Int.toNat x1) x2))))))
  else none)
else
  (some ((0, 0), ((mk E c s (hh g)))))) :=
  (evk_at (r := (if cmpI .ne s0 0 = true then
  ((fget 6358 ((mk E c s (hh g))) 89).bind fun v1 =>
    (aput 100 ((mk E c s (hh g))) v1 x1 (x2)).bind fun M2 =>
    some ((0, 1), M2))
else
  (some ((0, 0), (mk E c s (hh g)))))) X [0, 7, 12] 9 rfl).trans (by simp (maxSteps := 10000000) only [↓F6358_89, ↓S131, bindI, Option.bind_some, if_true_, and_self, ite_true, true_and, true_or, or_true])
set_option maxRecDepth 100000 in
theorem r216_0 (d : Nat) (x1 x2 x3 : Int) : Ev prog clsT X d mc216 0 [(2, 89), (0, x1), (0, x2), (0, x3)] [] (mk E c s (hh g)) =
  ((Call prog clsT X d 157 [(2, 89), (0, x1)] ((mk E c s (hh (up g 89 0 0))))).bind fun r1 => if r1.1.1 = 4 then none else
  Ev prog clsT X d mc216 6 [(2, 89), (0, x1), (0, x2), (0, x3)] (pushR r1.1 []) r1.2) :=
  (evk_at (r := ((fput 6144 ((mk E c s (hh g))) 89 0).bind fun M1 =>
  if (2 : Nat) = 2 ∧ rcv M1 89 13 = true then
  ((Call prog clsT X d 157 [(2, 89), (0, x1)] M1).bind fun r2 => if r2.1.1 = 4 then none else
  Ev prog clsT X d mc216 6 [(2, 89), (0, x1), (0, x2), (0, x3)] (pushR r2.1 []) r2.2) else none)) X [0, 6, 11, 16] 7 rfl).trans (by simp (maxSteps := 10000000) only [R89_13, ↓W6144_89, bindI, Option.bind_some, if_true_, and_self, ite_true, true_and, true_or, or_true])
set_option maxRecDepth 100000 in
theorem rc216_ (d : Nat) (x1 x2 x3 : Int) : Call prog clsT X (d + 1) 216 [(2, 89), (0, x1), (0, x2), (0, x3)] (mk E c s (hh g)) =
  ((Call prog clsT X d 157 [(2, 89), (0, x1)] ((mk E c s (hh (up g 89 0 0))))).bind fun r1 => if r1.1.1 = 4 then none else
  Ev prog clsT X d mc216 6 [(2, 89), (0, x1), (0, x2), (0, x3)] (pushR r1.1 []) r1.2) :=
  (show Call prog clsT X (d + 1) 216 [(2, 89), (0, x1), (0, x2), (0, x3)] (mk E c s (hh g)) = Ev prog clsT X d mc216 0 [(2, 89), (0, x1), (0, x2), (0, x3)] [] (mk E c s (hh g)) from rfl).trans (r216_0 X E c s g d x1 x2 x3 )
set_option maxRecDepth 100000 in
theorem r216_6 (d : Nat) (x1 x2 x3 s0 : Int) : Ev prog clsT X d mc216 6 [(2, 89), (0, x1), (0, x2), (0, x3)] [(0, s0)] (mk E c s (hh g)) =
  (if cmpI .eq s0 0 = true then
  (some ((0, 0), ((mk E c s (hh g)))))
else
  ((Call prog clsT X d 152 [(0, x2), (0, 0), (0, 2)] ((mk E c s (hh g)))).bind fun r1 => if r1.1.1 = 4 then none else
    Ev prog clsT X d mc216 11 [(2, 89), (0, x1), (0, x2), (0, x3)] (pushR r1.1 []) r1.2)) :=
  (evk_at (r := (if cmpI .eq s0 0 = true then
  (some ((0, 0), (mk E c s (hh g))))
else
  ((Call prog clsT X d 152 [(0, x2), (0, 0), (0, 2)] ((mk E c s (hh g)))).bind fun r1 => if r1.1.1 = 4 then none else
    Ev prog clsT X d mc216 11 [(2, 89), (0, x1), (0, x2), (0, x3)] (pushR r1.1 []) r1.2))) X [0, 6, 11, 16] 6 rfl).trans (by simp (maxSteps := 10000000) only [bindI, Option.bind_some, if_true_, and_self, ite_true, true_and, true_or, or_true])
set_option maxRecDepth 100000 in
theorem r216_11 (d : Nat) (x1 x2 x3 s0 : Int) : Ev prog clsT X d mc216 11 [(2, 89), (0, x1), (0, x2), (0, x3)] [(0, s0)] (mk E c s (hh g)) =
  (if cmpI .eq s0 0 = true then
  (some ((0, 0), ((mk E c s (hh g)))))
else
  ((Call prog clsT X d 152 [(0, x3), (0, 0), (0, 9)] ((mk E c s (hh g)))).bind fun r1 => if r1.1.1 = 4 then none else
    Ev prog clsT X d mc216 16 [(2, 89), (0, x1), (0, x2), (0, x3)] (pushR r1.1 []) r1.2)) :=
  (evk_at (r := (if cmpI .eq s0 0 = true then
  (some ((0, 0), (mk E c s (hh g))))
else
  ((Call prog clsT X d 152 [(0, x3), (0, 0), (0, 9)] ((mk E c s (hh g)))).bind fun r1 => if r1.1.1 = 4 then none else
    Ev prog clsT X d mc216 16 [(2, 89), (0, x1), (0, x2), (0, x3)] (pushR r1.1 []) r1.2))) X [0, 6, 11, 16] 6 rfl).trans (by simp (maxSteps := 10000000) only [bindI, Option.bind_some, if_true_, and_self, ite_true, true_and, true_or, or_true])
set_option maxRecDepth 100000 in
theorem r216_16 (d : Nat) (x1 x2 x3 s0 : Int) : Ev prog clsT X d mc216 16 [(2, 89), (0, x1), (0, x2), (0, x3)] [(0, s0)] (mk E c s (hh g)) =
  (if cmpI .ne s0 0 = true then
  (if inb x1 10 = true then
    (if inb x1 10 = true then
    (some ((0, 1), ((mk E c s (hh (up (up g 132 (Int.toNat x1) x2) 133 (Int.toNat x1) x3))))))
  else none)
  else none)
else
  (some ((0, 0), ((mk E c s (hh g)))))) :=
  (evk_at (r := (if cmpI .ne s0 0 = true then
  ((fget 6362 ((mk E c s (hh g))) 89).bind fun v1 =>
    (aput 100 ((mk E c s (hh g))) v1 x1 (x2)).bind fun M2 =>
    (fget 6366 M2 89).bind fun v3 =>
    (aput 100 M2 v3 x1 (x3)).bind fun M4 =>
    some ((0, 1), M4))
else
  (some ((0, 0), (mk E c s (hh g)))))) X [0, 6, 11, 16] 14 rfl).trans (by simp (maxSteps := 10000000) only [↓F6362_89, ↓F6366_89, ↓S132, ↓S133, bindI, Option.bind_some, if_true_, and_self, ite_true, true_and, true_or, or_true])
set_option maxRecDepth 100000 in
theorem r217_0 (d : Nat) (x1 x2 : Int) : Ev prog clsT X d mc217 0 [(2, 89), (0, x1), (0, x2), (3, 0), (3, 0)] [] (mk E c s (hh g)) =
  ((Call prog clsT X d 152 [(0, x1), (0, 0), (0, 2)] ((mk E c s (hh (up g 89 0 0))))).bind fun r1 => if r1.1.1 = 4 then none else
  Ev prog clsT X d mc217 7 [(2, 89), (0, x1), (0, x2), (3, 0), (3, 0)] (pushR r1.1 []) r1.2) :=
  (evk_at (r := ((fput 6144 ((mk E c s (hh g))) 89 0).bind fun M1 =>
  (Call prog clsT X d 152 [(0, x1), (0, 0), (0, 2)] M1).bind fun r2 => if r2.1.1 = 4 then none else
  Ev prog clsT X d mc217 7 [(2, 89), (0, x1), (0, x2), (3, 0), (3, 0)] (pushR r2.1 []) r2.2)) X [0, 7, 14, 28] 8 rfl).trans (by simp (maxSteps := 10000000) only [↓W6144_89, bindI, Option.bind_some, if_true_, and_self, ite_true, true_and, true_or, or_true])
set_option maxRecDepth 100000 in
theorem rc217_ (d : Nat) (x1 x2 : Int) : Call prog clsT X (d + 1) 217 [(2, 89), (0, x1), (0, x2)] (mk E c s (hh g)) =
  ((Call prog clsT X d 152 [(0, x1), (0, 0), (0, 2)] ((mk E c s (hh (up g 89 0 0))))).bind fun r1 => if r1.1.1 = 4 then none else
  Ev prog clsT X d mc217 7 [(2, 89), (0, x1), (0, x2), (3, 0), (3, 0)] (pushR r1.1 []) r1.2) :=
  (show Call prog clsT X (d + 1) 217 [(2, 89), (0, x1), (0, x2)] (mk E c s (hh g)) = Ev prog clsT X d mc217 0 [(2, 89), (0, x1), (0, x2), (3, 0), (3, 0)] [] (mk E c s (hh g)) from rfl).trans (r217_0 X E c s g d x1 x2 )
set_option maxRecDepth 100000 in
theorem r217_7 (d : Nat) (x1 x2 s0 : Int) : Ev prog clsT X d mc217 7 [(2, 89), (0, x1), (0, x2), (3, 0), (3, 0)] [(0, s0)] (mk E c s (hh g)) =
  (if cmpI .ne s0 0 = true then
  (Ev prog clsT X d mc217 14 [(2, 89), (0, x1), (0, x2), (0, 0), (0, 0)] [] (mk E c s (hh g)))
else
  (some ((0, (-1)), ((mk E c s (hh g)))))) :=
  (evk_at (r := (if cmpI .ne s0 0 = true then
  (Ev prog clsT X d mc217 14 [(2, 89), (0, x1), (0, x2), (0, 0), (0, 0)] [] (mk E c s (hh g)))
else
  (some ((0, (-1)), (mk E c s (hh g)))))) X [0, 7, 14, 28] 7 rfl).trans (by simp (maxSteps := 10000000) only [bindI, Option.bind_some, if_true_, and_self, ite_true, true_and, true_or, or_true])
set_option maxRecDepth 100000 in
theorem r217_14 (d : Nat) (x1 x2 x3 x4 : Int) : Ev prog clsT X d mc217 14 [(2, 89), (0, x1), (0, x2), (0, x3), (0, x4)] [] (mk E c s (hh g)) =
  (if cmpI .ge x4 10 = true then
  (some ((0, x3), ((mk E c s (hh g)))))
else
  (if inb x4 10 = true then
    (if cmpI .ne ((g 132 (Int.toNat x4))) x1 = true then
    (Ev prog clsT X d mc217 14 [(2, 89), (0, x1), (0, x2), (0, (w32 (x3 + 0))), (0, (w32 (x4 + 1)))] [] (mk E c s (hh g)))
  else
    ((Call prog clsT X d 218 [(2, 89), (0, x4), (0, x2)] ((mk E c s (hh g)))).bind fun r1 => if r1.1.1 = 4 then none else
      Ev prog clsT X d mc217 28 [(2, 89), (0, x1), (0, x2), (0, x3), (0, x4)] (pushR r1.1 [(0, x3)]) r1.2))
  else none)) :=
  (evk_at (r := (if cmpI .ge x4 10 = true then
  (some ((0, x3), (mk E c s (hh g))))
else
  ((fget 6362 ((mk E c s (hh g))) 89).bind fun v1 =>
    (aget X 100 ((mk E c s (hh g))) v1 x4).bind fun v2 =>
    if cmpI .ne v2 x1 = true then
    (Ev prog clsT X d mc217 14 [(2, 89), (0, x1), (0, x2), (0, (w32 (x3 + 0))), (0, (w32 (x4 + 1)))] [] (mk E c s (hh g)))
  else
    (if (2 : Nat) = 2 ∧ rcv ((mk E c s (hh g))) 89 13 = true then
      ((Call prog clsT X d 218 [(2, 89), (0, x4), (0, x2)] ((mk E c s (hh g)))).bind fun r3 => if r3.1.1 = 4 then none else
      Ev prog clsT X d mc217 28 [(2, 89), (0, x1), (0, x2), (0, x3), (0, x4)] (pushR r3.1 [(0, x3)]) r3.2) else none)))) X [0, 7, 14, 28] 17 rfl).trans (by simp (maxSteps := 10000000) only [R89_13, ↓A132, ↓F6362_89, bindI, Option.bind_some, if_true_, and_self, ite_true, true_and, true_or, or_true])
set_option maxRecDepth 100000 in
theorem r217_28 (d : Nat) (x1 x2 x3 x4 s0 s1 : Int) : Ev prog clsT X d mc217 28 [(2, 89), (0, x1), (0, x2), (0, x3), (0, x4)] [(0, s1), (0, s0)] (mk E c s (hh g)) =
  (Ev prog clsT X d mc217 14 [(2, 89), (0, x1), (0, x2), (0, (w32 (s0 + s1))), (0, (w32 (x4 + 1)))] [] (mk E c s (hh g))) :=
  evk_at X [0, 7, 14, 28] 7 rfl
set_option maxRecDepth 100000 in
theorem r218_0 (d : Nat) (x1 x2 : Int) : Ev prog clsT X d mc218 0 [(2, 89), (0, x1), (0, x2), (3, 0), (3, 0)] [] (mk E c s (hh g)) =
  (if cmpI .eq x2 0 = true then
  ((Call prog clsT X d 190 [(2, 89), (0, x1), (0, (-1))] ((mk E c s (hh g)))).bind fun r1 => if r1.1.1 = 4 then none else
    Ev prog clsT X d mc218 8 [(2, 89), (0, x1), (0, x2), (3, 0), (3, 0)] (pushR r1.1 []) r1.2)
else
  (Ev prog clsT X d mc218 8 [(2, 89), (0, x1), (0, x2), (3, 0), (3, 0)] [(0, 0)] (mk E c s (hh g)))) :=
  (evk_at (r := (if cmpI .eq x2 0 = true then
  (if (2 : Nat) = 2 ∧ rcv ((mk E c s (hh g))) 89 13 = true then
    ((Call prog clsT X d 190 [(2, 89), (0, x1), (0, (-1))] ((mk E c s (hh g)))).bind fun r1 => if r1.1.1 = 4 then none else
    Ev prog clsT X d mc218 8 [(2, 89), (0, x1), (0, x2), (3, 0), (3, 0)] (pushR r1.1 []) r1.2) else none)
else
  (Ev prog clsT X d mc218 8 [(2, 89), (0, x1), (0, x2), (3, 0), (3, 0)] [(0, 0)] (mk E c s (hh g))))) X [0, 8, 13] 7 rfl).trans (by simp (maxSteps := 10000000) only [R89_13, bindI, Option.bind_some, if_true_, and_self, ite_true, true_and, true_or, or_true])
set_option maxRecDepth 100000 in
theorem rc218_ (d : Nat) (x1 x2 : Int) : Call prog clsT X (d + 1) 218 [(2, 89), (0, x1), (0, x2)] (mk E c s (hh g)) =
  (if cmpI .eq x2 0 = true then
  ((Call prog clsT X d 190 [(2, 89), (0, x1), (0, (-1))] ((mk E c s (hh g)))).bind fun r1 => if r1.1.1 = 4 then none else
    Ev prog clsT X d mc218 8 [(2, 89), (0, x1), (0, x2), (3, 0), (3, 0)] (pushR r1.1 []) r1.2)
else
  (Ev prog clsT X d mc218 8 [(2, 89), (0, x1), (0, x2), (3, 0), (3, 0)] [(0, 0)] (mk E c s (hh g)))) :=
  (show Call prog clsT X (d + 1) 218 [(2, 89), (0, x1), (0, x2)] (mk E c s (hh g)) = Ev prog clsT X d mc218 0 [(2, 89), (0, x1), (0, x2), (3, 0), (3, 0)] [] (mk E c s (hh g)) from rfl).trans (r218_0 X E c s g d x1 x2 )
set_option maxRecDepth 100000 in
theorem r218_8 (d : Nat) (x1 x2 s0 : Int) : Ev prog clsT X d mc218 8 [(2, 89), (0, x1), (0, x2), (3, 0), (3, 0)] [(0, s0)] (mk E c s (hh g)) =
  (Ev prog clsT X d mc218 13 [(2, 89), (0, x1), (0, x2), (0, s0), (0, (w32 (5 * x1)))] [] (mk E c s (hh g))) :=
  evk_at X [0, 8, 13] 7 rfl
set_option maxRecDepth 100000 in
theorem r218_13 (d : Nat) (x1 x2 x3 x4 : Int) : Ev prog clsT X d mc218 13 [(2, 89), (0, x1), (0, x2), (0, x3), (0, x4)] [] (mk E c s (hh g)) =
  (if cmpI .ge x4 ((w32 (((w32 (5 * x1))) + 5))) = true then
  (if inb x1 10 = true then
    (if cmpI .eq ((g 106 (Int.toNat x1))) 0 = true then
    (some ((0, 0), ((mk E c s (hh g)))))
  else
    (if inb x1 10 = true then
      (some ((0, (w32 (x3 * ((g 133 (Int.toNat x1)))))), ((mk E c s (hh g)))))
    else none))
  else none)
else
  (if cmpI .eq x2 0 = true then
    (if inb x1 10 = true then
      (if cmpI .eq ((g 106 (Int.toNat x1))) 0 = true then
      (some ((0, 0), ((mk E c s (hh g)))))
    else
      (if inb x1 10 = true then
        (some ((0, (w32 (x3 * ((g 133 (Int.toNat x1)))))), ((mk E c s (hh g)))))
      else none))
    else none)
  else
    (if inb x4 50 = true then
      (Ev prog clsT X d mc218 13 [(2, 89), (0, x1), (0, x2), (0, (if x3 < (g 152 (Int.toNat x4)) then (g 152 (Int.toNat x4)) else x3)), (0, (w32 (x4 + 1)))] [] (mk E c s (hh g)))
    else none))) :=
  (evk_at (r := (if cmpI .ge x4 ((w32 (((w32 (5 * x1))) + 5))) = true then
  ((fget 6250 ((mk E c s (hh g))) 89).bind fun v1 =>
    (aget X 102 ((mk E c s (hh g))) v1 x1).bind fun v2 =>
    if cmpI .eq v2 0 = true then
    (some ((0, 0), (mk E c s (hh g))))
  else
    ((fget 6366 ((mk E c s (hh g))) 89).bind fun v3 =>
      (aget X 100 ((mk E c s (hh g))) v3 x1).bind fun v4 =>
      some ((0, (w32 (x3 * v4))), (mk E c s (hh g)))))
else
  (if cmpI .eq x2 0 = true then
    ((fget 6250 ((mk E c s (hh g))) 89).bind fun v5 =>
      (aget X 102 ((mk E c s (hh g))) v5 x1).bind fun v6 =>
      if cmpI .eq v6 0 = true then
      (some ((0, 0), (mk E c s (hh g))))
    else
      ((fget 6366 ((mk E c s (hh g))) 89).bind fun v7 =>
        (aget X 100 ((mk E c s (hh g))) v7 x1).bind fun v8 =>
        some ((0, (w32 (x3 * v8))), (mk E c s (hh g)))))
  else
    ((fget 6466 ((mk E c s (hh g))) 89).bind fun v9 =>
      (aget X 100 ((mk E c s (hh g))) v9 x4).bind fun v10 =>
      Ev prog clsT X d mc218 13 [(2, 89), (0, x1), (0, x2), (0, (if x3 < v10 then v10 else x3)), (0, (w32 (x4 + 1)))] [] (mk E c s (hh g)))))) X [0, 8, 13] 23 rfl).trans (by simp (maxSteps := 10000000) only [↓A106, ↓A133, ↓A152, ↓F6250_89, ↓F6366_89, ↓F6466_89, bindI, Option.bind_some, if_true_, and_self, ite_true, true_and, true_or, or_true])
set_option maxRecDepth 100000 in
theorem r219_0 (d : Nat) (x1 x2 : Int) : Ev prog clsT X d mc219 0 [(2, 89), (0, x1), (0, x2), (3, 0)] [] (mk E c s (hh g)) =
  ((Call prog clsT X d 152 [(0, x2), (0, 0), (0, 10)] ((mk E c s (hh (up g 89 0 0))))).bind fun r1 => if r1.1.1 = 4 then none else
  Ev prog clsT X d mc219 7 [(2, 89), (0, x1), (0, x2), (3, 0)] (pushR r1.1 []) r1.2) :=
  (evk_at (r := ((fput 6144 ((mk E c s (hh g))) 89 0).bind fun M1 =>
  (Call prog clsT X d 152 [(0, x2), (0, 0), (0, 10)] M1).bind fun r2 => if r2.1.1 = 4 then none else
  Ev prog clsT X d mc219 7 [(2, 89), (0, x1), (0, x2), (3, 0)] (pushR r2.1 []) r2.2)) X [0, 7, 12, 22, 27, 44] 8 rfl).trans (by simp (maxSteps := 10000000) only [↓W6144_89, bindI, Option.bind_some, if_true_, and_self, ite_true, true_and, true_or, or_true])
set_option maxRecDepth 100000 in
theorem rc219_ (d : Nat) (x1 x2 : Int) : Call prog clsT X (d + 1) 219 [(2, 89), (0, x1), (0, x2)] (mk E c s (hh g)) =
  ((Call prog clsT X d 152 [(0, x2), (0, 0), (0, 10)] ((mk E c s (hh (up g 89 0 0))))).bind fun r1 => if r1.1.1 = 4 then none else
  Ev prog clsT X d mc219 7 [(2, 89), (0, x1), (0, x2), (3, 0)] (pushR r1.1 []) r1.2) :=
  (show Call prog clsT X (d + 1) 219 [(2, 89), (0, x1), (0, x2)] (mk E c s (hh g)) = Ev prog clsT X d mc219 0 [(2, 89), (0, x1), (0, x2), (3, 0)] [] (mk E c s (hh g)) from rfl).trans (r219_0 X E c s g d x1 x2 )
set_option maxRecDepth 100000 in
theorem r219_7 (d : Nat) (x1 x2 s0 : Int) : Ev prog clsT X d mc219 7 [(2, 89), (0, x1), (0, x2), (3, 0)] [(0, s0)] (mk E c s (hh g)) =
  (if cmpI .ne s0 0 = true then
  (Ev prog clsT X d mc219 12 [(2, 89), (0, x1), (0, x2), (0, 0)] [] (mk E c s (hh g)))
else
  (some ((0, (-1)), ((mk E c s (hh g)))))) :=
  (evk_at (r := (if cmpI .ne s0 0 = true then
  (Ev prog clsT X d mc219 12 [(2, 89), (0, x1), (0, x2), (0, 0)] [] (mk E c s (hh g)))
else
  (some ((0, (-1)), (mk E c s (hh g)))))) X [0, 7, 12, 22, 27, 44] 5 rfl).trans (by simp (maxSteps := 10000000) only [bindI, Option.bind_some, if_true_, and_self, ite_true, true_and, true_or, or_true])
set_option maxRecDepth 100000 in
theorem r219_12 (d : Nat) (x1 x2 x3 : Int) : Ev prog clsT X d mc219 12 [(2, 89), (0, x1), (0, x2), (0, x3)] [] (mk E c s (hh g)) =
  (if cmpI .ge x3 10 = true then
  (Ev prog clsT X d mc219 27 [(2, 89), (0, x1), (0, x2), (0, 0)] [] (mk E c s (hh g)))
else
  ((Call prog clsT X d 218 [(2, 89), (0, x3), (0, x1)] ((mk E c s (hh g)))).bind fun r1 => if r1.1.1 = 4 then none else
    Ev prog clsT X d mc219 22 [(2, 89), (0, x1), (0, x2), (0, x3)] (pushR r1.1 [(0, x3), (2, 134)]) r1.2)) :=
  (evk_at (r := (if cmpI .ge x3 10 = true then
  (Ev prog clsT X d mc219 27 [(2, 89), (0, x1), (0, x2), (0, 0)] [] (mk E c s (hh g)))
else
  ((fget 6370 ((mk E c s (hh g))) 89).bind fun v1 =>
    if (2 : Nat) = 2 ∧ rcv ((mk E c s (hh g))) 89 13 = true then
    ((Call prog clsT X d 218 [(2, 89), (0, x3), (0, x1)] ((mk E c s (hh g)))).bind fun r2 => if r2.1.1 = 4 then none else
    Ev prog clsT X d mc219 22 [(2, 89), (0, x1), (0, x2), (0, x3)] (pushR r2.1 [(0, x3), (2, v1)]) r2.2) else none))) X [0, 7, 12, 22, 27, 44] 11 rfl).trans (by simp (maxSteps := 10000000) only [R89_13, ↓F6370_89, bindI, Option.bind_some, if_true_, and_self, ite_true, true_and, true_or, or_true])
set_option maxRecDepth 100000 in
theorem r219_22 (d : Nat) (x1 x2 x3 s1 s2 : Int) : Ev prog clsT X d mc219 22 [(2, 89), (0, x1), (0, x2), (0, x3)] [(0, s2), (0, s1), (2, 134)] (mk E c s (hh g)) =
  (if inb s1 10 = true then
  (Ev prog clsT X d mc219 12 [(2, 89), (0, x1), (0, x2), (0, (w32 (x3 + 1)))] [] (mk E c s (hh (up g 134 (Int.toNat s1) s2))))
else none) :=
  (evk_at (r := ((aput 100 ((mk E c s (hh g))) 134 s1 (s2)).bind fun M1 =>
  Ev prog clsT X d mc219 12 [(2, 89), (0, x1), (0, x2), (0, (w32 (x3 + 1)))] [] M1)) X [0, 7, 12, 22, 27, 44] 5 rfl).trans (by simp (maxSteps := 10000000) only [↓S134, bindI, Option.bind_some, if_true_, and_self, ite_true, true_and, true_or, or_true])
set_option maxRecDepth 100000 in
theorem r219_27 (d : Nat) (x2 x3 : Int) (w1 : MV) : Ev prog clsT X d mc219 27 [(2, 89), w1, (0, x2), (0, x3)] [] (mk E c s (hh g)) =
  (if cmpI .ge x3 3 = true then
  ((Call prog clsT X d 220 [(2, 89), (0, 0), (0, 0)] ((mk E c s (hh (up g 89 60 ((-1))))))).bind fun r1 => if r1.1.1 = 4 then none else
    Ev prog clsT X d mc219 44 [(2, 89), (3, 0), (0, x2), (0, x3)] (pushR r1.1 []) r1.2)
else
  (if inb x3 3 = true then
    (Ev prog clsT X d mc219 27 [(2, 89), (3, 0), (0, x2), (0, (w32 (x3 + 1)))] [] (mk E c s (hh (up g 135 (Int.toNat x3) 0))))
  else none)) :=
  (evk_at (r := (if cmpI .ge x3 3 = true then
  ((fput 6384 ((mk E c s (hh g))) 89 ((-1))).bind fun M1 =>
    if (2 : Nat) = 2 ∧ rcv M1 89 13 = true then
    ((Call prog clsT X d 220 [(2, 89), (0, 0), (0, 0)] M1).bind fun r2 => if r2.1.1 = 4 then none else
    Ev prog clsT X d mc219 44 [(2, 89), (3, 0), (0, x2), (0, x3)] (pushR r2.1 []) r2.2) else none)
else
  ((fget 6374 ((mk E c s (hh g))) 89).bind fun v3 =>
    (aput 100 ((mk E c s (hh g))) v3 x3 (0)).bind fun M4 =>
    Ev prog clsT X d mc219 27 [(2, 89), (3, 0), (0, x2), (0, (w32 (x3 + 1)))] [] M4))) X [0, 7, 12, 22, 27, 44] 12 rfl).trans (by simp (maxSteps := 10000000) only [R89_13, ↓F6374_89, ↓S135, ↓W6384_89, bindI, Option.bind_some, if_true_, and_self, ite_true, true_and, true_or, or_true])
set_option maxRecDepth 100000 in
theorem r219_44 (d : Nat) (x2 x3 : Int) : Ev prog clsT X d mc219 44 [(2, 89), (3, 0), (0, x2), (0, x3)] [] (mk E c s (hh g)) =
  (if cmpI .eq x2 0 = true then
  (some ((0, (g 89 60)), ((mk E c s (hh g)))))
else
  (if cmpI .ge ((g 89 60)) 0 = true then
    (if inb ((w32 (x2 - 1))) 10 = true then
      (some ((0, (g 137 (Int.toNat ((w32 (x2 - 1)))))), ((mk E c s (hh g)))))
    else none)
  else
    (some ((0, (g 89 60)), ((mk E c s (hh g))))))) :=
  (evk_at (r := (if cmpI .eq x2 0 = true then
  ((fget 6384 ((mk E c s (hh g))) 89).bind fun v1 =>
    some ((0, v1), (mk E c s (hh g))))
else
  ((fget 6384 ((mk E c s (hh g))) 89).bind fun v2 =>
    if cmpI .ge v2 0 = true then
    ((fget 6382 ((mk E c s (hh g))) 89).bind fun v3 =>
      (aget X 100 ((mk E c s (hh g))) v3 ((w32 (x2 - 1)))).bind fun v4 =>
      some ((0, v4), (mk E c s (hh g))))
  else
    ((fget 6384 ((mk E c s (hh g))) 89).bind fun v5 =>
      some ((0, v5), (mk E c s (hh g))))))) X [0, 7, 12, 22, 27, 44] 13 rfl).trans (by simp (maxSteps := 10000000) only [↓A137, ↓F6382_89, ↓F6384_89, bindI, Option.bind_some, if_true_, and_self, ite_true, true_and, true_or, or_true])
set_option maxRecDepth 100000 in
theorem r220_0 (d : Nat) (x1 x2 : Int) : Ev prog clsT X d mc220 0 [(2, 89), (0, x1), (0, x2), (3, 0)] [] (mk E c s (hh g)) =
  (if cmpI .lt ((g 89 60)) 0 = true then
  (Ev prog clsT X d mc220 8 [(2, 89), (0, x1), (0, x2), (3, 0)] [] (mk E c s (hh g)))
else
  (if cmpI .lt x2 ((g 89 60)) = true then
    (Ev prog clsT X d mc220 8 [(2, 89), (0, x1), (0, x2), (3, 0)] [] (mk E c s (hh g)))
  else
    (some ((3, 0), ((mk E c s (hh g))))))) :=
  (evk_at (r := ((fget 6384 ((mk E c s (hh g))) 89).bind fun v1 =>
  if cmpI .lt v1 0 = true then
  (Ev prog clsT X d mc220 8 [(2, 89), (0, x1), (0, x2), (3, 0)] [] (mk E c s (hh g)))
else
  ((fget 6384 ((mk E c s (hh g))) 89).bind fun v2 =>
    if cmpI .lt x2 v2 = true then
    (Ev prog clsT X d mc220 8 [(2, 89), (0, x1), (0, x2), (3, 0)] [] (mk E c s (hh g)))
  else
    (some ((3, 0), (mk E c s (hh g))))))) X [0, 8, 16, 46, 49, 99] 9 rfl).trans (by simp (maxSteps := 10000000) only [↓F6384_89, bindI, Option.bind_some, if_true_, and_self, ite_true, true_and, true_or, or_true])
set_option maxRecDepth 100000 in
theorem rc220_ (d : Nat) (x1 x2 : Int) : Call prog clsT X (d + 1) 220 [(2, 89), (0, x1), (0, x2)] (mk E c s (hh g)) =
  (if cmpI .lt ((g 89 60)) 0 = true then
  (Ev prog clsT X d mc220 8 [(2, 89), (0, x1), (0, x2), (3, 0)] [] (mk E c s (hh g)))
else
  (if cmpI .lt x2 ((g 89 60)) = true then
    (Ev prog clsT X d mc220 8 [(2, 89), (0, x1), (0, x2), (3, 0)] [] (mk E c s (hh g)))
  else
    (some ((3, 0), ((mk E c s (hh g))))))) :=
  (show Call prog clsT X (d + 1) 220 [(2, 89), (0, x1), (0, x2)] (mk E c s (hh g)) = Ev prog clsT X d mc220 0 [(2, 89), (0, x1), (0, x2), (3, 0)] [] (mk E c s (hh g)) from rfl).trans (r220_0 X E c s g d x1 x2 )
set_option maxRecDepth 100000 in
theorem r220_8 (d : Nat) (x1 x2 : Int) : Ev prog clsT X d mc220 8 [(2, 89), (0, x1), (0, x2), (3, 0)] [] (mk E c s (hh g)) =
  (if cmpI .ne x1 10 = true then
  (if inb x1 10 = true then
    (if cmpI .ne ((g 106 (Int.toNat x1))) 0 = true then
    (Ev prog clsT X d mc220 49 [(2, 89), (0, x1), (0, x2), (0, 0)] [] (mk E c s (hh g)))
  else
    (if inb x1 10 = true then
      ((Call prog clsT X d 220 [(2, 89), (0, (w32 (x1 + 1))), (0, x2)] ((mk E c s (hh (up g 136 (Int.toNat x1) ((-1))))))).bind fun r1 => if r1.1.1 = 4 then none else
      Ev prog clsT X d mc220 46 [(2, 89), (0, x1), (0, x2), (3, 0)] (pushR r1.1 []) r1.2)
    else none))
  else none)
else
  (Ev prog clsT X d mc220 16 [(2, 89), (0, x1), (0, x2), (0, 0)] [] (mk E c s (hh (up g 89 60 x2))))) :=
  (evk_at (r := (if cmpI .ne x1 10 = true then
  ((fget 6250 ((mk E c s (hh g))) 89).bind fun v1 =>
    (aget X 102 ((mk E c s (hh g))) v1 x1).bind fun v2 =>
    if cmpI .ne v2 0 = true then
    (Ev prog clsT X d mc220 49 [(2, 89), (0, x1), (0, x2), (0, 0)] [] (mk E c s (hh g)))
  else
    ((fget 6378 ((mk E c s (hh g))) 89).bind fun v3 =>
      (aput 100 ((mk E c s (hh g))) v3 x1 ((-1))).bind fun M4 =>
      if (2 : Nat) = 2 ∧ rcv M4 89 13 = true then
      ((Call prog clsT X d 220 [(2, 89), (0, (w32 (x1 + 1))), (0, x2)] M4).bind fun r5 => if r5.1.1 = 4 then none else
      Ev prog clsT X d mc220 46 [(2, 89), (0, x1), (0, x2), (3, 0)] (pushR r5.1 []) r5.2) else none))
else
  ((fput 6384 ((mk E c s (hh g))) 89 x2).bind fun M6 =>
    Ev prog clsT X d mc220 16 [(2, 89), (0, x1), (0, x2), (0, 0)] [] M6))) X [0, 8, 16, 46, 49, 99] 20 rfl).trans (by simp (maxSteps := 10000000) only [R89_13, ↓A106, ↓F6250_89, ↓F6378_89, ↓S136, ↓W6384_89, bindI, Option.bind_some, if_true_, and_self, ite_true, true_and, true_or, or_true])
set_option maxRecDepth 100000 in
theorem r220_16 (d : Nat) (x3 : Int) (w1 w2 : MV) : Ev prog clsT X d mc220 16 [(2, 89), w1, w2, (0, x3)] [] (mk E c s (hh g)) =
  (if cmpI .ge x3 10 = true then
  (some ((3, 0), ((mk E c s (hh g)))))
else
  (if inb x3 10 = true then
    (if inb x3 10 = true then
    (Ev prog clsT X d mc220 16 [(2, 89), (3, 0), (3, 0), (0, (w32 (x3 + 1)))] [] (mk E c s (hh (up g 137 (Int.toNat x3) ((g 136 (Int.toNat x3)))))))
  else none)
  else none)) :=
  (evk_at (r := (if cmpI .ge x3 10 = true then
  (some ((3, 0), (mk E c s (hh g))))
else
  ((fget 6382 ((mk E c s (hh g))) 89).bind fun v1 =>
    (fget 6378 ((mk E c s (hh g))) 89).bind fun v2 =>
    (aget X 100 ((mk E c s (hh g))) v2 x3).bind fun v3 =>
    (aput 100 ((mk E c s (hh g))) v1 x3 (v3)).bind fun M4 =>
    Ev prog clsT X d mc220 16 [(2, 89), (3, 0), (3, 0), (0, (w32 (x3 + 1)))] [] M4))) X [0, 8, 16, 46, 49, 99] 15 rfl).trans (by simp (maxSteps := 10000000) only [↓A136, ↓F6378_89, ↓F6382_89, ↓S137, bindI, Option.bind_some, if_true_, and_self, ite_true, true_and, true_or, or_true])
set_option maxRecDepth 100000 in
theorem r220_46 (d : Nat) (x1 x2 : Int) : Ev prog clsT X d mc220 46 [(2, 89), (0, x1), (0, x2), (3, 0)] [] (mk E c s (hh g)) =
  (some ((3, 0), ((mk E c s (hh g))))) :=
  (evk_at (r := (some ((3, 0), (mk E c s (hh g))))) X [0, 8, 16, 46, 49, 99] 2 rfl).trans (by simp (maxSteps := 10000000) only [bindI, Option.bind_some, if_true_, and_self, ite_true, true_and, true_or, or_true])
set_option maxRecDepth 100000 in
theorem r220_49 (d : Nat) (x1 x2 x3 : Int) : Ev prog clsT X d mc220 49 [(2, 89), (0, x1), (0, x2), (0, x3)] [] (mk E c s (hh g)) =
  (if cmpI .ge x3 3 = true then
  (some ((3, 0), ((mk E c s (hh g)))))
else
  (if inb x3 3 = true then
    (if inb x1 10 = true then
    (if inb x3 3 = true then
    (if cmpI .le ((w32 (((g 135 (Int.toNat x3))) + ((g 134 (Int.toNat x1)))))) ((g 131 (Int.toNat x3))) = true then
    (if inb x3 3 = true then
      (if inb x1 10 = true then
      (if inb x3 3 = true then
      (if inb x1 10 = true then
      (if inb x1 10 = true then
      (if cmpI .ne x3 ((g 132 (Int.toNat x1))) = true then
      ((Call prog clsT X d 220 [(2, 89), (0, (w32 (x1 + 1))), (0, (w32 (x2 + 1)))] ((mk E c s (hh (up (up g 135 (Int.toNat x3) ((w32 (((g 135 (Int.toNat x3))) + ((g 134 (Int.toNat x1))))))) 136 (Int.toNat x1) x3))))).bind fun r1 => if r1.1.1 = 4 then none else
        Ev prog clsT X d mc220 99 [(2, 89), (0, x1), (0, x2), (0, x3)] (pushR r1.1 []) r1.2)
    else
      ((Call prog clsT X d 220 [(2, 89), (0, (w32 (x1 + 1))), (0, (w32 (x2 + 0)))] ((mk E c s (hh (up (up g 135 (Int.toNat x3) ((w32 (((g 135 (Int.toNat x3))) + ((g 134 (Int.toNat x1))))))) 136 (Int.toNat x1) x3))))).bind fun r2 => if r2.1.1 = 4 then none else
        Ev prog clsT X d mc220 99 [(2, 89), (0, x1), (0, x2), (0, x3)] (pushR r2.1 []) r2.2))
    else none)
    else none)
    else none)
    else none)
    else none)
  else
    (Ev prog clsT X d mc220 49 [(2, 89), (0, x1), (0, x2), (0, (w32 (x3 + 1)))] [] (mk E c s (hh g))))
  else none)
  else none)
  else none)) :=
  (evk_at (r := (if cmpI .ge x3 3 = true then
  (some ((3, 0), (mk E c s (hh g))))
else
  ((fget 6374 ((mk E c s (hh g))) 89).bind fun v1 =>
    (aget X 100 ((mk E c s (hh g))) v1 x3).bind fun v2 =>
    (fget 6370 ((mk E c s (hh g))) 89).bind fun v3 =>
    (aget X 100 ((mk E c s (hh g))) v3 x1).bind fun v4 =>
    (fget 6358 ((mk E c s (hh g))) 89).bind fun v5 =>
    (aget X 100 ((mk E c s (hh g))) v5 x3).bind fun v6 =>
    if cmpI .le ((w32 (v2 + v4))) v6 = true then
    ((fget 6374 ((mk E c s (hh g))) 89).bind fun v7 =>
      (aget X 100 ((mk E c s (hh g))) v7 x3).bind fun v8 =>
      (fget 6370 ((mk E c s (hh g))) 89).bind fun v9 =>
      (aget X 100 ((mk E c s (hh g))) v9 x1).bind fun v10 =>
      (aput 100 ((mk E c s (hh g))) v7 x3 ((w32 (v8 + v10)))).bind fun M11 =>
      (fget 6378 M11 89).bind fun v12 =>
      (aput 100 M11 v12 x1 (x3)).bind fun M13 =>
      (fget 6362 M13 89).bind fun v14 =>
      (aget X 100 M13 v14 x1).bind fun v15 =>
      if cmpI .ne x3 v15 = true then
      (if (2 : Nat) = 2 ∧ rcv M13 89 13 = true then
        ((Call prog clsT X d 220 [(2, 89), (0, (w32 (x1 + 1))), (0, (w32 (x2 + 1)))] M13).bind fun r16 => if r16.1.1 = 4 then none else
        Ev prog clsT X d mc220 99 [(2, 89), (0, x1), (0, x2), (0, x3)] (pushR r16.1 []) r16.2) else none)
    else
      (if (2 : Nat) = 2 ∧ rcv M13 89 13 = true then
        ((Call prog clsT X d 220 [(2, 89), (0, (w32 (x1 + 1))), (0, (w32 (x2 + 0)))] M13).bind fun r17 => if r17.1.1 = 4 then none else
        Ev prog clsT X d mc220 99 [(2, 89), (0, x1), (0, x2), (0, x3)] (pushR r17.1 []) r17.2) else none))
  else
    (Ev prog clsT X d mc220 49 [(2, 89), (0, x1), (0, x2), (0, (w32 (x3 + 1)))] [] (mk E c s (hh g)))))) X [0, 8, 16, 46, 49, 99] 49 rfl).trans (by simp (maxSteps := 10000000) only [R89_13, uc_135_132, uc_136_132, ↓A131, ↓A132, ↓A134, ↓A135, ↓F6358_89, ↓F6362_89, ↓F6370_89, ↓F6374_89, ↓F6378_89, ↓S135, ↓S136, bindI, Option.bind_some, if_true_, and_self, ite_true, true_and, true_or, or_true])
set_option maxRecDepth 100000 in
theorem r220_99 (d : Nat) (x1 x2 x3 : Int) : Ev prog clsT X d mc220 99 [(2, 89), (0, x1), (0, x2), (0, x3)] [] (mk E c s (hh g)) =
  (if inb x3 3 = true then
  (if inb x1 10 = true then
  (if inb x3 3 = true then
  (Ev prog clsT X d mc220 49 [(2, 89), (0, x1), (0, x2), (0, (w32 (x3 + 1)))] [] (mk E c s (hh (up g 135 (Int.toNat x3) ((w32 (((g 135 (Int.toNat x3))) - ((g 134 (Int.toNat x1))))))))))
else none)
else none)
else none) :=
  (evk_at (r := ((fget 6374 ((mk E c s (hh g))) 89).bind fun v1 =>
  (aget X 100 ((mk E c s (hh g))) v1 x3).bind fun v2 =>
  (fget 6370 ((mk E c s (hh g))) 89).bind fun v3 =>
  (aget X 100 ((mk E c s (hh g))) v3 x1).bind fun v4 =>
  (aput 100 ((mk E c s (hh g))) v1 x3 ((w32 (v2 - v4)))).bind fun M5 =>
  Ev prog clsT X d mc220 49 [(2, 89), (0, x1), (0, x2), (0, (w32 (x3 + 1)))] [] M5)) X [0, 8, 16, 46, 49, 99] 15 rfl).trans (by simp (maxSteps := 10000000) only [↓A134, ↓A135, ↓F6370_89, ↓F6374_89, ↓S135, bindI, Option.bind_some, if_true_, and_self, ite_true, true_and, true_or, or_true])
set_option maxRecDepth 100000 in
theorem r221_0 (d : Nat) (x1 : Int) : Ev prog clsT X d mc221 0 [(2, 89), (0, x1)] [] (mk E c s (hh g)) =
  ((Call prog clsT X d 152 [(0, x1), (0, 1), (0, 10)] ((mk E c s (hh (up g 89 0 0))))).bind fun r1 => if r1.1.1 = 4 then none else
  Ev prog clsT X d mc221 7 [(2, 89), (0, x1)] (pushR r1.1 []) r1.2) :=
  (evk_at (r := ((fput 6144 ((mk E c s (hh g))) 89 0).bind fun M1 =>
  (Call prog clsT X d 152 [(0, x1), (0, 1), (0, 10)] M1).bind fun r2 => if r2.1.1 = 4 then none else
  Ev prog clsT X d mc221 7 [(2, 89), (0, x1)] (pushR r2.1 []) r2.2)) X [0, 7] 8 rfl).trans (by simp (maxSteps := 10000000) only [↓W6144_89, bindI, Option.bind_some, if_true_, and_self, ite_true, true_and, true_or, or_true])
set_option maxRecDepth 100000 in
theorem rc221_ (d : Nat) (x1 : Int) : Call prog clsT X (d + 1) 221 [(2, 89), (0, x1)] (mk E c s (hh g)) =
  ((Call prog clsT X d 152 [(0, x1), (0, 1), (0, 10)] ((mk E c s (hh (up g 89 0 0))))).bind fun r1 => if r1.1.1 = 4 then none else
  Ev prog clsT X d mc221 7 [(2, 89), (0, x1)] (pushR r1.1 []) r1.2) :=
  (show Call prog clsT X (d + 1) 221 [(2, 89), (0, x1)] (mk E c s (hh g)) = Ev prog clsT X d mc221 0 [(2, 89), (0, x1)] [] (mk E c s (hh g)) from rfl).trans (r221_0 X E c s g d x1 )
set_option maxRecDepth 100000 in
theorem r221_7 (d : Nat) (x1 s0 : Int) : Ev prog clsT X d mc221 7 [(2, 89), (0, x1)] [(0, s0)] (mk E c s (hh g)) =
  (if cmpI .ne s0 0 = true then
  (some ((0, 1), ((mk E c s (hh (up g 89 61 x1))))))
else
  (some ((0, 0), ((mk E c s (hh g)))))) :=
  (evk_at (r := (if cmpI .ne s0 0 = true then
  ((fput 6388 ((mk E c s (hh g))) 89 x1).bind fun M1 =>
    some ((0, 1), M1))
else
  (some ((0, 0), (mk E c s (hh g)))))) X [0, 7] 7 rfl).trans (by simp (maxSteps := 10000000) only [↓W6388_89, bindI, Option.bind_some, if_true_, and_self, ite_true, true_and, true_or, or_true])
set_option maxRecDepth 100000 in
theorem r222_0 (d : Nat) (x1 : Int) : Ev prog clsT X d mc222 0 [(2, 89), (0, x1), (3, 0), (3, 0)] [] (mk E c s (hh g)) =
  ((Call prog clsT X d 152 [(0, x1), (0, 0), (0, 10)] ((mk E c s (hh (up g 89 0 0))))).bind fun r1 => if r1.1.1 = 4 then none else
  Ev prog clsT X d mc222 7 [(2, 89), (0, x1), (3, 0), (3, 0)] (pushR r1.1 []) r1.2) :=
  (evk_at (r := ((fput 6144 ((mk E c s (hh g))) 89 0).bind fun M1 =>
  (Call prog clsT X d 152 [(0, x1), (0, 0), (0, 10)] M1).bind fun r2 => if r2.1.1 = 4 then none else
  Ev prog clsT X d mc222 7 [(2, 89), (0, x1), (3, 0), (3, 0)] (pushR r2.1 []) r2.2)) X [0, 7, 12, 22, 39, 53, 69] 8 rfl).trans (by simp (maxSteps := 10000000) only [↓W6144_89, bindI, Option.bind_some, if_true_, and_self, ite_true, true_and, true_or, or_true])
set_option maxRecDepth 100000 in
theorem rc222_ (d : Nat) (x1 : Int) : Call prog clsT X (d + 1) 222 [(2, 89), (0, x1)] (mk E c s (hh g)) =
  ((Call prog clsT X d 152 [(0, x1), (0, 0), (0, 10)] ((mk E c s (hh (up g 89 0 0))))).bind fun r1 => if r1.1.1 = 4 then none else
  Ev prog clsT X d mc222 7 [(2, 89), (0, x1), (3, 0), (3, 0)] (pushR r1.1 []) r1.2) :=
  (show Call prog clsT X (d + 1) 222 [(2, 89), (0, x1)] (mk E c s (hh g)) = Ev prog clsT X d mc222 0 [(2, 89), (0, x1), (3, 0), (3, 0)] [] (mk E c s (hh g)) from rfl).trans (r222_0 X E c s g d x1 )
set_option maxRecDepth 100000 in
theorem r222_7 (d : Nat) (x1 s0 : Int) : Ev prog clsT X d mc222 7 [(2, 89), (0, x1), (3, 0), (3, 0)] [(0, s0)] (mk E c s (hh g)) =
  (if cmpI .ne s0 0 = true then
  (Ev prog clsT X d mc222 12 [(2, 89), (0, x1), (0, 0), (3, 0)] [] (mk E c s (hh g)))
else
  (some ((0, (-1)), ((mk E c s (hh g)))))) :=
  (evk_at (r := (if cmpI .ne s0 0 = true then
  (Ev prog clsT X d mc222 12 [(2, 89), (0, x1), (0, 0), (3, 0)] [] (mk E c s (hh g)))
else
  (some ((0, (-1)), (mk E c s (hh g)))))) X [0, 7, 12, 22, 39, 53, 69] 5 rfl).trans (by simp (maxSteps := 10000000) only [bindI, Option.bind_some, if_true_, and_self, ite_true, true_and, true_or, or_true])
set_option maxRecDepth 100000 in
theorem r222_12 (d : Nat) (x1 x2 : Int) (w3 : MV) : Ev prog clsT X d mc222 12 [(2, 89), (0, x1), (0, x2), w3] [] (mk E c s (hh g)) =
  (if cmpI .ge x2 10 = true then
  (Ev prog clsT X d mc222 53 [(2, 89), (0, x1), (0, 0), (3, 0)] [] (mk E c s (hh g)))
else
  (if inb x2 10 = true then
    (Ev prog clsT X d mc222 22 [(2, 89), (0, x1), (0, x2), (0, 0)] [] (mk E c s (hh (up g 141 (Int.toNat x2) 0))))
  else none)) :=
  (evk_at (r := (if cmpI .ge x2 10 = true then
  (Ev prog clsT X d mc222 53 [(2, 89), (0, x1), (0, 0), (3, 0)] [] (mk E c s (hh g)))
else
  ((fget 6406 ((mk E c s (hh g))) 89).bind fun v1 =>
    (aput 100 ((mk E c s (hh g))) v1 x2 (0)).bind fun M2 =>
    Ev prog clsT X d mc222 22 [(2, 89), (0, x1), (0, x2), (0, 0)] [] M2))) X [0, 7, 12, 22, 39, 53, 69] 12 rfl).trans (by simp (maxSteps := 10000000) only [↓F6406_89, ↓S141, bindI, Option.bind_some, if_true_, and_self, ite_true, true_and, true_or, or_true])
set_option maxRecDepth 100000 in
theorem r222_22 (d : Nat) (x1 x2 x3 : Int) : Ev prog clsT X d mc222 22 [(2, 89), (0, x1), (0, x2), (0, x3)] [] (mk E c s (hh g)) =
  (if cmpI .ge x3 4 = true then
  (Ev prog clsT X d mc222 12 [(2, 89), (0, x1), (0, (w32 (x2 + 1))), (0, x3)] [] (mk E c s (hh g)))
else
  (if inb x2 10 = true then
    (if inb x3 4 = true then
    (if cmpI .eq ((g 127 (Int.toNat x3))) 0 = true then
    (if inb x2 10 = true then
      (Ev prog clsT X d mc222 22 [(2, 89), (0, x1), (0, x2), (0, (w32 (x3 + 1)))] [] (mk E c s (hh (up g 141 (Int.toNat x2) ((ior32 ((g 141 (Int.toNat x2))) 0))))))
    else none)
  else
    ((Call prog clsT X d 204 [(2, 89), (0, x3), (0, x2)] ((mk E c s (hh g)))).bind fun r1 => if r1.1.1 = 4 then none else
      Ev prog clsT X d mc222 39 [(2, 89), (0, x1), (0, x2), (0, x3)] (pushR r1.1 [(0, (g 141 (Int.toNat x2))), (0, x2), (2, 141)]) r1.2))
  else none)
  else none)) :=
  (evk_at (r := (if cmpI .ge x3 4 = true then
  (Ev prog clsT X d mc222 12 [(2, 89), (0, x1), (0, (w32 (x2 + 1))), (0, x3)] [] (mk E c s (hh g)))
else
  ((fget 6406 ((mk E c s (hh g))) 89).bind fun v1 =>
    (aget X 100 ((mk E c s (hh g))) v1 x2).bind fun v2 =>
    (fget 6342 ((mk E c s (hh g))) 89).bind fun v3 =>
    (aget X 102 ((mk E c s (hh g))) v3 x3).bind fun v4 =>
    if cmpI .eq v4 0 = true then
    ((aput 100 ((mk E c s (hh g))) v1 x2 ((ior32 v2 0))).bind fun M5 =>
      Ev prog clsT X d mc222 22 [(2, 89), (0, x1), (0, x2), (0, (w32 (x3 + 1)))] [] M5)
  else
    (if (2 : Nat) = 2 ∧ rcv ((mk E c s (hh g))) 89 13 = true then
      ((Call prog clsT X d 204 [(2, 89), (0, x3), (0, x2)] ((mk E c s (hh g)))).bind fun r6 => if r6.1.1 = 4 then none else
      Ev prog clsT X d mc222 39 [(2, 89), (0, x1), (0, x2), (0, x3)] (pushR r6.1 [(0, v2), (0, x2), (2, v1)]) r6.2) else none)))) X [0, 7, 12, 22, 39, 53, 69] 20 rfl).trans (by simp (maxSteps := 10000000) only [R89_13, ↓A127, ↓A141, ↓F6342_89, ↓F6406_89, ↓S141, bindI, Option.bind_some, if_true_, and_self, ite_true, true_and, true_or, or_true])
set_option maxRecDepth 100000 in
theorem r222_39 (d : Nat) (x1 x2 x3 s1 s2 s3 : Int) : Ev prog clsT X d mc222 39 [(2, 89), (0, x1), (0, x2), (0, x3)] [(0, s3), (0, s2), (0, s1), (2, 141)] (mk E c s (hh g)) =
  (if cmpI .eq s3 0 = true then
  (if inb s1 10 = true then
    (Ev prog clsT X d mc222 22 [(2, 89), (0, x1), (0, x2), (0, (w32 (x3 + 1)))] [] (mk E c s (hh (up g 141 (Int.toNat s1) ((ior32 s2 0))))))
  else none)
else
  (if inb s1 10 = true then
    (Ev prog clsT X d mc222 22 [(2, 89), (0, x1), (0, x2), (0, (w32 (x3 + 1)))] [] (mk E c s (hh (up g 141 (Int.toNat s1) ((ior32 s2 ((ishl32 1 x3))))))))
  else none)) :=
  (evk_at (r := (if cmpI .eq s3 0 = true then
  ((aput 100 ((mk E c s (hh g))) 141 s1 ((ior32 s2 0))).bind fun M1 =>
    Ev prog clsT X d mc222 22 [(2, 89), (0, x1), (0, x2), (0, (w32 (x3 + 1)))] [] M1)
else
  ((aput 100 ((mk E c s (hh g))) 141 s1 ((ior32 s2 ((ishl32 1 x3))))).bind fun M2 =>
    Ev prog clsT X d mc222 22 [(2, 89), (0, x1), (0, x2), (0, (w32 (x3 + 1)))] [] M2))) X [0, 7, 12, 22, 39, 53, 69] 11 rfl).trans (by simp (maxSteps := 10000000) only [↓S141, bindI, Option.bind_some, if_true_, and_self, ite_true, true_and, true_or, or_true])
set_option maxRecDepth 100000 in
theorem r222_53 (d : Nat) (x1 x2 : Int) (w3 : MV) : Ev prog clsT X d mc222 53 [(2, 89), (0, x1), (0, x2), w3] [] (mk E c s (hh g)) =
  (if cmpI .ge x2 4 = true then
  ((Call prog clsT X d 223 [(2, 89), (0, 0)] ((mk E c s (hh (up g 89 60 ((-1))))))).bind fun r1 => if r1.1.1 = 4 then none else
    Ev prog clsT X d mc222 69 [(2, 89), (0, x1), (0, x2), (3, 0)] (pushR r1.1 []) r1.2)
else
  (if inb x2 4 = true then
    (Ev prog clsT X d mc222 53 [(2, 89), (0, x1), (0, (w32 (x2 + 1))), (3, 0)] [] (mk E c s (hh (up g 138 (Int.toNat x2) 0))))
  else none)) :=
  (evk_at (r := (if cmpI .ge x2 4 = true then
  ((fput 6384 ((mk E c s (hh g))) 89 ((-1))).bind fun M1 =>
    if (2 : Nat) = 2 ∧ rcv M1 89 13 = true then
    ((Call prog clsT X d 223 [(2, 89), (0, 0)] M1).bind fun r2 => if r2.1.1 = 4 then none else
    Ev prog clsT X d mc222 69 [(2, 89), (0, x1), (0, x2), (3, 0)] (pushR r2.1 []) r2.2) else none)
else
  ((fget 6394 ((mk E c s (hh g))) 89).bind fun v3 =>
    (aput 100 ((mk E c s (hh g))) v3 x2 (0)).bind fun M4 =>
    Ev prog clsT X d mc222 53 [(2, 89), (0, x1), (0, (w32 (x2 + 1))), (3, 0)] [] M4))) X [0, 7, 12, 22, 39, 53, 69] 12 rfl).trans (by simp (maxSteps := 10000000) only [R89_13, ↓F6394_89, ↓S138, ↓W6384_89, bindI, Option.bind_some, if_true_, and_self, ite_true, true_and, true_or, or_true])
set_option maxRecDepth 100000 in
theorem r222_69 (d : Nat) (x1 x2 : Int) : Ev prog clsT X d mc222 69 [(2, 89), (0, x1), (0, x2), (3, 0)] [] (mk E c s (hh g)) =
  (if cmpI .eq x1 0 = true then
  (some ((0, (g 89 60)), ((mk E c s (hh g)))))
else
  (if cmpI .ge ((g 89 60)) 0 = true then
    (if inb ((w32 (x1 - 1))) 10 = true then
      (some ((0, (g 137 (Int.toNat ((w32 (x1 - 1)))))), ((mk E c s (hh g)))))
    else none)
  else
    (some ((0, (g 89 60)), ((mk E c s (hh g))))))) :=
  (evk_at (r := (if cmpI .eq x1 0 = true then
  ((fget 6384 ((mk E c s (hh g))) 89).bind fun v1 =>
    some ((0, v1), (mk E c s (hh g))))
else
  ((fget 6384 ((mk E c s (hh g))) 89).bind fun v2 =>
    if cmpI .ge v2 0 = true then
    ((fget 6382 ((mk E c s (hh g))) 89).bind fun v3 =>
      (aget X 100 ((mk E c s (hh g))) v3 ((w32 (x1 - 1)))).bind fun v4 =>
      some ((0, v4), (mk E c s (hh g))))
  else
    ((fget 6384 ((mk E c s (hh g))) 89).bind fun v5 =>
      some ((0, v5), (mk E c s (hh g))))))) X [0, 7, 12, 22, 39, 53, 69] 13 rfl).trans (by simp (maxSteps := 10000000) only [↓A137, ↓F6382_89, ↓F6384_89, bindI, Option.bind_some, if_true_, and_self, ite_true, true_and, true_or, or_true])
set_option maxRecDepth 100000 in
theorem r223_0 (d : Nat) (x1 : Int) : Ev prog clsT X d mc223 0 [(2, 89), (0, x1), (3, 0), (3, 0), (3, 0)] [] (mk E c s (hh g)) =
  (if cmpI .lt ((g 89 60)) 0 = true then
  (Ev prog clsT X d mc223 9 [(2, 89), (0, x1), (3, 0), (3, 0), (3, 0)] [] (mk E c s (hh g)))
else
  ((Call prog clsT X d 224 [(2, 89)] ((mk E c s (hh g)))).bind fun r1 => if r1.1.1 = 4 then none else
    Ev prog clsT X d mc223 5 [(2, 89), (0, x1), (3, 0), (3, 0), (3, 0)] (pushR r1.1 []) r1.2)) :=
  (evk_at (r := ((fget 6384 ((mk E c s (hh g))) 89).bind fun v1 =>
  if cmpI .lt v1 0 = true then
  (Ev prog clsT X d mc223 9 [(2, 89), (0, x1), (3, 0), (3, 0), (3, 0)] [] (mk E c s (hh g)))
else
  (if (2 : Nat) = 2 ∧ rcv ((mk E c s (hh g))) 89 13 = true then
    ((Call prog clsT X d 224 [(2, 89)] ((mk E c s (hh g)))).bind fun r2 => if r2.1.1 = 4 then none else
    Ev prog clsT X d mc223 5 [(2, 89), (0, x1), (3, 0), (3, 0), (3, 0)] (pushR r2.1 []) r2.2) else none))) X [0, 5, 9, 15, 18, 46, 52, 55, 81, 111, 139, 149] 6 rfl).trans (by simp (maxSteps := 10000000) only [R89_13, ↓F6384_89, bindI, Option.bind_some, if_true_, and_self, ite_true, true_and, true_or, or_true])
set_option maxRecDepth 100000 in
theorem rc223_ (d : Nat) (x1 : Int) : Call prog clsT X (d + 1) 223 [(2, 89), (0, x1)] (mk E c s (hh g)) =
  (if cmpI .lt ((g 89 60)) 0 = true then
  (Ev prog clsT X d mc223 9 [(2, 89), (0, x1), (3, 0), (3, 0), (3, 0)] [] (mk E c s (hh g)))
else
  ((Call prog clsT X d 224 [(2, 89)] ((mk E c s (hh g)))).bind fun r1 => if r1.1.1 = 4 then none else
    Ev prog clsT X d mc223 5 [(2, 89), (0, x1), (3, 0), (3, 0), (3, 0)] (pushR r1.1 []) r1.2)) :=
  (show Call prog clsT X (d + 1) 223 [(2, 89), (0, x1)] (mk E c s (hh g)) = Ev prog clsT X d mc223 0 [(2, 89), (0, x1), (3, 0), (3, 0), (3, 0)] [] (mk E c s (hh g)) from rfl).trans (r223_0 X E c s g d x1 )
set_option maxRecDepth 100000 in
theorem r223_5 (d : Nat) (x1 s0 : Int) : Ev prog clsT X d mc223 5 [(2, 89), (0, x1), (3, 0), (3, 0), (3, 0)] [(0, s0)] (mk E c s (hh g)) =
  (if cmpI .lt s0 ((g 89 60)) = true then
  (Ev prog clsT X d mc223 9 [(2, 89), (0, x1), (3, 0), (3, 0), (3, 0)] [] (mk E c s (hh g)))
else
  (some ((3, 0), ((mk E c s (hh g)))))) :=
  (evk_at (r := ((fget 6384 ((mk E c s (hh g))) 89).bind fun v1 =>
  if cmpI .lt s0 v1 = true then
  (Ev prog clsT X d mc223 9 [(2, 89), (0, x1), (3, 0), (3, 0), (3, 0)] [] (mk E c s (hh g)))
else
  (some ((3, 0), (mk E c s (hh g)))))) X [0, 5, 9, 15, 18, 46, 52, 55, 81, 111, 139, 149] 5 rfl).trans (by simp (maxSteps := 10000000) only [↓F6384_89, bindI, Option.bind_some, if_true_, and_self, ite_true, true_and, true_or, or_true])
set_option maxRecDepth 100000 in
theorem r223_9 (d : Nat) (x1 : Int) : Ev prog clsT X d mc223 9 [(2, 89), (0, x1), (3, 0), (3, 0), (3, 0)] [] (mk E c s (hh g)) =
  (if cmpI .ne x1 10 = true then
  (if inb x1 10 = true then
    (if inb x1 10 = true then
    (if cmpI .eq ((g 106 (Int.toNat x1))) 0 = true then
    ((Call prog clsT X d 223 [(2, 89), (0, (w32 (x1 + 1)))] ((mk E c s (hh (up g 136 (Int.toNat x1) ((-1))))))).bind fun r1 => if r1.1.1 = 4 then none else
      Ev prog clsT X d mc223 52 [(2, 89), (0, x1), (3, 0), (3, 0), (3, 0)] (pushR r1.1 []) r1.2)
  else
    ((Call prog clsT X d 190 [(2, 89), (0, x1), (0, (-1))] ((mk E c s (hh (up g 136 (Int.toNat x1) ((-1))))))).bind fun r2 => if r2.1.1 = 4 then none else
      Ev prog clsT X d mc223 46 [(2, 89), (0, x1), (3, 0), (3, 0), (3, 0)] (pushR r2.1 []) r2.2))
  else none)
  else none)
else
  ((Call prog clsT X d 224 [(2, 89)] ((mk E c s (hh g)))).bind fun r3 => if r3.1.1 = 4 then none else
    Ev prog clsT X d mc223 15 [(2, 89), (0, x1), (3, 0), (3, 0), (3, 0)] (pushR r3.1 [(2, 89)]) r3.2)) :=
  (evk_at (r := (if cmpI .ne x1 10 = true then
  ((fget 6378 ((mk E c s (hh g))) 89).bind fun v1 =>
    (aput 100 ((mk E c s (hh g))) v1 x1 ((-1))).bind fun M2 =>
    (fget 6250 M2 89).bind fun v3 =>
    (aget X 102 M2 v3 x1).bind fun v4 =>
    if cmpI .eq v4 0 = true then
    (if (2 : Nat) = 2 ∧ rcv M2 89 13 = true then
      ((Call prog clsT X d 223 [(2, 89), (0, (w32 (x1 + 1)))] M2).bind fun r5 => if r5.1.1 = 4 then none else
      Ev prog clsT X d mc223 52 [(2, 89), (0, x1), (3, 0), (3, 0), (3, 0)] (pushR r5.1 []) r5.2) else none)
  else
    (if (2 : Nat) = 2 ∧ rcv M2 89 13 = true then
      ((Call prog clsT X d 190 [(2, 89), (0, x1), (0, (-1))] M2).bind fun r6 => if r6.1.1 = 4 then none else
      Ev prog clsT X d mc223 46 [(2, 89), (0, x1), (3, 0), (3, 0), (3, 0)] (pushR r6.1 []) r6.2) else none))
else
  (if (2 : Nat) = 2 ∧ rcv ((mk E c s (hh g))) 89 13 = true then
    ((Call prog clsT X d 224 [(2, 89)] ((mk E c s (hh g)))).bind fun r7 => if r7.1.1 = 4 then none else
    Ev prog clsT X d mc223 15 [(2, 89), (0, x1), (3, 0), (3, 0), (3, 0)] (pushR r7.1 [(2, 89)]) r7.2) else none))) X [0, 5, 9, 15, 18, 46, 52, 55, 81, 111, 139, 149] 19 rfl).trans (by simp (maxSteps := 10000000) only [R89_13, uc_136_106, ↓A106, ↓F6250_89, ↓F6378_89, ↓S136, bindI, Option.bind_some, if_true_, and_self, ite_true, true_and, true_or, or_true])
set_option maxRecDepth 100000 in
theorem r223_15 (d : Nat) (x1 s1 : Int) : Ev prog clsT X d mc223 15 [(2, 89), (0, x1), (3, 0), (3, 0), (3, 0)] [(0, s1), (2, 89)] (mk E c s (hh g)) =
  (Ev prog clsT X d mc223 18 [(2, 89), (0, x1), (0, 0), (3, 0), (3, 0)] [] (mk E c s (hh (up g 89 60 s1)))) :=
  (evk_at (r := ((fput 6384 ((mk E c s (hh g))) 89 s1).bind fun M1 =>
  Ev prog clsT X d mc223 18 [(2, 89), (0, x1), (0, 0), (3, 0), (3, 0)] [] M1)) X [0, 5, 9, 15, 18, 46, 52, 55, 81, 111, 139, 149] 5 rfl).trans (by simp (maxSteps := 10000000) only [↓W6384_89, bindI, Option.bind_some, if_true_, and_self, ite_true, true_and, true_or, or_true])
set_option maxRecDepth 100000 in
theorem r223_18 (d : Nat) (x2 : Int) (w1 w3 w4 : MV) : Ev prog clsT X d mc223 18 [(2, 89), w1, (0, x2), w3, w4] [] (mk E c s (hh g)) =
  (if cmpI .ge x2 10 = true then
  (some ((3, 0), ((mk E c s (hh g)))))
else
  (if inb x2 10 = true then
    (if inb x2 10 = true then
    (Ev prog clsT X d mc223 18 [(2, 89), (3, 0), (0, (w32 (x2 + 1))), (3, 0), (3, 0)] [] (mk E c s (hh (up g 137 (Int.toNat x2) ((g 136 (Int.toNat x2)))))))
  else none)
  else none)) :=
  (evk_at (r := (if cmpI .ge x2 10 = true then
  (some ((3, 0), (mk E c s (hh g))))
else
  ((fget 6382 ((mk E c s (hh g))) 89).bind fun v1 =>
    (fget 6378 ((mk E c s (hh g))) 89).bind fun v2 =>
    (aget X 100 ((mk E c s (hh g))) v2 x2).bind fun v3 =>
    (aput 100 ((mk E c s (hh g))) v1 x2 (v3)).bind fun M4 =>
    Ev prog clsT X d mc223 18 [(2, 89), (3, 0), (0, (w32 (x2 + 1))), (3, 0), (3, 0)] [] M4))) X [0, 5, 9, 15, 18, 46, 52, 55, 81, 111, 139, 149] 15 rfl).trans (by simp (maxSteps := 10000000) only [↓A136, ↓F6378_89, ↓F6382_89, ↓S137, bindI, Option.bind_some, if_true_, and_self, ite_true, true_and, true_or, or_true])
set_option maxRecDepth 100000 in
theorem r223_46 (d : Nat) (x1 s0 : Int) : Ev prog clsT X d mc223 46 [(2, 89), (0, x1), (3, 0), (3, 0), (3, 0)] [(0, s0)] (mk E c s (hh g)) =
  (if cmpI .ne s0 0 = true then
  (Ev prog clsT X d mc223 55 [(2, 89), (0, x1), (0, 0), (3, 0), (3, 0)] [] (mk E c s (hh g)))
else
  ((Call prog clsT X d 223 [(2, 89), (0, (w32 (x1 + 1)))] ((mk E c s (hh g)))).bind fun r1 => if r1.1.1 = 4 then none else
    Ev prog clsT X d mc223 52 [(2, 89), (0, x1), (3, 0), (3, 0), (3, 0)] (pushR r1.1 []) r1.2)) :=
  (evk_at (r := (if cmpI .ne s0 0 = true then
  (Ev prog clsT X d mc223 55 [(2, 89), (0, x1), (0, 0), (3, 0), (3, 0)] [] (mk E c s (hh g)))
else
  (if (2 : Nat) = 2 ∧ rcv ((mk E c s (hh g))) 89 13 = true then
    ((Call prog clsT X d 223 [(2, 89), (0, (w32 (x1 + 1)))] ((mk E c s (hh g)))).bind fun r1 => if r1.1.1 = 4 then none else
    Ev prog clsT X d mc223 52 [(2, 89), (0, x1), (3, 0), (3, 0), (3, 0)] (pushR r1.1 []) r1.2) else none))) X [0, 5, 9, 15, 18, 46, 52, 55, 81, 111, 139, 149] 7 rfl).trans (by simp (maxSteps := 10000000) only [R89_13, bindI, Option.bind_some, if_true_, and_self, ite_true, true_and, true_or, or_true])
set_option maxRecDepth 100000 in
theorem r223_52 (d : Nat) (x1 : Int) : Ev prog clsT X d mc223 52 [(2, 89), (0, x1), (3, 0), (3, 0), (3, 0)] [] (mk E c s (hh g)) =
  (some ((3, 0), ((mk E c s (hh g))))) :=
  (evk_at (r := (some ((3, 0), (mk E c s (hh g))))) X [0, 5, 9, 15, 18, 46, 52, 55, 81, 111, 139, 149] 2 rfl).trans (by simp (maxSteps := 10000000) only [bindI, Option.bind_some, if_true_, and_self, ite_true, true_and, true_or, or_true])
set_option maxRecDepth 100000 in
theorem r223_55 (d : Nat) (x1 x2 : Int) (w3 w4 : MV) : Ev prog clsT X d mc223 55 [(2, 89), (0, x1), (0, x2), w3, w4] [] (mk E c s (hh g)) =
  (if cmpI .ge x2 4 = true then
  (if inb x1 10 = true then
    (some ((3, 0), ((mk E c s (hh (up g 136 (Int.toNat x1) ((-1))))))))
  else none)
else
  (if inb x2 4 = true then
    (if cmpI .eq ((g 127 (Int.toNat x2))) 0 = true then
    (Ev prog clsT X d mc223 55 [(2, 89), (0, x1), (0, (w32 (x2 + 1))), (3, 0), (3, 0)] [] (mk E c s (hh g)))
  else
    (if inb x2 4 = true then
      (if cmpI .eq ((g 138 (Int.toNat x2))) ((g 89 61)) = true then
      (Ev prog clsT X d mc223 55 [(2, 89), (0, x1), (0, (w32 (x2 + 1))), (3, 0), (3, 0)] [] (mk E c s (hh g)))
    else
      (if inb x1 10 = true then
        (if cmpI .ne ((iand32 ((ishr32 ((g 141 (Int.toNat x1))) x2)) 1)) 1 = true then
        (Ev prog clsT X d mc223 81 [(2, 89), (0, x1), (0, x2), (3, 0), (3, 0)] [] (mk E c s (hh g)))
      else
        (Ev prog clsT X d mc223 55 [(2, 89), (0, x1), (0, (w32 (x2 + 1))), (3, 0), (3, 0)] [] (mk E c s (hh g))))
      else none))
    else none))
  else none)) :=
  (evk_at (r := (if cmpI .ge x2 4 = true then
  ((fget 6378 ((mk E c s (hh g))) 89).bind fun v1 =>
    (aput 100 ((mk E c s (hh g))) v1 x1 ((-1))).bind fun M2 =>
    some ((3, 0), M2))
else
  ((fget 6342 ((mk E c s (hh g))) 89).bind fun v3 =>
    (aget X 102 ((mk E c s (hh g))) v3 x2).bind fun v4 =>
    if cmpI .eq v4 0 = true then
    (Ev prog clsT X d mc223 55 [(2, 89), (0, x1), (0, (w32 (x2 + 1))), (3, 0), (3, 0)] [] (mk E c s (hh g)))
  else
    ((fget 6394 ((mk E c s (hh g))) 89).bind fun v5 =>
      (aget X 100 ((mk E c s (hh g))) v5 x2).bind fun v6 =>
      (fget 6388 ((mk E c s (hh g))) 89).bind fun v7 =>
      if cmpI .eq v6 v7 = true then
      (Ev prog clsT X d mc223 55 [(2, 89), (0, x1), (0, (w32 (x2 + 1))), (3, 0), (3, 0)] [] (mk E c s (hh g)))
    else
      ((fget 6406 ((mk E c s (hh g))) 89).bind fun v8 =>
        (aget X 100 ((mk E c s (hh g))) v8 x1).bind fun v9 =>
        if cmpI .ne ((iand32 ((ishr32 v9 x2)) 1)) 1 = true then
        (Ev prog clsT X d mc223 81 [(2, 89), (0, x1), (0, x2), (3, 0), (3, 0)] [] (mk E c s (hh g)))
      else
        (Ev prog clsT X d mc223 55 [(2, 89), (0, x1), (0, (w32 (x2 + 1))), (3, 0), (3, 0)] [] (mk E c s (hh g)))))))) X [0, 5, 9, 15, 18, 46, 52, 55, 81, 111, 139, 149] 30 rfl).trans (by simp (maxSteps := 10000000) only [↓A127, ↓A138, ↓A141, ↓F6342_89, ↓F6378_89, ↓F6388_89, ↓F6394_89, ↓F6406_89, ↓S136, bindI, Option.bind_some, if_true_, and_self, ite_true, true_and, true_or, or_true])
set_option maxRecDepth 100000 in
theorem r223_81 (d : Nat) (x1 x2 : Int) : Ev prog clsT X d mc223 81 [(2, 89), (0, x1), (0, x2), (3, 0), (3, 0)] [] (mk E c s (hh g)) =
  (if inb x2 4 = true then
  (if inb x2 4 = true then
  (if inb x2 4 = true then
  (if cmpI .ne ((g 138 (Int.toNat x2))) 0 = true then
  (if inb x1 10 = true then
    (if inb x2 4 = true then
    (Ev prog clsT X d mc223 111 [(2, 89), (0, x1), (0, x2), (0, (g 139 (Int.toNat x2))), (0, (g 140 (Int.toNat x2)))] [] (mk E c s (hh (up g 139 (Int.toNat x2) ((if (g 132 (Int.toNat x1)) < (g 139 (Int.toNat x2)) then (g 132 (Int.toNat x1)) else (g 139 (Int.toNat x2))))))))
  else none)
  else none)
else
  (if inb x1 10 = true then
    (if inb x2 4 = true then
    (Ev prog clsT X d mc223 111 [(2, 89), (0, x1), (0, x2), (0, (g 139 (Int.toNat x2))), (0, (g 140 (Int.toNat x2)))] [] (mk E c s (hh (up g 139 (Int.toNat x2) ((g 132 (Int.toNat x1)))))))
  else none)
  else none))
else none)
else none)
else none) :=
  (evk_at (r := ((fget 6398 ((mk E c s (hh g))) 89).bind fun v1 =>
  (aget X 100 ((mk E c s (hh g))) v1 x2).bind fun v2 =>
  (fget 6402 ((mk E c s (hh g))) 89).bind fun v3 =>
  (aget X 100 ((mk E c s (hh g))) v3 x2).bind fun v4 =>
  (fget 6398 ((mk E c s (hh g))) 89).bind fun v5 =>
  (fget 6394 ((mk E c s (hh g))) 89).bind fun v6 =>
  (aget X 100 ((mk E c s (hh g))) v6 x2).bind fun v7 =>
  if cmpI .ne v7 0 = true then
  ((fget 6362 ((mk E c s (hh g))) 89).bind fun v8 =>
    (aget X 100 ((mk E c s (hh g))) v8 x1).bind fun v9 =>
    (aput 100 ((mk E c s (hh g))) v5 x2 ((if v9 < v2 then v9 else v2))).bind fun M10 =>
    Ev prog clsT X d mc223 111 [(2, 89), (0, x1), (0, x2), (0, v2), (0, v4)] [] M10)
else
  ((fget 6362 ((mk E c s (hh g))) 89).bind fun v11 =>
    (aget X 100 ((mk E c s (hh g))) v11 x1).bind fun v12 =>
    (aput 100 ((mk E c s (hh g))) v5 x2 (v12)).bind fun M13 =>
    Ev prog clsT X d mc223 111 [(2, 89), (0, x1), (0, x2), (0, v2), (0, v4)] [] M13))) X [0, 5, 9, 15, 18, 46, 52, 55, 81, 111, 139, 149] 27 rfl).trans (by simp (maxSteps := 10000000) only [↓A132, ↓A138, ↓A139, ↓A140, ↓F6362_89, ↓F6394_89, ↓F6398_89, ↓F6402_89, ↓S139, bindI, Option.bind_some, if_true_, and_self, ite_true, true_and, true_or, or_true])
set_option maxRecDepth 100000 in
theorem r223_111 (d : Nat) (x1 x2 x3 x4 : Int) : Ev prog clsT X d mc223 111 [(2, 89), (0, x1), (0, x2), (0, x3), (0, x4)] [] (mk E c s (hh g)) =
  (if inb x2 4 = true then
  (if cmpI .ne ((g 138 (Int.toNat x2))) 0 = true then
  (if inb x1 10 = true then
    (if inb x2 4 = true then
    (if inb x2 4 = true then
    (if inb x2 4 = true then
    (Ev prog clsT X d mc223 139 [(2, 89), (0, x1), (0, x2), (0, x3), (0, x4)] [] (mk E c s (hh (up (up g 140 (Int.toNat x2) ((if x4 < (g 132 (Int.toNat x1)) then (g 132 (Int.toNat x1)) else x4))) 138 (Int.toNat x2) ((w32 (((g 138 (Int.toNat x2))) + 1)))))))
  else none)
  else none)
  else none)
  else none)
else
  (if inb x1 10 = true then
    (if inb x2 4 = true then
    (if inb x2 4 = true then
    (if inb x2 4 = true then
    (Ev prog clsT X d mc223 139 [(2, 89), (0, x1), (0, x2), (0, x3), (0, x4)] [] (mk E c s (hh (up (up g 140 (Int.toNat x2) ((g 132 (Int.toNat x1)))) 138 (Int.toNat x2) ((w32 (((g 138 (Int.toNat x2))) + 1)))))))
  else none)
  else none)
  else none)
  else none))
else none) :=
  (evk_at (r := ((fget 6402 ((mk E c s (hh g))) 89).bind fun v1 =>
  (fget 6394 ((mk E c s (hh g))) 89).bind fun v2 =>
  (aget X 100 ((mk E c s (hh g))) v2 x2).bind fun v3 =>
  if cmpI .ne v3 0 = true then
  ((fget 6362 ((mk E c s (hh g))) 89).bind fun v4 =>
    (aget X 100 ((mk E c s (hh g))) v4 x1).bind fun v5 =>
    (aput 100 ((mk E c s (hh g))) v1 x2 ((if x4 < v5 then v5 else x4))).bind fun M6 =>
    (fget 6394 M6 89).bind fun v7 =>
    (aget X 100 M6 v7 x2).bind fun v8 =>
    (aput 100 M6 v7 x2 ((w32 (v8 + 1)))).bind fun M9 =>
    Ev prog clsT X d mc223 139 [(2, 89), (0, x1), (0, x2), (0, x3), (0, x4)] [] M9)
else
  ((fget 6362 ((mk E c s (hh g))) 89).bind fun v10 =>
    (aget X 100 ((mk E c s (hh g))) v10 x1).bind fun v11 =>
    (aput 100 ((mk E c s (hh g))) v1 x2 (v11)).bind fun M12 =>
    (fget 6394 M12 89).bind fun v13 =>
    (aget X 100 M12 v13 x2).bind fun v14 =>
    (aput 100 M12 v13 x2 ((w32 (v14 + 1)))).bind fun M15 =>
    Ev prog clsT X d mc223 139 [(2, 89), (0, x1), (0, x2), (0, x3), (0, x4)] [] M15))) X [0, 5, 9, 15, 18, 46, 52, 55, 81, 111, 139, 149] 25 rfl).trans (by simp (maxSteps := 10000000) only [uc_140_138, ↓A132, ↓A138, ↓F6362_89, ↓F6394_89, ↓F6402_89, ↓S138, ↓S140, bindI, Option.bind_some, if_true_, and_self, ite_true, true_and, true_or, or_true])
set_option maxRecDepth 100000 in
theorem r223_139 (d : Nat) (x1 x2 x3 x4 : Int) : Ev prog clsT X d mc223 139 [(2, 89), (0, x1), (0, x2), (0, x3), (0, x4)] [] (mk E c s (hh g)) =
  (if inb x1 10 = true then
  ((Call prog clsT X d 223 [(2, 89), (0, (w32 (x1 + 1)))] ((mk E c s (hh (up g 136 (Int.toNat x1) x2))))).bind fun r1 => if r1.1.1 = 4 then none else
  Ev prog clsT X d mc223 149 [(2, 89), (0, x1), (0, x2), (0, x3), (0, x4)] (pushR r1.1 []) r1.2)
else none) :=
  (evk_at (r := ((fget 6378 ((mk E c s (hh g))) 89).bind fun v1 =>
  (aput 100 ((mk E c s (hh g))) v1 x1 (x2)).bind fun M2 =>
  if (2 : Nat) = 2 ∧ rcv M2 89 13 = true then
  ((Call prog clsT X d 223 [(2, 89), (0, (w32 (x1 + 1)))] M2).bind fun r3 => if r3.1.1 = 4 then none else
  Ev prog clsT X d mc223 149 [(2, 89), (0, x1), (0, x2), (0, x3), (0, x4)] (pushR r3.1 []) r3.2) else none)) X [0, 5, 9, 15, 18, 46, 52, 55, 81, 111, 139, 149] 11 rfl).trans (by simp (maxSteps := 10000000) only [R89_13, ↓F6378_89, ↓S136, bindI, Option.bind_some, if_true_, and_self, ite_true, true_and, true_or, or_true])
set_option maxRecDepth 100000 in
theorem r223_149 (d : Nat) (x1 x2 x3 x4 : Int) : Ev prog clsT X d mc223 149 [(2, 89), (0, x1), (0, x2), (0, x3), (0, x4)] [] (mk E c s (hh g)) =
  (if inb x2 4 = true then
  (if inb x2 4 = true then
  (if inb x2 4 = true then
  (if inb x2 4 = true then
  (Ev prog clsT X d mc223 55 [(2, 89), (0, x1), (0, (w32 (x2 + 1))), (0, x3), (0, x4)] [] (mk E c s (hh (up (up (up g 138 (Int.toNat x2) ((w32 (((g 138 (Int.toNat x2))) - 1)))) 139 (Int.toNat x2) x3) 140 (Int.toNat x2) x4))))
else none)
else none)
else none)
else none) :=
  (evk_at (r := ((fget 6394 ((mk E c s (hh g))) 89).bind fun v1 =>
  (aget X 100 ((mk E c s (hh g))) v1 x2).bind fun v2 =>
  (aput 100 ((mk E c s (hh g))) v1 x2 ((w32 (v2 - 1)))).bind fun M3 =>
  (fget 6398 M3 89).bind fun v4 =>
  (aput 100 M3 v4 x2 (x3)).bind fun M5 =>
  (fget 6402 M5 89).bind fun v6 =>
  (aput 100 M5 v6 x2 (x4)).bind fun M7 =>
  Ev prog clsT X d mc223 55 [(2, 89), (0, x1), (0, (w32 (x2 + 1))), (0, x3), (0, x4)] [] M7)) X [0, 5, 9, 15, 18, 46, 52, 55, 81, 111, 139, 149] 22 rfl).trans (by simp (maxSteps := 10000000) only [↓A138, ↓F6394_89, ↓F6398_89, ↓F6402_89, ↓S138, ↓S139, ↓S140, bindI, Option.bind_some, if_true_, and_self, ite_true, true_and, true_or, or_true])
set_option maxRecDepth 100000 in
theorem r224_0 (d : Nat) : Ev prog clsT X d mc224 0 [(2, 89), (3, 0), (3, 0)] [] (mk E c s (hh g)) =
  (Ev prog clsT X d mc224 4 [(2, 89), (0, 0), (0, 0)] [] (mk E c s (hh g))) :=
  evk_at X [0, 4] 6 rfl
set_option maxRecDepth 100000 in
theorem rc224_ (d : Nat) : Call prog clsT X (d + 1) 224 [(2, 89)] (mk E c s (hh g)) =
  (Ev prog clsT X d mc224 4 [(2, 89), (0, 0), (0, 0)] [] (mk E c s (hh g))) :=
  (show Call prog clsT X (d + 1) 224 [(2, 89)] (mk E c s (hh g)) = Ev prog clsT X d mc224 0 [(2, 89), (3, 0), (3, 0)] [] (mk E c s (hh g)) from rfl).trans (r224_0 X E c s g d  )
set_option maxRecDepth 100000 in
theorem r224_4 (d : Nat) (x1 x2 : Int) : Ev prog clsT X d mc224 4 [(2, 89), (0, x1), (0, x2)] [] (mk E c s (hh g)) =
  (if cmpI .ge x2 4 = true then
  (some ((0, x1), ((mk E c s (hh g)))))
else
  (if inb x2 4 = true then
    (if cmpI .le ((g 138 (Int.toNat x2))) 0 = true then
    (Ev prog clsT X d mc224 4 [(2, 89), (0, (w32 (x1 + 0))), (0, (w32 (x2 + 1)))] [] (mk E c s (hh g)))
  else
    (if inb x2 4 = true then
      (if inb x2 4 = true then
      (Ev prog clsT X d mc224 4 [(2, 89), (0, (w32 (x1 + ((w32 (((g 140 (Int.toNat x2))) - ((g 139 (Int.toNat x2))))))))), (0, (w32 (x2 + 1)))] [] (mk E c s (hh g)))
    else none)
    else none))
  else none)) :=
  (evk_at (r := (if cmpI .ge x2 4 = true then
  (some ((0, x1), (mk E c s (hh g))))
else
  ((fget 6394 ((mk E c s (hh g))) 89).bind fun v1 =>
    (aget X 100 ((mk E c s (hh g))) v1 x2).bind fun v2 =>
    if cmpI .le v2 0 = true then
    (Ev prog clsT X d mc224 4 [(2, 89), (0, (w32 (x1 + 0))), (0, (w32 (x2 + 1)))] [] (mk E c s (hh g)))
  else
    ((fget 6402 ((mk E c s (hh g))) 89).bind fun v3 =>
      (aget X 100 ((mk E c s (hh g))) v3 x2).bind fun v4 =>
      (fget 6398 ((mk E c s (hh g))) 89).bind fun v5 =>
      (aget X 100 ((mk E c s (hh g))) v5 x2).bind fun v6 =>
      Ev prog clsT X d mc224 4 [(2, 89), (0, (w32 (x1 + ((w32 (v4 - v6)))))), (0, (w32 (x2 + 1)))] [] (mk E c s (hh g)))))) X [0, 4] 25 rfl).trans (by simp (maxSteps := 10000000) only [↓A138, ↓A139, ↓A140, ↓F6394_89, ↓F6398_89, ↓F6402_89, bindI, Option.bind_some, if_true_, and_self, ite_true, true_and, true_or, or_true])
set_option maxRecDepth 100000 in
theorem r225_0 (d : Nat) (x1 x2 x3 : Int) : Ev prog clsT X d mc225 0 [(2, 89), (0, x1), (0, x2), (0, x3)] [] (mk E c s (hh g)) =
  ((Call prog clsT X d 152 [(0, x1), (0, 1), (0, 3)] ((mk E c s (hh (up g 89 0 0))))).bind fun r1 => if r1.1.1 = 4 then none else
  Ev prog clsT X d mc225 7 [(2, 89), (0, x1), (0, x2), (0, x3)] (pushR r1.1 []) r1.2) :=
  (evk_at (r := ((fput 6144 ((mk E c s (hh g))) 89 0).bind fun M1 =>
  (Call prog clsT X d 152 [(0, x1), (0, 1), (0, 3)] M1).bind fun r2 => if r2.1.1 = 4 then none else
  Ev prog clsT X d mc225 7 [(2, 89), (0, x1), (0, x2), (0, x3)] (pushR r2.1 []) r2.2)) X [0, 7, 12, 17] 8 rfl).trans (by simp (maxSteps := 10000000) only [↓W6144_89, bindI, Option.bind_some, if_true_, and_self, ite_true, true_and, true_or, or_true])
set_option maxRecDepth 100000 in
theorem rc225_ (d : Nat) (x1 x2 x3 : Int) : Call prog clsT X (d + 1) 225 [(2, 89), (0, x1), (0, x2), (0, x3)] (mk E c s (hh g)) =
  ((Call prog clsT X d 152 [(0, x1), (0, 1), (0, 3)] ((mk E c s (hh (up g 89 0 0))))).bind fun r1 => if r1.1.1 = 4 then none else
  Ev prog clsT X d mc225 7 [(2, 89), (0, x1), (0, x2), (0, x3)] (pushR r1.1 []) r1.2) :=
  (show Call prog clsT X (d + 1) 225 [(2, 89), (0, x1), (0, x2), (0, x3)] (mk E c s (hh g)) = Ev prog clsT X d mc225 0 [(2, 89), (0, x1), (0, x2), (0, x3)] [] (mk E c s (hh g)) from rfl).trans (r225_0 X E c s g d x1 x2 x3 )
set_option maxRecDepth 100000 in
theorem r225_7 (d : Nat) (x1 x2 x3 s0 : Int) : Ev prog clsT X d mc225 7 [(2, 89), (0, x1), (0, x2), (0, x3)] [(0, s0)] (mk E c s (hh g)) =
  (if cmpI .eq s0 0 = true then
  (some ((0, 0), ((mk E c s (hh g)))))
else
  ((Call prog clsT X d 152 [(0, x2), (0, 0), (0, 99)] ((mk E c s (hh g)))).bind fun r1 => if r1.1.1 = 4 then none else
    Ev prog clsT X d mc225 12 [(2, 89), (0, x1), (0, x2), (0, x3)] (pushR r1.1 []) r1.2)) :=
  (evk_at (r := (if cmpI .eq s0 0 = true then
  (some ((0, 0), (mk E c s (hh g))))
else
  ((Call prog clsT X d 152 [(0, x2), (0, 0), (0, 99)] ((mk E c s (hh g)))).bind fun r1 => if r1.1.1 = 4 then none else
    Ev prog clsT X d mc225 12 [(2, 89), (0, x1), (0, x2), (0, x3)] (pushR r1.1 []) r1.2))) X [0, 7, 12, 17] 6 rfl).trans (by simp (maxSteps := 10000000) only [bindI, Option.bind_some, if_true_, and_self, ite_true, true_and, true_or, or_true])
set_option maxRecDepth 100000 in
theorem r225_12 (d : Nat) (x1 x2 x3 s0 : Int) : Ev prog clsT X d mc225 12 [(2, 89), (0, x1), (0, x2), (0, x3)] [(0, s0)] (mk E c s (hh g)) =
  (if cmpI .eq s0 0 = true then
  (some ((0, 0), ((mk E c s (hh g)))))
else
  ((Call prog clsT X d 152 [(0, x3), (0, 0), (0, 999)] ((mk E c s (hh g)))).bind fun r1 => if r1.1.1 = 4 then none else
    Ev prog clsT X d mc225 17 [(2, 89), (0, x1), (0, x2), (0, x3)] (pushR r1.1 []) r1.2)) :=
  (evk_at (r := (if cmpI .eq s0 0 = true then
  (some ((0, 0), (mk E c s (hh g))))
else
  ((Call prog clsT X d 152 [(0, x3), (0, 0), (0, 999)] ((mk E c s (hh g)))).bind fun r1 => if r1.1.1 = 4 then none else
    Ev prog clsT X d mc225 17 [(2, 89), (0, x1), (0, x2), (0, x3)] (pushR r1.1 []) r1.2))) X [0, 7, 12, 17] 6 rfl).trans (by simp (maxSteps := 10000000) only [bindI, Option.bind_some, if_true_, and_self, ite_true, true_and, true_or, or_true])
set_option maxRecDepth 100000 in
theorem r225_17 (d : Nat) (x1 x2 x3 s0 : Int) : Ev prog clsT X d mc225 17 [(2, 89), (0, x1), (0, x2), (0, x3)] [(0, s0)] (mk E c s (hh g)) =
  (if cmpI .ne s0 0 = true then
  (if inb ((w32 (x1 - 1))) 3 = true then
    (if inb ((w32 (x1 - 1))) 3 = true then
    (some ((0, 1), ((mk E c s (hh (up (up g 142 (Int.toNat ((w32 (x1 - 1)))) x2) 143 (Int.toNat ((w32 (x1 - 1)))) x3))))))
  else none)
  else none)
else
  (some ((0, 0), ((mk E c s (hh g)))))) :=
  (evk_at (r := (if cmpI .ne s0 0 = true then
  ((fget 6410 ((mk E c s (hh g))) 89).bind fun v1 =>
    (aput 100 ((mk E c s (hh g))) v1 ((w32 (x1 - 1))) (x2)).bind fun M2 =>
    (fget 6414 M2 89).bind fun v3 =>
    (aput 100 M2 v3 ((w32 (x1 - 1))) (x3)).bind fun M4 =>
    some ((0, 1), M4))
else
  (some ((0, 0), (mk E c s (hh g)))))) X [0, 7, 12, 17] 18 rfl).trans (by simp (maxSteps := 10000000) only [↓F6410_89, ↓F6414_89, ↓S142, ↓S143, bindI, Option.bind_some, if_true_, and_self, ite_true, true_and, true_or, or_true])
set_option maxRecDepth 100000 in
theorem r226_0 (d : Nat) (x1 x2 : Int) : Ev prog clsT X d mc226 0 [(2, 89), (0, x1), (0, x2)] [] (mk E c s (hh g)) =
  ((Call prog clsT X d 152 [(0, x1), (0, 0), (0, 99)] ((mk E c s (hh (up g 89 0 0))))).bind fun r1 => if r1.1.1 = 4 then none else
  Ev prog clsT X d mc226 7 [(2, 89), (0, x1), (0, x2)] (pushR r1.1 []) r1.2) :=
  (evk_at (r := ((fput 6144 ((mk E c s (hh g))) 89 0).bind fun M1 =>
  (Call prog clsT X d 152 [(0, x1), (0, 0), (0, 99)] M1).bind fun r2 => if r2.1.1 = 4 then none else
  Ev prog clsT X d mc226 7 [(2, 89), (0, x1), (0, x2)] (pushR r2.1 []) r2.2)) X [0, 7, 12] 8 rfl).trans (by simp (maxSteps := 10000000) only [↓W6144_89, bindI, Option.bind_some, if_true_, and_self, ite_true, true_and, true_or, or_true])
set_option maxRecDepth 100000 in
theorem rc226_ (d : Nat) (x1 x2 : Int) : Call prog clsT X (d + 1) 226 [(2, 89), (0, x1), (0, x2)] (mk E c s (hh g)) =
  ((Call prog clsT X d 152 [(0, x1), (0, 0), (0, 99)] ((mk E c s (hh (up g 89 0 0))))).bind fun r1 => if r1.1.1 = 4 then none else
  Ev prog clsT X d mc226 7 [(2, 89), (0, x1), (0, x2)] (pushR r1.1 []) r1.2) :=
  (show Call prog clsT X (d + 1) 226 [(2, 89), (0, x1), (0, x2)] (mk E c s (hh g)) = Ev prog clsT X d mc226 0 [(2, 89), (0, x1), (0, x2)] [] (mk E c s (hh g)) from rfl).trans (r226_0 X E c s g d x1 x2 )
set_option maxRecDepth 100000 in
theorem r226_7 (d : Nat) (x1 x2 s0 : Int) : Ev prog clsT X d mc226 7 [(2, 89), (0, x1), (0, x2)] [(0, s0)] (mk E c s (hh g)) =
  (if cmpI .eq s0 0 = true then
  (some ((0, 0), ((mk E c s (hh g)))))
else
  ((Call prog clsT X d 152 [(0, x2), (0, 0), (0, 99)] ((mk E c s (hh g)))).bind fun r1 => if r1.1.1 = 4 then none else
    Ev prog clsT X d mc226 12 [(2, 89), (0, x1), (0, x2)] (pushR r1.1 []) r1.2)) :=
  (evk_at (r := (if cmpI .eq s0 0 = true then
  (some ((0, 0), (mk E c s (hh g))))
else
  ((Call prog clsT X d 152 [(0, x2), (0, 0), (0, 99)] ((mk E c s (hh g)))).bind fun r1 => if r1.1.1 = 4 then none else
    Ev prog clsT X d mc226 12 [(2, 89), (0, x1), (0, x2)] (pushR r1.1 []) r1.2))) X [0, 7, 12] 6 rfl).trans (by simp (maxSteps := 10000000) only [bindI, Option.bind_some, if_true_, and_self, ite_true, true_and, true_or, or_true])
set_option maxRecDepth 100000 in
theorem r226_12 (d : Nat) (x1 x2 s0 : Int) : Ev prog clsT X d mc226 12 [(2, 89), (0, x1), (0, x2)] [(0, s0)] (mk E c s (hh g)) =
  (if cmpI .ne s0 0 = true then
  (some ((0, 1), ((mk E c s (hh (up (up g 89 68 x1) 89 69 x2))))))
else
  (some ((0, 0), ((mk E c s (hh g)))))) :=
  (evk_at (r := (if cmpI .ne s0 0 = true then
  ((fput 6416 ((mk E c s (hh g))) 89 x1).bind fun M1 =>
    (fput 6420 M1 89 x2).bind fun M2 =>
    some ((0, 1), M2))
else
  (some ((0, 0), (mk E c s (hh g)))))) X [0, 7, 12] 10 rfl).trans (by simp (maxSteps := 10000000) only [↓W6416_89, ↓W6420_89, bindI, Option.bind_some, if_true_, and_self, ite_true, true_and, true_or, or_true])
set_option maxRecDepth 100000 in
theorem r227_0 (d : Nat) (x1 x2 : Int) : Ev prog clsT X d mc227 0 [(2, 89), (0, x1), (0, x2), (3, 0), (3, 0)] [] (mk E c s (hh g)) =
  (if cmpI .eq x1 0 = true then
  ((Call prog clsT X d 154 [(2, 89), (0, x2)] ((mk E c s (hh (up g 89 0 0))))).bind fun r1 => if r1.1.1 = 4 then none else
    Ev prog clsT X d mc227 14 [(2, 89), (0, x1), (0, x2), (3, 0), (3, 0)] (pushR r1.1 []) r1.2)
else
  ((Call prog clsT X d 152 [(0, x2), (0, 0), (0, 5)] ((mk E c s (hh (up g 89 0 0))))).bind fun r2 => if r2.1.1 = 4 then none else
    Ev prog clsT X d mc227 9 [(2, 89), (0, x1), (0, x2), (3, 0), (3, 0)] (pushR r2.1 []) r2.2)) :=
  (evk_at (r := ((fput 6144 ((mk E c s (hh g))) 89 0).bind fun M1 =>
  if cmpI .eq x1 0 = true then
  (if (2 : Nat) = 2 ∧ rcv M1 89 13 = true then
    ((Call prog clsT X d 154 [(2, 89), (0, x2)] M1).bind fun r2 => if r2.1.1 = 4 then none else
    Ev prog clsT X d mc227 14 [(2, 89), (0, x1), (0, x2), (3, 0), (3, 0)] (pushR r2.1 []) r2.2) else none)
else
  ((Call prog clsT X d 152 [(0, x2), (0, 0), (0, 5)] M1).bind fun r3 => if r3.1.1 = 4 then none else
    Ev prog clsT X d mc227 9 [(2, 89), (0, x1), (0, x2), (3, 0), (3, 0)] (pushR r3.1 []) r3.2))) X [0, 9, 14, 19, 30] 10 rfl).trans (by simp (maxSteps := 10000000) only [R89_13, ↓W6144_89, bindI, Option.bind_some, if_true_, and_self, ite_true, true_and, true_or, or_true])
set_option maxRecDepth 100000 in
theorem rc227_ (d : Nat) (x1 x2 : Int) : Call prog clsT X (d + 1) 227 [(2, 89), (0, x1), (0, x2)] (mk E c s (hh g)) =
  (if cmpI .eq x1 0 = true then
  ((Call prog clsT X d 154 [(2, 89), (0, x2)] ((mk E c s (hh (up g 89 0 0))))).bind fun r1 => if r1.1.1 = 4 then none else
    Ev prog clsT X d mc227 14 [(2, 89), (0, x1), (0, x2), (3, 0), (3, 0)] (pushR r1.1 []) r1.2)
else
  ((Call prog clsT X d 152 [(0, x2), (0, 0), (0, 5)] ((mk E c s (hh (up g 89 0 0))))).bind fun r2 => if r2.1.1 = 4 then none else
    Ev prog clsT X d mc227 9 [(2, 89), (0, x1), (0, x2), (3, 0), (3, 0)] (pushR r2.1 []) r2.2)) :=
  (show Call prog clsT X (d + 1) 227 [(2, 89), (0, x1), (0, x2)] (mk E c s (hh g)) = Ev prog clsT X d mc227 0 [(2, 89), (0, x1), (0, x2), (3, 0), (3, 0)] [] (mk E c s (hh g)) from rfl).trans (r227_0 X E c s g d x1 x2 )
set_option maxRecDepth 100000 in
theorem r227_9 (d : Nat) (x1 x2 s0 : Int) : Ev prog clsT X d mc227 9 [(2, 89), (0, x1), (0, x2), (3, 0), (3, 0)] [(0, s0)] (mk E c s (hh g)) =
  (if cmpI .ne s0 0 = true then
  ((Call prog clsT X d 228 [(2, 89)] ((mk E c s (hh g)))).bind fun r1 => if r1.1.1 = 4 then none else
    Ev prog clsT X d mc227 19 [(2, 89), (0, x1), (0, x2), (3, 0), (3, 0)] (pushR r1.1 []) r1.2)
else
  (some ((0, (-1)), ((mk E c s (hh g)))))) :=
  (evk_at (r := (if cmpI .ne s0 0 = true then
  (if (2 : Nat) = 2 ∧ rcv ((mk E c s (hh g))) 89 13 = true then
    ((Call prog clsT X d 228 [(2, 89)] ((mk E c s (hh g)))).bind fun r1 => if r1.1.1 = 4 then none else
    Ev prog clsT X d mc227 19 [(2, 89), (0, x1), (0, x2), (3, 0), (3, 0)] (pushR r1.1 []) r1.2) else none)
else
  (some ((0, (-1)), (mk E c s (hh g)))))) X [0, 9, 14, 19, 30] 5 rfl).trans (by simp (maxSteps := 10000000) only [R89_13, bindI, Option.bind_some, if_true_, and_self, ite_true, true_and, true_or, or_true])
set_option maxRecDepth 100000 in
theorem r227_14 (d : Nat) (x1 x2 s0 : Int) : Ev prog clsT X d mc227 14 [(2, 89), (0, x1), (0, x2), (3, 0), (3, 0)] [(0, s0)] (mk E c s (hh g)) =
  (if cmpI .ne s0 0 = true then
  ((Call prog clsT X d 228 [(2, 89)] ((mk E c s (hh g)))).bind fun r1 => if r1.1.1 = 4 then none else
    Ev prog clsT X d mc227 19 [(2, 89), (0, x1), (0, x2), (3, 0), (3, 0)] (pushR r1.1 []) r1.2)
else
  (some ((0, (-1)), ((mk E c s (hh g)))))) :=
  (evk_at (r := (if cmpI .ne s0 0 = true then
  (if (2 : Nat) = 2 ∧ rcv ((mk E c s (hh g))) 89 13 = true then
    ((Call prog clsT X d 228 [(2, 89)] ((mk E c s (hh g)))).bind fun r1 => if r1.1.1 = 4 then none else
    Ev prog clsT X d mc227 19 [(2, 89), (0, x1), (0, x2), (3, 0), (3, 0)] (pushR r1.1 []) r1.2) else none)
else
  (some ((0, (-1)), (mk E c s (hh g)))))) X [0, 9, 14, 19, 30] 4 rfl).trans (by simp (maxSteps := 10000000) only [R89_13, bindI, Option.bind_some, if_true_, and_self, ite_true, true_and, true_or, or_true])
set_option maxRecDepth 100000 in
theorem r227_19 (d : Nat) (x1 x2 : Int) : Ev prog clsT X d mc227 19 [(2, 89), (0, x1), (0, x2), (3, 0), (3, 0)] [] (mk E c s (hh g)) =
  (if cmpI .ne x1 0 = true then
  (Ev prog clsT X d mc227 30 [(2, 89), (0, x1), (0, x2), (0, 0), (0, 0)] [] (mk E c s (hh g)))
else
  (if inb x2 10 = true then
    (some ((0, (g 144 (Int.toNat x2))), ((mk E c s (hh g)))))
  else none)) :=
  (evk_at (r := (if cmpI .ne x1 0 = true then
  (Ev prog clsT X d mc227 30 [(2, 89), (0, x1), (0, x2), (0, 0), (0, 0)] [] (mk E c s (hh g)))
else
  ((fget 6426 ((mk E c s (hh g))) 89).bind fun v1 =>
    (aget X 100 ((mk E c s (hh g))) v1 x2).bind fun v2 =>
    some ((0, v2), (mk E c s (hh g)))))) X [0, 9, 14, 19, 30] 8 rfl).trans (by simp (maxSteps := 10000000) only [↓A144, ↓F6426_89, bindI, Option.bind_some, if_true_, and_self, ite_true, true_and, true_or, or_true])
set_option maxRecDepth 100000 in
theorem r227_30 (d : Nat) (x2 x3 x4 : Int) (w1 : MV) : Ev prog clsT X d mc227 30 [(2, 89), w1, (0, x2), (0, x3), (0, x4)] [] (mk E c s (hh g)) =
  (if cmpI .ge x4 10 = true then
  (some ((0, x3), ((mk E c s (hh g)))))
else
  (if inb x4 10 = true then
    (if cmpI .eq ((g 90 (Int.toNat x4))) 0 = true then
    (Ev prog clsT X d mc227 30 [(2, 89), (3, 0), (0, x2), (0, (w32 (x3 + 0))), (0, (w32 (x4 + 1)))] [] (mk E c s (hh g)))
  else
    (if inb x4 10 = true then
      (if cmpI .ne ((g 91 (Int.toNat x4))) x2 = true then
      (Ev prog clsT X d mc227 30 [(2, 89), (3, 0), (0, x2), (0, (w32 (x3 + 0))), (0, (w32 (x4 + 1)))] [] (mk E c s (hh g)))
    else
      (if inb x4 10 = true then
        (Ev prog clsT X d mc227 30 [(2, 89), (3, 0), (0, x2), (0, (w32 (x3 + ((g 144 (Int.toNat x4)))))), (0, (w32 (x4 + 1)))] [] (mk E c s (hh g)))
      else none))
    else none))
  else none)) :=
  (evk_at (r := (if cmpI .ge x4 10 = true then
  (some ((0, x3), (mk E c s (hh g))))
else
  ((fget 6150 ((mk E c s (hh g))) 89).bind fun v1 =>
    (aget X 102 ((mk E c s (hh g))) v1 x4).bind fun v2 =>
    if cmpI .eq v2 0 = true then
    (Ev prog clsT X d mc227 30 [(2, 89), (3, 0), (0, x2), (0, (w32 (x3 + 0))), (0, (w32 (x4 + 1)))] [] (mk E c s (hh g)))
  else
    ((fget 6154 ((mk E c s (hh g))) 89).bind fun v3 =>
      (aget X 100 ((mk E c s (hh g))) v3 x4).bind fun v4 =>
      if cmpI .ne v4 x2 = true then
      (Ev prog clsT X d mc227 30 [(2, 89), (3, 0), (0, x2), (0, (w32 (x3 + 0))), (0, (w32 (x4 + 1)))] [] (mk E c s (hh g)))
    else
      ((fget 6426 ((mk E c s (hh g))) 89).bind fun v5 =>
        (aget X 100 ((mk E c s (hh g))) v5 x4).bind fun v6 =>
        Ev prog clsT X d mc227 30 [(2, 89), (3, 0), (0, x2), (0, (w32 (x3 + v6))), (0, (w32 (x4 + 1)))] [] (mk E c s (hh g))))))) X [0, 9, 14, 19, 30] 26 rfl).trans (by simp (maxSteps := 10000000) only [↓A144, ↓A90, ↓A91, ↓F6150_89, ↓F6154_89, ↓F6426_89, bindI, Option.bind_some, if_true_, and_self, ite_true, true_and, true_or, or_true])
set_option maxRecDepth 100000 in
theorem r228_0 (d : Nat) : Ev prog clsT X d mc228 0 [(2, 89), (3, 0)] [] (mk E c s (hh g)) =
  (Ev prog clsT X d mc228 2 [(2, 89), (0, 0)] [] (mk E c s (hh g))) :=
  evk_at X [0, 2, 19, 28, 29] 4 rfl
set_option maxRecDepth 100000 in
theorem rc228_ (d : Nat) : Call prog clsT X (d + 1) 228 [(2, 89)] (mk E c s (hh g)) =
  (Ev prog clsT X d mc228 2 [(2, 89), (0, 0)] [] (mk E c s (hh g))) :=
  (show Call prog clsT X (d + 1) 228 [(2, 89)] (mk E c s (hh g)) = Ev prog clsT X d mc228 0 [(2, 89), (3, 0)] [] (mk E c s (hh g)) from rfl).trans (r228_0 X E c s g d  )
set_option maxRecDepth 100000 in
theorem r228_2 (d : Nat) (x1 : Int) : Ev prog clsT X d mc228 2 [(2, 89), (0, x1)] [] (mk E c s (hh g)) =
  (if cmpI .ge x1 10 = true then
  (Ev prog clsT X d mc228 19 [(2, 89), (0, 0)] [] (mk E c s (hh g)))
else
  (if inb x1 10 = true then
    (if inb x1 10 = true then
    (Ev prog clsT X d mc228 2 [(2, 89), (0, (w32 (x1 + 1)))] [] (mk E c s (hh (up (up g 144 (Int.toNat x1) 0) 145 (Int.toNat x1) 0))))
  else none)
  else none)) :=
  (evk_at (r := (if cmpI .ge x1 10 = true then
  (Ev prog clsT X d mc228 19 [(2, 89), (0, 0)] [] (mk E c s (hh g)))
else
  ((fget 6426 ((mk E c s (hh g))) 89).bind fun v1 =>
    (aput 100 ((mk E c s (hh g))) v1 x1 (0)).bind fun M2 =>
    (fget 6430 M2 89).bind fun v3 =>
    (aput 100 M2 v3 x1 (0)).bind fun M4 =>
    Ev prog clsT X d mc228 2 [(2, 89), (0, (w32 (x1 + 1)))] [] M4))) X [0, 2, 19, 28, 29] 17 rfl).trans (by simp (maxSteps := 10000000) only [↓F6426_89, ↓F6430_89, ↓S144, ↓S145, bindI, Option.bind_some, if_true_, and_self, ite_true, true_and, true_or, or_true])
set_option maxRecDepth 100000 in
theorem r228_19 (d : Nat) (x1 : Int) : Ev prog clsT X d mc228 19 [(2, 89), (0, x1)] [] (mk E c s (hh g)) =
  (if cmpI .ge x1 ((g 89 10)) = true then
  (some ((3, 0), ((mk E c s (hh g)))))
else
  ((Call prog clsT X d 209 [(2, 89), (0, x1)] ((mk E c s (hh g)))).bind fun r1 => if r1.1.1 = 4 then none else
    Ev prog clsT X d mc228 28 [(2, 89), (0, x1)] (pushR r1.1 [(0, x1), (2, 89)]) r1.2)) :=
  (evk_at (r := ((fget 6184 ((mk E c s (hh g))) 89).bind fun v1 =>
  if cmpI .ge x1 v1 = true then
  (some ((3, 0), (mk E c s (hh g))))
else
  (if (2 : Nat) = 2 ∧ rcv ((mk E c s (hh g))) 89 13 = true then
    ((Call prog clsT X d 209 [(2, 89), (0, x1)] ((mk E c s (hh g)))).bind fun r2 => if r2.1.1 = 4 then none else
    Ev prog clsT X d mc228 28 [(2, 89), (0, x1)] (pushR r2.1 [(0, x1), (2, 89)]) r2.2) else none))) X [0, 2, 19, 28, 29] 10 rfl).trans (by simp (maxSteps := 10000000) only [R89_13, ↓F6184_89, bindI, Option.bind_some, if_true_, and_self, ite_true, true_and, true_or, or_true])
set_option maxRecDepth 100000 in
theorem r228_28 (d : Nat) (x1 s1 s2 : Int) : Ev prog clsT X d mc228 28 [(2, 89), (0, x1)] [(0, s2), (0, s1), (2, 89)] (mk E c s (hh g)) =
  ((Call prog clsT X d 229 [(2, 89), (0, s1), (0, s2)] ((mk E c s (hh g)))).bind fun r1 => if r1.1.1 = 4 then none else
  Ev prog clsT X d mc228 29 [(2, 89), (0, x1)] (pushR r1.1 []) r1.2) :=
  (evk_at (r := (if (2 : Nat) = 2 ∧ rcv ((mk E c s (hh g))) 89 13 = true then
  ((Call prog clsT X d 229 [(2, 89), (0, s1), (0, s2)] ((mk E c s (hh g)))).bind fun r1 => if r1.1.1 = 4 then none else
  Ev prog clsT X d mc228 29 [(2, 89), (0, x1)] (pushR r1.1 []) r1.2) else none)) X [0, 2, 19, 28, 29] 2 rfl).trans (by simp (maxSteps := 10000000) only [R89_13, bindI, Option.bind_some, if_true_, and_self, ite_true, true_and, true_or, or_true])
set_option maxRecDepth 100000 in
theorem r228_29 (d : Nat) (x1 : Int) : Ev prog clsT X d mc228 29 [(2, 89), (0, x1)] [] (mk E c s (hh g)) =
  (Ev prog clsT X d mc228 19 [(2, 89), (0, (w32 (x1 + 1)))] [] (mk E c s (hh g))) :=
  evk_at X [0, 2, 19, 28, 29] 4 rfl
set_option maxRecDepth 100000 in
theorem r229_0 (d : Nat) (x1 x2 : Int) : Ev prog clsT X d mc229 0 [(2, 89), (0, x1), (0, x2)] [] (mk E c s (hh g)) =
  ((Call prog clsT X d 152 [(0, x2), (0, 1), (0, 3)] ((mk E c s (hh g)))).bind fun r1 => if r1.1.1 = 4 then none else
  Ev prog clsT X d mc229 4 [(2, 89), (0, x1), (0, x2)] (pushR r1.1 []) r1.2) :=
  evk_at X [0, 4] 5 rfl
set_option maxRecDepth 100000 in
theorem rc229_ (d : Nat) (x1 x2 : Int) : Call prog clsT X (d + 1) 229 [(2, 89), (0, x1), (0, x2)] (mk E c s (hh g)) =
  ((Call prog clsT X d 152 [(0, x2), (0, 1), (0, 3)] ((mk E c s (hh g)))).bind fun r1 => if r1.1.1 = 4 then none else
  Ev prog clsT X d mc229 4 [(2, 89), (0, x1), (0, x2)] (pushR r1.1 []) r1.2) :=
  (show Call prog clsT X (d + 1) 229 [(2, 89), (0, x1), (0, x2)] (mk E c s (hh g)) = Ev prog clsT X d mc229 0 [(2, 89), (0, x1), (0, x2)] [] (mk E c s (hh g)) from rfl).trans (r229_0 X E c s g d x1 x2 )
set_option maxRecDepth 100000 in
theorem r229_4 (d : Nat) (x1 x2 s0 : Int) : Ev prog clsT X d mc229 4 [(2, 89), (0, x1), (0, x2)] [(0, s0)] (mk E c s (hh g)) =
  (if cmpI .ne s0 0 = true then
  (if inb x1 40 = true then
    (if inb ((g 100 (Int.toNat x1))) 10 = true then
    (if inb ((w32 (x2 - 1))) 3 = true then
    (if inb ((g 100 (Int.toNat x1))) 10 = true then
    (if inb x1 40 = true then
    (if inb ((g 100 (Int.toNat x1))) 10 = true then
    (if cmpI .ne x2 1 = true then
    (if inb ((g 100 (Int.toNat x1))) 10 = true then
      (some ((3, 0), ((mk E c s (hh (up (up g 144 (Int.toNat ((g 100 (Int.toNat x1)))) ((w32 (((g 144 (Int.toNat ((g 100 (Int.toNat x1)))))) + ((g 142 (Int.toNat ((w32 (x2 - 1)))))))))) 145 (Int.toNat ((g 100 (Int.toNat x1)))) ((w32 (((g 145 (Int.toNat ((g 100 (Int.toNat x1)))))) + 0)))))))))
    else none)
  else
    (if inb ((g 100 (Int.toNat x1))) 10 = true then
      (some ((3, 0), ((mk E c s (hh (up (up g 144 (Int.toNat ((g 100 (Int.toNat x1)))) ((w32 (((g 144 (Int.toNat ((g 100 (Int.toNat x1)))))) + ((g 142 (Int.toNat ((w32 (x2 - 1)))))))))) 145 (Int.toNat ((g 100 (Int.toNat x1)))) ((w32 (((g 145 (Int.toNat ((g 100 (Int.toNat x1)))))) + 1)))))))))
    else none))
  else none)
  else none)
  else none)
  else none)
  else none)
  else none)
else
  (some ((3, 0), ((mk E c s (hh g)))))) :=
  (evk_at (r := (if cmpI .ne s0 0 = true then
  ((fget 6426 ((mk E c s (hh g))) 89).bind fun v1 =>
    (fget 6194 ((mk E c s (hh g))) 89).bind fun v2 =>
    (aget X 100 ((mk E c s (hh g))) v2 x1).bind fun v3 =>
    (aget X 100 ((mk E c s (hh g))) v1 v3).bind fun v4 =>
    (fget 6410 ((mk E c s (hh g))) 89).bind fun v5 =>
    (aget X 100 ((mk E c s (hh g))) v5 ((w32 (x2 - 1)))).bind fun v6 =>
    (aput 100 ((mk E c s (hh g))) v1 v3 ((w32 (v4 + v6)))).bind fun M7 =>
    (fget 6430 M7 89).bind fun v8 =>
    (fget 6194 M7 89).bind fun v9 =>
    (aget X 100 M7 v9 x1).bind fun v10 =>
    (aget X 100 M7 v8 v10).bind fun v11 =>
    if cmpI .ne x2 1 = true then
    ((aput 100 M7 v8 v10 ((w32 (v11 + 0)))).bind fun M12 =>
      some ((3, 0), M12))
  else
    ((aput 100 M7 v8 v10 ((w32 (v11 + 1)))).bind fun M13 =>
      some ((3, 0), M13)))
else
  (some ((3, 0), (mk E c s (hh g)))))) X [0, 4] 34 rfl).trans (by simp (maxSteps := 10000000) only [uc_144_100, uc_144_145, ↓A100, ↓A142, ↓A144, ↓A145, ↓F6194_89, ↓F6410_89, ↓F6426_89, ↓F6430_89, ↓S144, ↓S145, bindI, Option.bind_some, if_true_, and_self, ite_true, true_and, true_or, or_true])
set_option maxRecDepth 100000 in
theorem r230_0 (d : Nat) : Ev prog clsT X d mc230 0 [(2, 89)] [] (mk E c s (hh g)) =
  ((Call prog clsT X d 228 [(2, 89)] ((mk E c s (hh (up g 89 0 0))))).bind fun r1 => if r1.1.1 = 4 then none else
  Ev prog clsT X d mc230 5 [(2, 89)] (pushR r1.1 []) r1.2) :=
  (evk_at (r := ((fput 6144 ((mk E c s (hh g))) 89 0).bind fun M1 =>
  if (2 : Nat) = 2 ∧ rcv M1 89 13 = true then
  ((Call prog clsT X d 228 [(2, 89)] M1).bind fun r2 => if r2.1.1 = 4 then none else
  Ev prog clsT X d mc230 5 [(2, 89)] (pushR r2.1 []) r2.2) else none)) X [0, 5, 7] 6 rfl).trans (by simp (maxSteps := 10000000) only [R89_13, ↓W6144_89, bindI, Option.bind_some, if_true_, and_self, ite_true, true_and, true_or, or_true])
set_option maxRecDepth 100000 in
theorem rc230_ (d : Nat) : Call prog clsT X (d + 1) 230 [(2, 89)] (mk E c s (hh g)) =
  ((Call prog clsT X d 228 [(2, 89)] ((mk E c s (hh (up g 89 0 0))))).bind fun r1 => if r1.1.1 = 4 then none else
  Ev prog clsT X d mc230 5 [(2, 89)] (pushR r1.1 []) r1.2) :=
  (show Call prog clsT X (d + 1) 230 [(2, 89)] (mk E c s (hh g)) = Ev prog clsT X d mc230 0 [(2, 89)] [] (mk E c s (hh g)) from rfl).trans (r230_0 X E c s g d  )
set_option maxRecDepth 100000 in
theorem r230_5 (d : Nat) : Ev prog clsT X d mc230 5 [(2, 89)] [] (mk E c s (hh g)) =
  ((Call prog clsT X d 231 [(2, 89)] ((mk E c s (hh g)))).bind fun r1 => if r1.1.1 = 4 then none else
  Ev prog clsT X d mc230 7 [(2, 89)] (pushR r1.1 []) r1.2) :=
  (evk_at (r := (if (2 : Nat) = 2 ∧ rcv ((mk E c s (hh g))) 89 13 = true then
  ((Call prog clsT X d 231 [(2, 89)] ((mk E c s (hh g)))).bind fun r1 => if r1.1.1 = 4 then none else
  Ev prog clsT X d mc230 7 [(2, 89)] (pushR r1.1 []) r1.2) else none)) X [0, 5, 7] 3 rfl).trans (by simp (maxSteps := 10000000) only [R89_13, bindI, Option.bind_some, if_true_, and_self, ite_true, true_and, true_or, or_true])
set_option maxRecDepth 100000 in
theorem r230_7 (d : Nat) (s0 : Int) : Ev prog clsT X d mc230 7 [(2, 89)] [(0, s0)] (mk E c s (hh g)) =
  (some ((0, s0), ((mk E c s (hh g))))) :=
  (evk_at (r := (some ((0, s0), (mk E c s (hh g))))) X [0, 5, 7] 2 rfl).trans (by simp (maxSteps := 10000000) only [bindI, Option.bind_some, if_true_, and_self, ite_true, true_and, true_or, or_true])
set_option maxRecDepth 100000 in
theorem r231_0 (d : Nat) : Ev prog clsT X d mc231 0 [(2, 89), (3, 0), (3, 0), (3, 0), (3, 0)] [] (mk E c s (hh g)) =
  (Ev prog clsT X d mc231 8 [(2, 89), (0, 0), (0, 0), (0, 0), (0, 0)] [] (mk E c s (hh g))) :=
  evk_at X [0, 8, 24, 59, 75] 10 rfl
set_option maxRecDepth 100000 in
theorem rc231_ (d : Nat) : Call prog clsT X (d + 1) 231 [(2, 89)] (mk E c s (hh g)) =
  (Ev prog clsT X d mc231 8 [(2, 89), (0, 0), (0, 0), (0, 0), (0, 0)] [] (mk E c s (hh g))) :=
  (show Call prog clsT X (d + 1) 231 [(2, 89)] (mk E c s (hh g)) = Ev prog clsT X d mc231 0 [(2, 89), (3, 0), (3, 0), (3, 0), (3, 0)] [] (mk E c s (hh g)) from rfl).trans (r231_0 X E c s g d  )
set_option maxRecDepth 100000 in
theorem r231_8 (d : Nat) (x1 x2 x3 x4 : Int) : Ev prog clsT X d mc231 8 [(2, 89), (0, x1), (0, x2), (0, x3), (0, x4)] [] (mk E c s (hh g)) =
  (if cmpI .ge x4 10 = true then
  (some ((0, x1), ((mk E c s (hh g)))))
else
  (if inb x4 10 = true then
    (if cmpI .eq ((g 90 (Int.toNat x4))) 0 = true then
    (Ev prog clsT X d mc231 75 [(2, 89), (0, x1), (0, x2), (0, x3), (0, x4)] [] (mk E c s (hh g)))
  else
    (if inb x4 10 = true then
      (if cmpI .ne ((g 93 (Int.toNat x4))) 0 = true then
      (Ev prog clsT X d mc231 75 [(2, 89), (0, x1), (0, x2), (0, x3), (0, x4)] [] (mk E c s (hh g)))
    else
      (Ev prog clsT X d mc231 24 [(2, 89), (0, x1), (0, x2), (0, x3), (0, x4)] [(0, x4), (2, 144)] (mk E c s (hh g))))
    else none))
  else none)) :=
  (evk_at (r := (if cmpI .ge x4 10 = true then
  (some ((0, x1), (mk E c s (hh g))))
else
  ((fget 6150 ((mk E c s (hh g))) 89).bind fun v1 =>
    (aget X 102 ((mk E c s (hh g))) v1 x4).bind fun v2 =>
    if cmpI .eq v2 0 = true then
    (Ev prog clsT X d mc231 75 [(2, 89), (0, x1), (0, x2), (0, x3), (0, x4)] [] (mk E c s (hh g)))
  else
    ((fget 6162 ((mk E c s (hh g))) 89).bind fun v3 =>
      (aget X 102 ((mk E c s (hh g))) v3 x4).bind fun v4 =>
      if cmpI .ne v4 0 = true then
      (Ev prog clsT X d mc231 75 [(2, 89), (0, x1), (0, x2), (0, x3), (0, x4)] [] (mk E c s (hh g)))
    else
      ((fget 6426 ((mk E c s (hh g))) 89).bind fun v5 =>
        Ev prog clsT X d mc231 24 [(2, 89), (0, x1), (0, x2), (0, x3), (0, x4)] [(0, x4), (2, v5)] (mk E c s (hh g))))))) X [0, 8, 24, 59, 75] 18 rfl).trans (by simp (maxSteps := 10000000) only [↓A90, ↓A93, ↓F6150_89, ↓F6162_89, ↓F6426_89, bindI, Option.bind_some, if_true_, and_self, ite_true, true_and, true_or, or_true])
set_option maxRecDepth 100000 in
theorem r231_24 (d : Nat) (x1 x2 x3 x4 s1 : Int) : Ev prog clsT X d mc231 24 [(2, 89), (0, x1), (0, x2), (0, x3), (0, x4)] [(0, s1), (2, 144)] (mk E c s (hh g)) =
  (if inb s1 10 = true then
  (if cmpI .eq ((g 144 (Int.toNat s1))) 0 = true then
  (Ev prog clsT X d mc231 75 [(2, 89), (0, x1), (0, x2), (0, x3), (0, x4)] [] (mk E c s (hh g)))
else
  (if inb x4 10 = true then
    (if cmpI .lt ((g 144 (Int.toNat x4))) x2 = true then
    (Ev prog clsT X d mc231 75 [(2, 89), (0, x1), (0, x2), (0, x3), (0, x4)] [] (mk E c s (hh g)))
  else
    (if inb x4 10 = true then
      (if cmpI .ne ((g 144 (Int.toNat x4))) x2 = true then
      (if inb x4 10 = true then
        (if cmpI .gt ((g 144 (Int.toNat x4))) x2 = true then
        (Ev prog clsT X d mc231 59 [(2, 89), (0, 0), (0, x2), (0, x3), (0, x4)] [] (mk E c s (hh g)))
      else
        (if inb x4 10 = true then
          (if cmpI .le ((g 145 (Int.toNat x4))) x3 = true then
          (Ev prog clsT X d mc231 59 [(2, 89), (0, x1), (0, x2), (0, x3), (0, x4)] [] (mk E c s (hh g)))
        else
          (Ev prog clsT X d mc231 59 [(2, 89), (0, 0), (0, x2), (0, x3), (0, x4)] [] (mk E c s (hh g))))
        else none))
      else none)
    else
      (if inb x4 10 = true then
        (if cmpI .ge ((g 145 (Int.toNat x4))) x3 = true then
        (if inb x4 10 = true then
          (if cmpI .gt ((g 144 (Int.toNat x4))) x2 = true then
          (Ev prog clsT X d mc231 59 [(2, 89), (0, 0), (0, x2), (0, x3), (0, x4)] [] (mk E c s (hh g)))
        else
          (if inb x4 10 = true then
            (if cmpI .le ((g 145 (Int.toNat x4))) x3 = true then
            (Ev prog clsT X d mc231 59 [(2, 89), (0, x1), (0, x2), (0, x3), (0, x4)] [] (mk E c s (hh g)))
          else
            (Ev prog clsT X d mc231 59 [(2, 89), (0, 0), (0, x2), (0, x3), (0, x4)] [] (mk E c s (hh g))))
          else none))
        else none)
      else
        (Ev prog clsT X d mc231 75 [(2, 89), (0, x1), (0, x2), (0, x3), (0, x4)] [] (mk E c s (hh g))))
      else none))
    else none))
  else none))
else none) :=
  (evk_at (r := ((aget X 100 ((mk E c s (hh g))) 144 s1).bind fun v1 =>
  if cmpI .eq v1 0 = true then
  (Ev prog clsT X d mc231 75 [(2, 89), (0, x1), (0, x2), (0, x3), (0, x4)] [] (mk E c s (hh g)))
else
  ((fget 6426 ((mk E c s (hh g))) 89).bind fun v2 =>
    (aget X 100 ((mk E c s (hh g))) v2 x4).bind fun v3 =>
    if cmpI .lt v3 x2 = true then
    (Ev prog clsT X d mc231 75 [(2, 89), (0, x1), (0, x2), (0, x3), (0, x4)] [] (mk E c s (hh g)))
  else
    ((fget 6426 ((mk E c s (hh g))) 89).bind fun v4 =>
      (aget X 100 ((mk E c s (hh g))) v4 x4).bind fun v5 =>
      if cmpI .ne v5 x2 = true then
      ((fget 6426 ((mk E c s (hh g))) 89).bind fun v6 =>
        (aget X 100 ((mk E c s (hh g))) v6 x4).bind fun v7 =>
        if cmpI .gt v7 x2 = true then
        (Ev prog clsT X d mc231 59 [(2, 89), (0, 0), (0, x2), (0, x3), (0, x4)] [] (mk E c s (hh g)))
      else
        ((fget 6430 ((mk E c s (hh g))) 89).bind fun v8 =>
          (aget X 100 ((mk E c s (hh g))) v8 x4).bind fun v9 =>
          if cmpI .le v9 x3 = true then
          (Ev prog clsT X d mc231 59 [(2, 89), (0, x1), (0, x2), (0, x3), (0, x4)] [] (mk E c s (hh g)))
        else
          (Ev prog clsT X d mc231 59 [(2, 89), (0, 0), (0, x2), (0, x3), (0, x4)] [] (mk E c s (hh g)))))
    else
      ((fget 6430 ((mk E c s (hh g))) 89).bind fun v10 =>
        (aget X 100 ((mk E c s (hh g))) v10 x4).bind fun v11 =>
        if cmpI .ge v11 x3 = true then
        ((fget 6426 ((mk E c s (hh g))) 89).bind fun v12 =>
          (aget X 100 ((mk E c s (hh g))) v12 x4).bind fun v13 =>
          if cmpI .gt v13 x2 = true then
          (Ev prog clsT X d mc231 59 [(2, 89), (0, 0), (0, x2), (0, x3), (0, x4)] [] (mk E c s (hh g)))
        else
          ((fget 6430 ((mk E c s (hh g))) 89).bind fun v14 =>
            (aget X 100 ((mk E c s (hh g))) v14 x4).bind fun v15 =>
            if cmpI .le v15 x3 = true then
            (Ev prog clsT X d mc231 59 [(2, 89), (0, x1), (0, x2), (0, x3), (0, x4)] [] (mk E c s (hh g)))
          else
            (Ev prog clsT X d mc231 59 [(2, 89), (0, 0), (0, x2), (0, x3), (0, x4)] [] (mk E c s (hh g)))))
      else
        (Ev prog clsT X d mc231 75 [(2, 89), (0, x1), (0, x2), (0, x3), (0, x4)] [] (mk E c s (hh g)))))))) X [0, 8, 24, 59, 75] 36 rfl).trans (by simp (maxSteps := 10000000) only [↓A144, ↓A145, ↓F6426_89, ↓F6430_89, bindI, Option.bind_some, if_true_, and_self, ite_true, true_and, true_or, or_true])
set_option maxRecDepth 100000 in
theorem r231_59 (d : Nat) (x1 x2 x3 x4 : Int) : Ev prog clsT X d mc231 59 [(2, 89), (0, x1), (0, x2), (0, x3), (0, x4)] [] (mk E c s (hh g)) =
  (if inb x4 10 = true then
  (if inb x4 10 = true then
  (Ev prog clsT X d mc231 75 [(2, 89), (0, (ior32 x1 ((ishl32 1 x4)))), (0, (g 144 (Int.toNat x4))), (0, (g 145 (Int.toNat x4))), (0, x4)] [] (mk E c s (hh g)))
else none)
else none) :=
  (evk_at (r := ((fget 6426 ((mk E c s (hh g))) 89).bind fun v1 =>
  (aget X 100 ((mk E c s (hh g))) v1 x4).bind fun v2 =>
  (fget 6430 ((mk E c s (hh g))) 89).bind fun v3 =>
  (aget X 100 ((mk E c s (hh g))) v3 x4).bind fun v4 =>
  Ev prog clsT X d mc231 75 [(2, 89), (0, (ior32 x1 ((ishl32 1 x4)))), (0, v2), (0, v4), (0, x4)] [] (mk E c s (hh g)))) X [0, 8, 24, 59, 75] 18 rfl).trans (by simp (maxSteps := 10000000) only [↓A144, ↓A145, ↓F6426_89, ↓F6430_89, bindI, Option.bind_some, if_true_, and_self, ite_true, true_and, true_or, or_true])
set_option maxRecDepth 100000 in
theorem r231_75 (d : Nat) (x1 x2 x3 x4 : Int) : Ev prog clsT X d mc231 75 [(2, 89), (0, x1), (0, x2), (0, x3), (0, x4)] [] (mk E c s (hh g)) =
  (Ev prog clsT X d mc231 8 [(2, 89), (0, x1), (0, x2), (0, x3), (0, (w32 (x4 + 1)))] [] (mk E c s (hh g))) :=
  evk_at X [0, 8, 24, 59, 75] 4 rfl
set_option maxRecDepth 100000 in
theorem r232_0 (d : Nat) (x1 : Int) : Ev prog clsT X d mc232 0 [(2, 89), (0, x1)] [] (mk E c s (hh g)) =
  ((Call prog clsT X d 154 [(2, 89), (0, x1)] ((mk E c s (hh (up g 89 0 0))))).bind fun r1 => if r1.1.1 = 4 then none else
  Ev prog clsT X d mc232 6 [(2, 89), (0, x1)] (pushR r1.1 []) r1.2) :=
  (evk_at (r := ((fput 6144 ((mk E c s (hh g))) 89 0).bind fun M1 =>
  if (2 : Nat) = 2 ∧ rcv M1 89 13 = true then
  ((Call prog clsT X d 154 [(2, 89), (0, x1)] M1).bind fun r2 => if r2.1.1 = 4 then none else
  Ev prog clsT X d mc232 6 [(2, 89), (0, x1)] (pushR r2.1 []) r2.2) else none)) X [0, 6, 9, 14, 20] 7 rfl).trans (by simp (maxSteps := 10000000) only [R89_13, ↓W6144_89, bindI, Option.bind_some, if_true_, and_self, ite_true, true_and, true_or, or_true])
set_option maxRecDepth 100000 in
theorem rc232_ (d : Nat) (x1 : Int) : Call prog clsT X (d + 1) 232 [(2, 89), (0, x1)] (mk E c s (hh g)) =
  ((Call prog clsT X d 154 [(2, 89), (0, x1)] ((mk E c s (hh (up g 89 0 0))))).bind fun r1 => if r1.1.1 = 4 then none else
  Ev prog clsT X d mc232 6 [(2, 89), (0, x1)] (pushR r1.1 []) r1.2) :=
  (show Call prog clsT X (d + 1) 232 [(2, 89), (0, x1)] (mk E c s (hh g)) = Ev prog clsT X d mc232 0 [(2, 89), (0, x1)] [] (mk E c s (hh g)) from rfl).trans (r232_0 X E c s g d x1 )
set_option maxRecDepth 100000 in
theorem r232_6 (d : Nat) (x1 s0 : Int) : Ev prog clsT X d mc232 6 [(2, 89), (0, x1)] [(0, s0)] (mk E c s (hh g)) =
  (if cmpI .eq s0 0 = true then
  (some ((0, (-1)), ((mk E c s (hh g)))))
else
  ((Call prog clsT X d 233 [(2, 89)] ((mk E c s (hh g)))).bind fun r1 => if r1.1.1 = 4 then none else
    Ev prog clsT X d mc232 9 [(2, 89), (0, x1)] (pushR r1.1 []) r1.2)) :=
  (evk_at (r := (if cmpI .eq s0 0 = true then
  (some ((0, (-1)), (mk E c s (hh g))))
else
  (if (2 : Nat) = 2 ∧ rcv ((mk E c s (hh g))) 89 13 = true then
    ((Call prog clsT X d 233 [(2, 89)] ((mk E c s (hh g)))).bind fun r1 => if r1.1.1 = 4 then none else
    Ev prog clsT X d mc232 9 [(2, 89), (0, x1)] (pushR r1.1 []) r1.2) else none))) X [0, 6, 9, 14, 20] 4 rfl).trans (by simp (maxSteps := 10000000) only [R89_13, bindI, Option.bind_some, if_true_, and_self, ite_true, true_and, true_or, or_true])
set_option maxRecDepth 100000 in
theorem r232_9 (d : Nat) (x1 s0 : Int) : Ev prog clsT X d mc232 9 [(2, 89), (0, x1)] [(0, s0)] (mk E c s (hh g)) =
  (if cmpI .ne s0 0 = true then
  ((Call prog clsT X d 228 [(2, 89)] ((mk E c s (hh g)))).bind fun r1 => if r1.1.1 = 4 then none else
    Ev prog clsT X d mc232 14 [(2, 89), (0, x1)] (pushR r1.1 []) r1.2)
else
  (some ((0, (-1)), ((mk E c s (hh g)))))) :=
  (evk_at (r := (if cmpI .ne s0 0 = true then
  (if (2 : Nat) = 2 ∧ rcv ((mk E c s (hh g))) 89 13 = true then
    ((Call prog clsT X d 228 [(2, 89)] ((mk E c s (hh g)))).bind fun r1 => if r1.1.1 = 4 then none else
    Ev prog clsT X d mc232 14 [(2, 89), (0, x1)] (pushR r1.1 []) r1.2) else none)
else
  (some ((0, (-1)), (mk E c s (hh g)))))) X [0, 6, 9, 14, 20] 4 rfl).trans (by simp (maxSteps := 10000000) only [R89_13, bindI, Option.bind_some, if_true_, and_self, ite_true, true_and, true_or, or_true])
set_option maxRecDepth 100000 in
theorem r232_14 (d : Nat) (x1 : Int) : Ev prog clsT X d mc232 14 [(2, 89), (0, x1)] [] (mk E c s (hh g)) =
  ((Call prog clsT X d 234 [(2, 89), (0, x1), (0, 0), (0, 0), (0, 0)] ((mk E c s (hh g)))).bind fun r1 => if r1.1.1 = 4 then none else
  Ev prog clsT X d mc232 20 [(2, 89), (0, x1)] (pushR r1.1 []) r1.2) :=
  (evk_at (r := (if (2 : Nat) = 2 ∧ rcv ((mk E c s (hh g))) 89 13 = true then
  ((Call prog clsT X d 234 [(2, 89), (0, x1), (0, 0), (0, 0), (0, 0)] ((mk E c s (hh g)))).bind fun r1 => if r1.1.1 = 4 then none else
  Ev prog clsT X d mc232 20 [(2, 89), (0, x1)] (pushR r1.1 []) r1.2) else none)) X [0, 6, 9, 14, 20] 7 rfl).trans (by simp (maxSteps := 10000000) only [R89_13, bindI, Option.bind_some, if_true_, and_self, ite_true, true_and, true_or, or_true])
set_option maxRecDepth 100000 in
theorem r232_20 (d : Nat) (x1 s0 : Int) : Ev prog clsT X d mc232 20 [(2, 89), (0, x1)] [(0, s0)] (mk E c s (hh g)) =
  (if cmpI .eq s0 0 = true then
  (some ((0, 0), ((mk E c s (hh g)))))
else
  (some ((0, 1), ((mk E c s (hh g)))))) :=
  (evk_at (r := (if cmpI .eq s0 0 = true then
  (some ((0, 0), (mk E c s (hh g))))
else
  (some ((0, 1), (mk E c s (hh g)))))) X [0, 6, 9, 14, 20] 5 rfl).trans (by simp (maxSteps := 10000000) only [bindI, Option.bind_some, if_true_, and_self, ite_true, true_and, true_or, or_true])
set_option maxRecDepth 100000 in
theorem r233_0 (d : Nat) : Ev prog clsT X d mc233 0 [(2, 89), (3, 0), (3, 0), (3, 0)] [] (mk E c s (hh g)) =
  (Ev prog clsT X d mc233 5 [(2, 89), (0, 0), (3, 0), (3, 0)] [] (mk E c s (hh (up g 89 72 0)))) :=
  (evk_at (r := ((fput 6432 ((mk E c s (hh g))) 89 0).bind fun M1 =>
  Ev prog clsT X d mc233 5 [(2, 89), (0, 0), (3, 0), (3, 0)] [] M1)) X [0, 5, 23, 36] 7 rfl).trans (by simp (maxSteps := 10000000) only [↓W6432_89, bindI, Option.bind_some, if_true_, and_self, ite_true, true_and, true_or, or_true])
set_option maxRecDepth 100000 in
theorem rc233_ (d : Nat) : Call prog clsT X (d + 1) 233 [(2, 89)] (mk E c s (hh g)) =
  (Ev prog clsT X d mc233 5 [(2, 89), (0, 0), (3, 0), (3, 0)] [] (mk E c s (hh (up g 89 72 0)))) :=
  (show Call prog clsT X (d + 1) 233 [(2, 89)] (mk E c s (hh g)) = Ev prog clsT X d mc233 0 [(2, 89), (3, 0), (3, 0), (3, 0)] [] (mk E c s (hh g)) from rfl).trans (r233_0 X E c s g d  )
set_option maxRecDepth 100000 in
theorem r233_5 (d : Nat) (x1 : Int) (w2 w3 : MV) : Ev prog clsT X d mc233 5 [(2, 89), (0, x1), w2, w3] [] (mk E c s (hh g)) =
  (if cmpI .ge x1 10 = true then
  (some ((0, 1), ((mk E c s (hh g)))))
else
  (if inb x1 10 = true then
    (if cmpI .eq ((g 106 (Int.toNat x1))) 0 = true then
    (Ev prog clsT X d mc233 5 [(2, 89), (0, (w32 (x1 + 1))), (3, 0), (3, 0)] [] (mk E c s (hh g)))
  else
    (if inb x1 10 = true then
      (if cmpI .lt ((g 130 (Int.toNat x1))) 0 = true then
      (Ev prog clsT X d mc233 23 [(2, 89), (0, x1), (0, 0), (0, 0)] [] (mk E c s (hh g)))
    else
      (Ev prog clsT X d mc233 5 [(2, 89), (0, (w32 (x1 + 1))), (3, 0), (3, 0)] [] (mk E c s (hh g))))
    else none))
  else none)) :=
  (evk_at (r := (if cmpI .ge x1 10 = true then
  (some ((0, 1), (mk E c s (hh g))))
else
  ((fget 6250 ((mk E c s (hh g))) 89).bind fun v1 =>
    (aget X 102 ((mk E c s (hh g))) v1 x1).bind fun v2 =>
    if cmpI .eq v2 0 = true then
    (Ev prog clsT X d mc233 5 [(2, 89), (0, (w32 (x1 + 1))), (3, 0), (3, 0)] [] (mk E c s (hh g)))
  else
    ((fget 6354 ((mk E c s (hh g))) 89).bind fun v3 =>
      (aget X 100 ((mk E c s (hh g))) v3 x1).bind fun v4 =>
      if cmpI .lt v4 0 = true then
      (Ev prog clsT X d mc233 23 [(2, 89), (0, x1), (0, 0), (0, 0)] [] (mk E c s (hh g)))
    else
      (Ev prog clsT X d mc233 5 [(2, 89), (0, (w32 (x1 + 1))), (3, 0), (3, 0)] [] (mk E c s (hh g))))))) X [0, 5, 23, 36] 19 rfl).trans (by simp (maxSteps := 10000000) only [↓A106, ↓A130, ↓F6250_89, ↓F6354_89, bindI, Option.bind_some, if_true_, and_self, ite_true, true_and, true_or, or_true])
set_option maxRecDepth 100000 in
theorem r233_23 (d : Nat) (x1 x2 x3 : Int) : Ev prog clsT X d mc233 23 [(2, 89), (0, x1), (0, x2), (0, x3)] [] (mk E c s (hh g)) =
  (if cmpI .ge x3 ((g 89 10)) = true then
  (if cmpI .ne x2 0 = true then
    (if inb ((g 89 72)) 3 = true then
      (Ev prog clsT X d mc233 5 [(2, 89), (0, (w32 (x1 + 1))), (0, x2), (0, x3)] [] (mk E c s (hh (up (up g 146 (Int.toNat ((g 89 72))) x2) 89 72 ((w32 (((g 89 72)) + 1)))))))
    else none)
  else
    (Ev prog clsT X d mc233 5 [(2, 89), (0, (w32 (x1 + 1))), (0, x2), (0, x3)] [] (mk E c s (hh g))))
else
  (if inb x3 40 = true then
    (if cmpI .ne ((g 99 (Int.toNat x3))) x1 = true then
    (Ev prog clsT X d mc233 23 [(2, 89), (0, x1), (0, x2), (0, (w32 (x3 + 1)))] [] (mk E c s (hh g)))
  else
    ((Call prog clsT X d 211 [(2, 89), (0, x3)] ((mk E c s (hh g)))).bind fun r1 => if r1.1.1 = 4 then none else
      Ev prog clsT X d mc233 36 [(2, 89), (0, x1), (0, x2), (0, x3)] (pushR r1.1 []) r1.2))
  else none)) :=
  (evk_at (r := ((fget 6184 ((mk E c s (hh g))) 89).bind fun v1 =>
  if cmpI .ge x3 v1 = true then
  (if cmpI .ne x2 0 = true then
    ((fget 6438 ((mk E c s (hh g))) 89).bind fun v2 =>
      (fget 6432 ((mk E c s (hh g))) 89).bind fun v3 =>
      (aput 100 ((mk E c s (hh g))) v2 v3 (x2)).bind fun M4 =>
      (fget 6432 M4 89).bind fun v5 =>
      (fput 6432 M4 89 ((w32 (v5 + 1)))).bind fun M6 =>
      Ev prog clsT X d mc233 5 [(2, 89), (0, (w32 (x1 + 1))), (0, x2), (0, x3)] [] M6)
  else
    (Ev prog clsT X d mc233 5 [(2, 89), (0, (w32 (x1 + 1))), (0, x2), (0, x3)] [] (mk E c s (hh g))))
else
  ((fget 6190 ((mk E c s (hh g))) 89).bind fun v7 =>
    (aget X 100 ((mk E c s (hh g))) v7 x3).bind fun v8 =>
    if cmpI .ne v8 x1 = true then
    (Ev prog clsT X d mc233 23 [(2, 89), (0, x1), (0, x2), (0, (w32 (x3 + 1)))] [] (mk E c s (hh g)))
  else
    (if (2 : Nat) = 2 ∧ rcv ((mk E c s (hh g))) 89 13 = true then
      ((Call prog clsT X d 211 [(2, 89), (0, x3)] ((mk E c s (hh g)))).bind fun r9 => if r9.1.1 = 4 then none else
      Ev prog clsT X d mc233 36 [(2, 89), (0, x1), (0, x2), (0, x3)] (pushR r9.1 []) r9.2) else none)))) X [0, 5, 23, 36] 22 rfl).trans (by simp (maxSteps := 10000000) only [R89_13, uc_146_89, ↓A99, ↓F6184_89, ↓F6190_89, ↓F6432_89, ↓F6438_89, ↓S146, ↓W6432_89, bindI, Option.bind_some, if_true_, and_self, ite_true, true_and, true_or, or_true])
set_option maxRecDepth 100000 in
theorem r233_36 (d : Nat) (x1 x2 x3 s0 : Int) : Ev prog clsT X d mc233 36 [(2, 89), (0, x1), (0, x2), (0, x3)] [(0, s0)] (mk E c s (hh g)) =
  (if cmpI .ne s0 0 = true then
  (if cmpI .eq ((g 89 72)) 3 = true then
    (some ((0, 0), ((mk E c s (hh g)))))
  else
    (if cmpI .ne x2 5 = true then
      (if inb ((w32 (((w32 (5 * ((g 89 72))))) + x2))) 15 = true then
        (Ev prog clsT X d mc233 23 [(2, 89), (0, x1), (0, (w32 (x2 + 1))), (0, (w32 (x3 + 1)))] [] (mk E c s (hh (up g 147 (Int.toNat ((w32 (((w32 (5 * ((g 89 72))))) + x2)))) x3))))
      else none)
    else
      (some ((0, 0), ((mk E c s (hh g)))))))
else
  (Ev prog clsT X d mc233 23 [(2, 89), (0, x1), (0, x2), (0, (w32 (x3 + 1)))] [] (mk E c s (hh g)))) :=
  (evk_at (r := (if cmpI .ne s0 0 = true then
  ((fget 6432 ((mk E c s (hh g))) 89).bind fun v1 =>
    if cmpI .eq v1 3 = true then
    (some ((0, 0), (mk E c s (hh g))))
  else
    (if cmpI .ne x2 5 = true then
      ((fget 6442 ((mk E c s (hh g))) 89).bind fun v2 =>
        (fget 6432 ((mk E c s (hh g))) 89).bind fun v3 =>
        (aput 100 ((mk E c s (hh g))) v2 ((w32 (((w32 (5 * v3))) + x2))) (x3)).bind fun M4 =>
        Ev prog clsT X d mc233 23 [(2, 89), (0, x1), (0, (w32 (x2 + 1))), (0, (w32 (x3 + 1)))] [] M4)
    else
      (some ((0, 0), (mk E c s (hh g))))))
else
  (Ev prog clsT X d mc233 23 [(2, 89), (0, x1), (0, x2), (0, (w32 (x3 + 1)))] [] (mk E c s (hh g))))) X [0, 5, 23, 36] 23 rfl).trans (by simp (maxSteps := 10000000) only [↓F6432_89, ↓F6442_89, ↓S147, bindI, Option.bind_some, if_true_, and_self, ite_true, true_and, true_or, or_true])
set_option maxRecDepth 100000 in
theorem r234_0 (d : Nat) (x1 x2 x3 x4 : Int) : Ev prog clsT X d mc234 0 [(2, 89), (0, x1), (0, x2), (0, x3), (0, x4), (3, 0), (3, 0), (3, 0)] [] (mk E c s (hh g)) =
  (if cmpI .ne x2 ((g 89 72)) = true then
  (if cmpI .eq x3 3 = true then
    ((Call prog clsT X d 234 [(2, 89), (0, x1), (0, (w32 (x2 + 1))), (0, 0), (0, 0)] ((mk E c s (hh g)))).bind fun r1 => if r1.1.1 = 4 then none else
      Ev prog clsT X d mc234 33 [(2, 89), (0, x1), (0, x2), (0, x3), (0, x4), (3, 0), (3, 0), (3, 0)] (pushR r1.1 []) r1.2)
  else
    (if inb x2 3 = true then
      (if cmpI .ne x3 ((g 146 (Int.toNat x2))) = true then
      (Ev prog clsT X d mc234 36 [(2, 89), (0, x1), (0, x2), (0, x3), (0, x4), (0, 0), (3, 0), (3, 0)] [] (mk E c s (hh g)))
    else
      ((Call prog clsT X d 234 [(2, 89), (0, x1), (0, (w32 (x2 + 1))), (0, 0), (0, 0)] ((mk E c s (hh g)))).bind fun r2 => if r2.1.1 = 4 then none else
        Ev prog clsT X d mc234 33 [(2, 89), (0, x1), (0, x2), (0, x3), (0, x4), (3, 0), (3, 0), (3, 0)] (pushR r2.1 []) r2.2))
    else none))
else
  ((Call prog clsT X d 231 [(2, 89)] ((mk E c s (hh g)))).bind fun r3 => if r3.1.1 = 4 then none else
    Ev prog clsT X d mc234 6 [(2, 89), (0, x1), (0, x2), (0, x3), (0, x4), (3, 0), (3, 0), (3, 0)] (pushR r3.1 []) r3.2)) :=
  (evk_at (r := ((fget 6432 ((mk E c s (hh g))) 89).bind fun v1 =>
  if cmpI .ne x2 v1 = true then
  (if cmpI .eq x3 3 = true then
    (if (2 : Nat) = 2 ∧ rcv ((mk E c s (hh g))) 89 13 = true then
      ((Call prog clsT X d 234 [(2, 89), (0, x1), (0, (w32 (x2 + 1))), (0, 0), (0, 0)] ((mk E c s (hh g)))).bind fun r2 => if r2.1.1 = 4 then none else
      Ev prog clsT X d mc234 33 [(2, 89), (0, x1), (0, x2), (0, x3), (0, x4), (3, 0), (3, 0), (3, 0)] (pushR r2.1 []) r2.2) else none)
  else
    ((fget 6438 ((mk E c s (hh g))) 89).bind fun v3 =>
      (aget X 100 ((mk E c s (hh g))) v3 x2).bind fun v4 =>
      if cmpI .ne x3 v4 = true then
      (Ev prog clsT X d mc234 36 [(2, 89), (0, x1), (0, x2), (0, x3), (0, x4), (0, 0), (3, 0), (3, 0)] [] (mk E c s (hh g)))
    else
      (if (2 : Nat) = 2 ∧ rcv ((mk E c s (hh g))) 89 13 = true then
        ((Call prog clsT X d 234 [(2, 89), (0, x1), (0, (w32 (x2 + 1))), (0, 0), (0, 0)] ((mk E c s (hh g)))).bind fun r5 => if r5.1.1 = 4 then none else
        Ev prog clsT X d mc234 33 [(2, 89), (0, x1), (0, x2), (0, x3), (0, x4), (3, 0), (3, 0), (3, 0)] (pushR r5.1 []) r5.2) else none)))
else
  (if (2 : Nat) = 2 ∧ rcv ((mk E c s (hh g))) 89 13 = true then
    ((Call prog clsT X d 231 [(2, 89)] ((mk E c s (hh g)))).bind fun r6 => if r6.1.1 = 4 then none else
    Ev prog clsT X d mc234 6 [(2, 89), (0, x1), (0, x2), (0, x3), (0, x4), (3, 0), (3, 0), (3, 0)] (pushR r6.1 []) r6.2) else none))) X [0, 6, 33, 36, 65, 77, 84] 22 rfl).trans (by simp (maxSteps := 10000000) only [R89_13, ↓A146, ↓F6432_89, ↓F6438_89, bindI, Option.bind_some, if_true_, and_self, ite_true, true_and, true_or, or_true])
set_option maxRecDepth 100000 in
theorem rc234_ (d : Nat) (x1 x2 x3 x4 : Int) : Call prog clsT X (d + 1) 234 [(2, 89), (0, x1), (0, x2), (0, x3), (0, x4)] (mk E c s (hh g)) =
  (if cmpI .ne x2 ((g 89 72)) = true then
  (if cmpI .eq x3 3 = true then
    ((Call prog clsT X d 234 [(2, 89), (0, x1), (0, (w32 (x2 + 1))), (0, 0), (0, 0)] ((mk E c s (hh g)))).bind fun r1 => if r1.1.1 = 4 then none else
      Ev prog clsT X d mc234 33 [(2, 89), (0, x1), (0, x2), (0, x3), (0, x4), (3, 0), (3, 0), (3, 0)] (pushR r1.1 []) r1.2)
  else
    (if inb x2 3 = true then
      (if cmpI .ne x3 ((g 146 (Int.toNat x2))) = true then
      (Ev prog clsT X d mc234 36 [(2, 89), (0, x1), (0, x2), (0, x3), (0, x4), (0, 0), (3, 0), (3, 0)] [] (mk E c s (hh g)))
    else
      ((Call prog clsT X d 234 [(2, 89), (0, x1), (0, (w32 (x2 + 1))), (0, 0), (0, 0)] ((mk E c s (hh g)))).bind fun r2 => if r2.1.1 = 4 then none else
        Ev prog clsT X d mc234 33 [(2, 89), (0, x1), (0, x2), (0, x3), (0, x4), (3, 0), (3, 0), (3, 0)] (pushR r2.1 []) r2.2))
    else none))
else
  ((Call prog clsT X d 231 [(2, 89)] ((mk E c s (hh g)))).bind fun r3 => if r3.1.1 = 4 then none else
    Ev prog clsT X d mc234 6 [(2, 89), (0, x1), (0, x2), (0, x3), (0, x4), (3, 0), (3, 0), (3, 0)] (pushR r3.1 []) r3.2)) :=
  (show Call prog clsT X (d + 1) 234 [(2, 89), (0, x1), (0, x2), (0, x3), (0, x4)] (mk E c s (hh g)) = Ev prog clsT X d mc234 0 [(2, 89), (0, x1), (0, x2), (0, x3), (0, x4), (3, 0), (3, 0), (3, 0)] [] (mk E c s (hh g)) from rfl).trans (r234_0 X E c s g d x1 x2 x3 x4 )
set_option maxRecDepth 100000 in
theorem r234_6 (d : Nat) (x1 x2 x3 x4 s0 : Int) : Ev prog clsT X d mc234 6 [(2, 89), (0, x1), (0, x2), (0, x3), (0, x4), (3, 0), (3, 0), (3, 0)] [(0, s0)] (mk E c s (hh g)) =
  (if cmpI .ne ((iand32 ((ishr32 s0 x1)) 1)) 1 = true then
  (some ((0, 0), ((mk E c s (hh g)))))
else
  (some ((0, 1), ((mk E c s (hh g)))))) :=
  (evk_at (r := (if cmpI .ne ((iand32 ((ishr32 s0 x1)) 1)) 1 = true then
  (some ((0, 0), (mk E c s (hh g))))
else
  (some ((0, 1), (mk E c s (hh g)))))) X [0, 6, 33, 36, 65, 77, 84] 10 rfl).trans (by simp (maxSteps := 10000000) only [bindI, Option.bind_some, if_true_, and_self, ite_true, true_and, true_or, or_true])
set_option maxRecDepth 100000 in
theorem r234_33 (d : Nat) (x1 x2 x3 x4 s0 : Int) : Ev prog clsT X d mc234 33 [(2, 89), (0, x1), (0, x2), (0, x3), (0, x4), (3, 0), (3, 0), (3, 0)] [(0, s0)] (mk E c s (hh g)) =
  (if (0 : Nat) = 0 ∧ one01 s0 = true then some ((0, s0), ((mk E c s (hh g)))) else none) :=
  (evk_at (r := (if (0 : Nat) = 0 ∧ one01 s0 = true then some ((0, s0), (mk E c s (hh g))) else none)) X [0, 6, 33, 36, 65, 77, 84] 2 rfl).trans (by simp (maxSteps := 10000000) only [bindI, Option.bind_some, if_true_, and_self, ite_true, true_and, true_or, or_true])
set_option maxRecDepth 100000 in
theorem r234_36 (d : Nat) (x1 x2 x3 x4 x5 : Int) (w6 w7 : MV) : Ev prog clsT X d mc234 36 [(2, 89), (0, x1), (0, x2), (0, x3), (0, x4), (0, x5), w6, w7] [] (mk E c s (hh g)) =
  (if inb x2 3 = true then
  (if cmpI .ge x5 ((g 146 (Int.toNat x2))) = true then
  (some ((0, 0), ((mk E c s (hh g)))))
else
  (if cmpI .ne ((iand32 ((ishr32 x4 x5)) 1)) 1 = true then
    (if inb ((w32 (((w32 (5 * x2))) + x5))) 15 = true then
      ((Call prog clsT X d 229 [(2, 89), (0, (g 147 (Int.toNat ((w32 (((w32 (5 * x2))) + x5)))))), (0, (w32 (x3 + 1)))] ((mk E c s (hh g)))).bind fun r1 => if r1.1.1 = 4 then none else
      Ev prog clsT X d mc234 65 [(2, 89), (0, x1), (0, x2), (0, x3), (0, x4), (0, x5), (0, (g 147 (Int.toNat ((w32 (((w32 (5 * x2))) + x5)))))), (3, 0)] (pushR r1.1 []) r1.2)
    else none)
  else
    (Ev prog clsT X d mc234 36 [(2, 89), (0, x1), (0, x2), (0, x3), (0, x4), (0, (w32 (x5 + 1))), (3, 0), (3, 0)] [] (mk E c s (hh g)))))
else none) :=
  (evk_at (r := ((fget 6438 ((mk E c s (hh g))) 89).bind fun v1 =>
  (aget X 100 ((mk E c s (hh g))) v1 x2).bind fun v2 =>
  if cmpI .ge x5 v2 = true then
  (some ((0, 0), (mk E c s (hh g))))
else
  (if cmpI .ne ((iand32 ((ishr32 x4 x5)) 1)) 1 = true then
    ((fget 6442 ((mk E c s (hh g))) 89).bind fun v3 =>
      (aget X 100 ((mk E c s (hh g))) v3 ((w32 (((w32 (5 * x2))) + x5)))).bind fun v4 =>
      if (2 : Nat) = 2 ∧ rcv ((mk E c s (hh g))) 89 13 = true then
      ((Call prog clsT X d 229 [(2, 89), (0, v4), (0, (w32 (x3 + 1)))] ((mk E c s (hh g)))).bind fun r5 => if r5.1.1 = 4 then none else
      Ev prog clsT X d mc234 65 [(2, 89), (0, x1), (0, x2), (0, x3), (0, x4), (0, x5), (0, v4), (3, 0)] (pushR r5.1 []) r5.2) else none)
  else
    (Ev prog clsT X d mc234 36 [(2, 89), (0, x1), (0, x2), (0, x3), (0, x4), (0, (w32 (x5 + 1))), (3, 0), (3, 0)] [] (mk E c s (hh g)))))) X [0, 6, 33, 36, 65, 77, 84] 29 rfl).trans (by simp (maxSteps := 10000000) only [R89_13, ↓A146, ↓A147, ↓F6438_89, ↓F6442_89, bindI, Option.bind_some, if_true_, and_self, ite_true, true_and, true_or, or_true])
set_option maxRecDepth 100000 in
theorem r234_65 (d : Nat) (x1 x2 x3 x4 x5 x6 : Int) : Ev prog clsT X d mc234 65 [(2, 89), (0, x1), (0, x2), (0, x3), (0, x4), (0, x5), (0, x6), (3, 0)] [] (mk E c s (hh g)) =
  ((Call prog clsT X d 234 [(2, 89), (0, x1), (0, x2), (0, (w32 (x3 + 1))), (0, (ior32 x4 ((ishl32 1 x5))))] ((mk E c s (hh g)))).bind fun r1 => if r1.1.1 = 4 then none else
  Ev prog clsT X d mc234 77 [(2, 89), (0, x1), (0, x2), (0, x3), (0, x4), (0, x5), (0, x6), (3, 0)] (pushR r1.1 []) r1.2) :=
  (evk_at (r := (if (2 : Nat) = 2 ∧ rcv ((mk E c s (hh g))) 89 13 = true then
  ((Call prog clsT X d 234 [(2, 89), (0, x1), (0, x2), (0, (w32 (x3 + 1))), (0, (ior32 x4 ((ishl32 1 x5))))] ((mk E c s (hh g)))).bind fun r1 => if r1.1.1 = 4 then none else
  Ev prog clsT X d mc234 77 [(2, 89), (0, x1), (0, x2), (0, x3), (0, x4), (0, x5), (0, x6), (3, 0)] (pushR r1.1 []) r1.2) else none)) X [0, 6, 33, 36, 65, 77, 84] 13 rfl).trans (by simp (maxSteps := 10000000) only [R89_13, bindI, Option.bind_some, if_true_, and_self, ite_true, true_and, true_or, or_true])
set_option maxRecDepth 100000 in
theorem r234_77 (d : Nat) (x1 x2 x3 x4 x5 x6 s0 : Int) : Ev prog clsT X d mc234 77 [(2, 89), (0, x1), (0, x2), (0, x3), (0, x4), (0, x5), (0, x6), (3, 0)] [(0, s0)] (mk E c s (hh g)) =
  ((Call prog clsT X d 235 [(2, 89), (0, x6), (0, (w32 (x3 + 1)))] ((mk E c s (hh g)))).bind fun r1 => if r1.1.1 = 4 then none else
  Ev prog clsT X d mc234 84 [(2, 89), (0, x1), (0, x2), (0, x3), (0, x4), (0, x5), (0, x6), (0, s0)] (pushR r1.1 []) r1.2) :=
  (evk_at (r := (if (2 : Nat) = 2 ∧ rcv ((mk E c s (hh g))) 89 13 = true then
  ((Call prog clsT X d 235 [(2, 89), (0, x6), (0, (w32 (x3 + 1)))] ((mk E c s (hh g)))).bind fun r1 => if r1.1.1 = 4 then none else
  Ev prog clsT X d mc234 84 [(2, 89), (0, x1), (0, x2), (0, x3), (0, x4), (0, x5), (0, x6), (0, s0)] (pushR r1.1 []) r1.2) else none)) X [0, 6, 33, 36, 65, 77, 84] 8 rfl).trans (by simp (maxSteps := 10000000) only [R89_13, bindI, Option.bind_some, if_true_, and_self, ite_true, true_and, true_or, or_true])
set_option maxRecDepth 100000 in
theorem r234_84 (d : Nat) (x1 x2 x3 x4 x5 x6 x7 : Int) : Ev prog clsT X d mc234 84 [(2, 89), (0, x1), (0, x2), (0, x3), (0, x4), (0, x5), (0, x6), (0, x7)] [] (mk E c s (hh g)) =
  (if cmpI .eq x7 0 = true then
  (Ev prog clsT X d mc234 36 [(2, 89), (0, x1), (0, x2), (0, x3), (0, x4), (0, (w32 (x5 + 1))), (0, x6), (0, x7)] [] (mk E c s (hh g)))
else
  (some ((0, 1), ((mk E c s (hh g)))))) :=
  (evk_at (r := (if cmpI .eq x7 0 = true then
  (Ev prog clsT X d mc234 36 [(2, 89), (0, x1), (0, x2), (0, x3), (0, x4), (0, (w32 (x5 + 1))), (0, x6), (0, x7)] [] (mk E c s (hh g)))
else
  (some ((0, 1), (mk E c s (hh g)))))) X [0, 6, 33, 36, 65, 77, 84] 6 rfl).trans (by simp (maxSteps := 10000000) only [bindI, Option.bind_some, if_true_, and_self, ite_true, true_and, true_or, or_true])
set_option maxRecDepth 100000 in
theorem r235_0 (d : Nat) (x1 x2 : Int) : Ev prog clsT X d mc235 0 [(2, 89), (0, x1), (0, x2)] [] (mk E c s (hh g)) =
  (if inb x1 40 = true then
  (if inb ((g 100 (Int.toNat x1))) 10 = true then
  (if inb ((w32 (x2 - 1))) 3 = true then
  (if inb ((g 100 (Int.toNat x1))) 10 = true then
  (if inb x1 40 = true then
  (if inb ((g 100 (Int.toNat x1))) 10 = true then
  (if cmpI .ne x2 1 = true then
  (if inb ((g 100 (Int.toNat x1))) 10 = true then
    (some ((3, 0), ((mk E c s (hh (up (up g 144 (Int.toNat ((g 100 (Int.toNat x1)))) ((w32 (((g 144 (Int.toNat ((g 100 (Int.toNat x1)))))) - ((g 142 (Int.toNat ((w32 (x2 - 1)))))))))) 145 (Int.toNat ((g 100 (Int.toNat x1)))) ((w32 (((g 145 (Int.toNat ((g 100 (Int.toNat x1)))))) - 0)))))))))
  else none)
else
  (if inb ((g 100 (Int.toNat x1))) 10 = true then
    (some ((3, 0), ((mk E c s (hh (up (up g 144 (Int.toNat ((g 100 (Int.toNat x1)))) ((w32 (((g 144 (Int.toNat ((g 100 (Int.toNat x1)))))) - ((g 142 (Int.toNat ((w32 (x2 - 1)))))))))) 145 (Int.toNat ((g 100 (Int.toNat x1)))) ((w32 (((g 145 (Int.toNat ((g 100 (Int.toNat x1)))))) - 1)))))))))
  else none))
else none)
else none)
else none)
else none)
else none)
else none) :=
  (evk_at (r := ((fget 6426 ((mk E c s (hh g))) 89).bind fun v1 =>
  (fget 6194 ((mk E c s (hh g))) 89).bind fun v2 =>
  (aget X 100 ((mk E c s (hh g))) v2 x1).bind fun v3 =>
  (aget X 100 ((mk E c s (hh g))) v1 v3).bind fun v4 =>
  (fget 6410 ((mk E c s (hh g))) 89).bind fun v5 =>
  (aget X 100 ((mk E c s (hh g))) v5 ((w32 (x2 - 1)))).bind fun v6 =>
  (aput 100 ((mk E c s (hh g))) v1 v3 ((w32 (v4 - v6)))).bind fun M7 =>
  (fget 6430 M7 89).bind fun v8 =>
  (fget 6194 M7 89).bind fun v9 =>
  (aget X 100 M7 v9 x1).bind fun v10 =>
  (aget X 100 M7 v8 v10).bind fun v11 =>
  if cmpI .ne x2 1 = true then
  ((aput 100 M7 v8 v10 ((w32 (v11 - 0)))).bind fun M12 =>
    some ((3, 0), M12))
else
  ((aput 100 M7 v8 v10 ((w32 (v11 - 1)))).bind fun M13 =>
    some ((3, 0), M13)))) X [0] 33 rfl).trans (by simp (maxSteps := 10000000) only [uc_144_100, uc_144_145, ↓A100, ↓A142, ↓A144, ↓A145, ↓F6194_89, ↓F6410_89, ↓F6426_89, ↓F6430_89, ↓S144, ↓S145, bindI, Option.bind_some, if_true_, and_self, ite_true, true_and, true_or, or_true])
set_option maxRecDepth 100000 in
theorem rc235_ (d : Nat) (x1 x2 : Int) : Call prog clsT X (d + 1) 235 [(2, 89), (0, x1), (0, x2)] (mk E c s (hh g)) =
  (if inb x1 40 = true then
  (if inb ((g 100 (Int.toNat x1))) 10 = true then
  (if inb ((w32 (x2 - 1))) 3 = true then
  (if inb ((g 100 (Int.toNat x1))) 10 = true then
  (if inb x1 40 = true then
  (if inb ((g 100 (Int.toNat x1))) 10 = true then
  (if cmpI .ne x2 1 = true then
  (if inb ((g 100 (Int.toNat x1))) 10 = true then
    (some ((3, 0), ((mk E c s (hh (up (up g 144 (Int.toNat ((g 100 (Int.toNat x1)))) ((w32 (((g 144 (Int.toNat ((g 100 (Int.toNat x1)))))) - ((g 142 (Int.toNat ((w32 (x2 - 1)))))))))) 145 (Int.toNat ((g 100 (Int.toNat x1)))) ((w32 (((g 145 (Int.toNat ((g 100 (Int.toNat x1)))))) - 0)))))))))
  else none)
else
  (if inb ((g 100 (Int.toNat x1))) 10 = true then
    (some ((3, 0), ((mk E c s (hh (up (up g 144 (Int.toNat ((g 100 (Int.toNat x1)))) ((w32 (((g 144 (Int.toNat ((g 100 (Int.toNat x1)))))) - ((g 142 (Int.toNat ((w32 (x2 - 1)))))))))) 145 (Int.toNat ((g 100 (Int.toNat x1)))) ((w32 (((g 145 (Int.toNat ((g 100 (Int.toNat x1)))))) - 1)))))))))
  else none))
else none)
else none)
else none)
else none)
else none)
else none) :=
  (show Call prog clsT X (d + 1) 235 [(2, 89), (0, x1), (0, x2)] (mk E c s (hh g)) = Ev prog clsT X d mc235 0 [(2, 89), (0, x1), (0, x2)] [] (mk E c s (hh g)) from rfl).trans (r235_0 X E c s g d x1 x2 )
end
