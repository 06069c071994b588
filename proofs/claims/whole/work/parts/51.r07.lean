/-! Part 51.r07: printed by wip/whole/emit6.py: equations with the fixed cells put in. -/
section
variable (X : MExt) (E : List (Nat × Nat)) (c s : Nat) (g : Nat → Nat → Int)
set_option maxRecDepth 100000 in
theorem r196_0 (d : Nat) (x1 : Int) : Ev prog clsT X d mc196 0 [(2, 89), (0, x1)] [] (mk E c s (hh g)) =
  (if inb x1 7 = true then
  (if cmpI .ne ((g 122 (Int.toNat x1))) 21 = true then
  (if inb x1 7 = true then
    (if inb x1 7 = true then
    (if inb x1 7 = true then
    (if inb x1 7 = true then
    (some ((3, 0), ((mk E c s (hh (up (up g 121 (Int.toNat x1) ((w32 (((g 121 (Int.toNat x1))) + ((g 123 (Int.toNat x1))))))) 124 (Int.toNat x1) 0))))))
  else none)
  else none)
  else none)
  else none)
else
  (if inb x1 7 = true then
    (if inb x1 7 = true then
    (if inb x1 7 = true then
    (if inb x1 7 = true then
    (some ((3, 0), ((mk E c s (hh (up (up g 121 (Int.toNat x1) ((w32 (((g 121 (Int.toNat x1))) - ((g 123 (Int.toNat x1))))))) 124 (Int.toNat x1) 0))))))
  else none)
  else none)
  else none)
  else none))
else none) :=
  (evk_at (r := ((fget 6318 ((mk E c s (hh g))) 89).bind fun v1 =>
  (fget 6322 ((mk E c s (hh g))) 89).bind fun v2 =>
  (aget X 100 ((mk E c s (hh g))) v2 x1).bind fun v3 =>
  if cmpI .ne v3 21 = true then
  ((fget 6318 ((mk E c s (hh g))) 89).bind fun v4 =>
    (aget X 100 ((mk E c s (hh g))) v4 x1).bind fun v5 =>
    (fget 6326 ((mk E c s (hh g))) 89).bind fun v6 =>
    (aget X 100 ((mk E c s (hh g))) v6 x1).bind fun v7 =>
    (aput 100 ((mk E c s (hh g))) v1 x1 ((w32 (v5 + v7)))).bind fun M8 =>
    (fget 6330 M8 89).bind fun v9 =>
    (aput 100 M8 v9 x1 (0)).bind fun M10 =>
    some ((3, 0), M10))
else
  ((fget 6318 ((mk E c s (hh g))) 89).bind fun v11 =>
    (aget X 100 ((mk E c s (hh g))) v11 x1).bind fun v12 =>
    (fget 6326 ((mk E c s (hh g))) 89).bind fun v13 =>
    (aget X 100 ((mk E c s (hh g))) v13 x1).bind fun v14 =>
    (aput 100 ((mk E c s (hh g))) v1 x1 ((w32 (v12 - v14)))).bind fun M15 =>
    (fget 6330 M15 89).bind fun v16 =>
    (aput 100 M15 v16 x1 (0)).bind fun M17 =>
    some ((3, 0), M17)))) X [0] 27 rfl).trans (by simp (maxSteps := 10000000) only [↓A121, ↓A122, ↓A123, ↓F6318_89, ↓F6322_89, ↓F6326_89, ↓F6330_89, ↓S121, ↓S124, bindI, Option.bind_some, if_true_, and_self, ite_true, true_and, true_or, or_true])
set_option maxRecDepth 100000 in
theorem rc196_ (d : Nat) (x1 : Int) : Call prog clsT X (d + 1) 196 [(2, 89), (0, x1)] (mk E c s (hh g)) =
  (if inb x1 7 = true then
  (if cmpI .ne ((g 122 (Int.toNat x1))) 21 = true then
  (if inb x1 7 = true then
    (if inb x1 7 = true then
    (if inb x1 7 = true then
    (if inb x1 7 = true then
    (some ((3, 0), ((mk E c s (hh (up (up g 121 (Int.toNat x1) ((w32 (((g 121 (Int.toNat x1))) + ((g 123 (Int.toNat x1))))))) 124 (Int.toNat x1) 0))))))
  else none)
  else none)
  else none)
  else none)
else
  (if inb x1 7 = true then
    (if inb x1 7 = true then
    (if inb x1 7 = true then
    (if inb x1 7 = true then
    (some ((3, 0), ((mk E c s (hh (up (up g 121 (Int.toNat x1) ((w32 (((g 121 (Int.toNat x1))) - ((g 123 (Int.toNat x1))))))) 124 (Int.toNat x1) 0))))))
  else none)
  else none)
  else none)
  else none))
else none) :=
  (show Call prog clsT X (d + 1) 196 [(2, 89), (0, x1)] (mk E c s (hh g)) = Ev prog clsT X d mc196 0 [(2, 89), (0, x1)] [] (mk E c s (hh g)) from rfl).trans (r196_0 X E c s g d x1 )
set_option maxRecDepth 100000 in
theorem r197_0 (d : Nat) (x1 : Int) : Ev prog clsT X d mc197 0 [(2, 89), (0, x1), (3, 0)] [] (mk E c s (hh g)) =
  ((Call prog clsT X d 196 [(2, 89), (0, x1)] ((mk E c s (hh g)))).bind fun r1 => if r1.1.1 = 4 then none else
  Ev prog clsT X d mc197 3 [(2, 89), (0, x1), (3, 0)] (pushR r1.1 []) r1.2) :=
  (evk_at (r := (if (2 : Nat) = 2 ∧ rcv ((mk E c s (hh g))) 89 13 = true then
  ((Call prog clsT X d 196 [(2, 89), (0, x1)] ((mk E c s (hh g)))).bind fun r1 => if r1.1.1 = 4 then none else
  Ev prog clsT X d mc197 3 [(2, 89), (0, x1), (3, 0)] (pushR r1.1 []) r1.2) else none)) X [0, 3, 27, 46, 63, 80] 4 rfl).trans (by simp (maxSteps := 10000000) only [R89_13, bindI, Option.bind_some, if_true_, and_self, ite_true, true_and, true_or, or_true])
set_option maxRecDepth 100000 in
theorem rc197_ (d : Nat) (x1 : Int) : Call prog clsT X (d + 1) 197 [(2, 89), (0, x1)] (mk E c s (hh g)) =
  ((Call prog clsT X d 196 [(2, 89), (0, x1)] ((mk E c s (hh g)))).bind fun r1 => if r1.1.1 = 4 then none else
  Ev prog clsT X d mc197 3 [(2, 89), (0, x1), (3, 0)] (pushR r1.1 []) r1.2) :=
  (show Call prog clsT X (d + 1) 197 [(2, 89), (0, x1)] (mk E c s (hh g)) = Ev prog clsT X d mc197 0 [(2, 89), (0, x1), (3, 0)] [] (mk E c s (hh g)) from rfl).trans (r197_0 X E c s g d x1 )
set_option maxRecDepth 100000 in
theorem r197_3 (d : Nat) (x1 : Int) : Ev prog clsT X d mc197 3 [(2, 89), (0, x1), (3, 0)] [] (mk E c s (hh g)) =
  (if inb x1 7 = true then
  (if inb x1 7 = true then
  (if cmpI .ne ((g 120 (Int.toNat x1))) 24 = true then
  (Ev prog clsT X d mc197 27 [(2, 89), (0, x1), (0, (g 121 (Int.toNat x1)))] [] (mk E c s (hh g)))
else
  (if inb x1 7 = true then
    (if inb x1 7 = true then
    (if cmpI .ge ((g 119 (Int.toNat x1))) ((g 121 (Int.toNat x1))) = true then
    (Ev prog clsT X d mc197 27 [(2, 89), (0, x1), (0, 0)] [] (mk E c s (hh g)))
  else
    (Ev prog clsT X d mc197 27 [(2, 89), (0, x1), (0, 1)] [] (mk E c s (hh g))))
  else none)
  else none))
else none)
else none) :=
  (evk_at (r := ((fget 6318 ((mk E c s (hh g))) 89).bind fun v1 =>
  (aget X 100 ((mk E c s (hh g))) v1 x1).bind fun v2 =>
  (fget 6314 ((mk E c s (hh g))) 89).bind fun v3 =>
  (aget X 100 ((mk E c s (hh g))) v3 x1).bind fun v4 =>
  if cmpI .ne v4 24 = true then
  (Ev prog clsT X d mc197 27 [(2, 89), (0, x1), (0, v2)] [] (mk E c s (hh g)))
else
  ((fget 6310 ((mk E c s (hh g))) 89).bind fun v5 =>
    (aget X 100 ((mk E c s (hh g))) v5 x1).bind fun v6 =>
    (fget 6318 ((mk E c s (hh g))) 89).bind fun v7 =>
    (aget X 100 ((mk E c s (hh g))) v7 x1).bind fun v8 =>
    if cmpI .ge v6 v8 = true then
    (Ev prog clsT X d mc197 27 [(2, 89), (0, x1), (0, 0)] [] (mk E c s (hh g)))
  else
    (Ev prog clsT X d mc197 27 [(2, 89), (0, x1), (0, 1)] [] (mk E c s (hh g)))))) X [0, 3, 27, 46, 63, 80] 25 rfl).trans (by simp (maxSteps := 10000000) only [↓A119, ↓A120, ↓A121, ↓F6310_89, ↓F6314_89, ↓F6318_89, bindI, Option.bind_some, if_true_, and_self, ite_true, true_and, true_or, or_true])
set_option maxRecDepth 100000 in
theorem r197_27 (d : Nat) (x1 x2 : Int) : Ev prog clsT X d mc197 27 [(2, 89), (0, x1), (0, x2)] [] (mk E c s (hh g)) =
  (if inb x1 7 = true then
  (if cmpI .ne ((g 120 (Int.toNat x1))) 25 = true then
  (Ev prog clsT X d mc197 46 [(2, 89), (0, x1), (0, x2)] [] (mk E c s (hh g)))
else
  (if inb x1 7 = true then
    (if inb x1 7 = true then
    (if cmpI .ne ((g 119 (Int.toNat x1))) ((g 121 (Int.toNat x1))) = true then
    (Ev prog clsT X d mc197 46 [(2, 89), (0, x1), (0, 0)] [] (mk E c s (hh g)))
  else
    (Ev prog clsT X d mc197 46 [(2, 89), (0, x1), (0, 1)] [] (mk E c s (hh g))))
  else none)
  else none))
else none) :=
  (evk_at (r := ((fget 6314 ((mk E c s (hh g))) 89).bind fun v1 =>
  (aget X 100 ((mk E c s (hh g))) v1 x1).bind fun v2 =>
  if cmpI .ne v2 25 = true then
  (Ev prog clsT X d mc197 46 [(2, 89), (0, x1), (0, x2)] [] (mk E c s (hh g)))
else
  ((fget 6310 ((mk E c s (hh g))) 89).bind fun v3 =>
    (aget X 100 ((mk E c s (hh g))) v3 x1).bind fun v4 =>
    (fget 6318 ((mk E c s (hh g))) 89).bind fun v5 =>
    (aget X 100 ((mk E c s (hh g))) v5 x1).bind fun v6 =>
    if cmpI .ne v4 v6 = true then
    (Ev prog clsT X d mc197 46 [(2, 89), (0, x1), (0, 0)] [] (mk E c s (hh g)))
  else
    (Ev prog clsT X d mc197 46 [(2, 89), (0, x1), (0, 1)] [] (mk E c s (hh g)))))) X [0, 3, 27, 46, 63, 80] 20 rfl).trans (by simp (maxSteps := 10000000) only [↓A119, ↓A120, ↓A121, ↓F6310_89, ↓F6314_89, ↓F6318_89, bindI, Option.bind_some, if_true_, and_self, ite_true, true_and, true_or, or_true])
set_option maxRecDepth 100000 in
theorem r197_46 (d : Nat) (x1 x2 : Int) : Ev prog clsT X d mc197 46 [(2, 89), (0, x1), (0, x2)] [] (mk E c s (hh g)) =
  (if inb x1 7 = true then
  (if cmpI .ne ((g 118 (Int.toNat x1))) 26 = true then
  (Ev prog clsT X d mc197 63 [(2, 89), (0, x1), (0, x2)] [] (mk E c s (hh g)))
else
  (if inb x1 7 = true then
    (if cmpI .eq ((g 117 (Int.toNat x1))) 0 = true then
    (Ev prog clsT X d mc197 63 [(2, 89), (0, x1), (0, 0)] [] (mk E c s (hh g)))
  else
    (if cmpI .eq x2 0 = true then
      (Ev prog clsT X d mc197 63 [(2, 89), (0, x1), (0, 0)] [] (mk E c s (hh g)))
    else
      (Ev prog clsT X d mc197 63 [(2, 89), (0, x1), (0, 1)] [] (mk E c s (hh g)))))
  else none))
else none) :=
  (evk_at (r := ((fget 6306 ((mk E c s (hh g))) 89).bind fun v1 =>
  (aget X 100 ((mk E c s (hh g))) v1 x1).bind fun v2 =>
  if cmpI .ne v2 26 = true then
  (Ev prog clsT X d mc197 63 [(2, 89), (0, x1), (0, x2)] [] (mk E c s (hh g)))
else
  ((fget 6302 ((mk E c s (hh g))) 89).bind fun v3 =>
    (aget X 100 ((mk E c s (hh g))) v3 x1).bind fun v4 =>
    if cmpI .eq v4 0 = true then
    (Ev prog clsT X d mc197 63 [(2, 89), (0, x1), (0, 0)] [] (mk E c s (hh g)))
  else
    (if cmpI .eq x2 0 = true then
      (Ev prog clsT X d mc197 63 [(2, 89), (0, x1), (0, 0)] [] (mk E c s (hh g)))
    else
      (Ev prog clsT X d mc197 63 [(2, 89), (0, x1), (0, 1)] [] (mk E c s (hh g))))))) X [0, 3, 27, 46, 63, 80] 18 rfl).trans (by simp (maxSteps := 10000000) only [↓A117, ↓A118, ↓F6302_89, ↓F6306_89, bindI, Option.bind_some, if_true_, and_self, ite_true, true_and, true_or, or_true])
set_option maxRecDepth 100000 in
theorem r197_63 (d : Nat) (x1 x2 : Int) : Ev prog clsT X d mc197 63 [(2, 89), (0, x1), (0, x2)] [] (mk E c s (hh g)) =
  (if inb x1 7 = true then
  (if cmpI .ne ((g 118 (Int.toNat x1))) 27 = true then
  (Ev prog clsT X d mc197 80 [(2, 89), (0, x1), (0, x2)] [] (mk E c s (hh g)))
else
  (if inb x1 7 = true then
    (if cmpI .ne ((g 117 (Int.toNat x1))) 0 = true then
    (Ev prog clsT X d mc197 80 [(2, 89), (0, x1), (0, 1)] [] (mk E c s (hh g)))
  else
    (if cmpI .eq x2 0 = true then
      (Ev prog clsT X d mc197 80 [(2, 89), (0, x1), (0, 0)] [] (mk E c s (hh g)))
    else
      (Ev prog clsT X d mc197 80 [(2, 89), (0, x1), (0, 1)] [] (mk E c s (hh g)))))
  else none))
else none) :=
  (evk_at (r := ((fget 6306 ((mk E c s (hh g))) 89).bind fun v1 =>
  (aget X 100 ((mk E c s (hh g))) v1 x1).bind fun v2 =>
  if cmpI .ne v2 27 = true then
  (Ev prog clsT X d mc197 80 [(2, 89), (0, x1), (0, x2)] [] (mk E c s (hh g)))
else
  ((fget 6302 ((mk E c s (hh g))) 89).bind fun v3 =>
    (aget X 100 ((mk E c s (hh g))) v3 x1).bind fun v4 =>
    if cmpI .ne v4 0 = true then
    (Ev prog clsT X d mc197 80 [(2, 89), (0, x1), (0, 1)] [] (mk E c s (hh g)))
  else
    (if cmpI .eq x2 0 = true then
      (Ev prog clsT X d mc197 80 [(2, 89), (0, x1), (0, 0)] [] (mk E c s (hh g)))
    else
      (Ev prog clsT X d mc197 80 [(2, 89), (0, x1), (0, 1)] [] (mk E c s (hh g))))))) X [0, 3, 27, 46, 63, 80] 18 rfl).trans (by simp (maxSteps := 10000000) only [↓A117, ↓A118, ↓F6302_89, ↓F6306_89, bindI, Option.bind_some, if_true_, and_self, ite_true, true_and, true_or, or_true])
set_option maxRecDepth 100000 in
theorem r197_80 (d : Nat) (x1 x2 : Int) : Ev prog clsT X d mc197 80 [(2, 89), (0, x1), (0, x2)] [] (mk E c s (hh g)) =
  (if inb x1 7 = true then
  (if inb x1 7 = true then
  (if inb x1 7 = true then
  (if inb x1 7 = true then
  (some ((3, 0), ((mk E c s (hh (up (up (up (up g 117 (Int.toNat x1) x2) 120 (Int.toNat x1) 0) 121 (Int.toNat x1) 0) 122 (Int.toNat x1) 20))))))
else none)
else none)
else none)
else none) :=
  (evk_at (r := ((fget 6302 ((mk E c s (hh g))) 89).bind fun v1 =>
  (aput 100 ((mk E c s (hh g))) v1 x1 (x2)).bind fun M2 =>
  (fget 6314 M2 89).bind fun v3 =>
  (aput 100 M2 v3 x1 (0)).bind fun M4 =>
  (fget 6318 M4 89).bind fun v5 =>
  (aput 100 M4 v5 x1 (0)).bind fun M6 =>
  (fget 6322 M6 89).bind fun v7 =>
  (aput 100 M6 v7 x1 (20)).bind fun M8 =>
  some ((3, 0), M8))) X [0, 3, 27, 46, 63, 80] 22 rfl).trans (by simp (maxSteps := 10000000) only [↓F6302_89, ↓F6314_89, ↓F6318_89, ↓F6322_89, ↓S117, ↓S120, ↓S121, ↓S122, bindI, Option.bind_some, if_true_, and_self, ite_true, true_and, true_or, or_true])
set_option maxRecDepth 100000 in
theorem r198_0 (d : Nat) (x1 x2 : Int) : Ev prog clsT X d mc198 0 [(2, 89), (0, x1), (0, x2)] [] (mk E c s (hh g)) =
  ((Call prog clsT X d 162 [(2, 89), (0, x1)] ((mk E c s (hh g)))).bind fun r1 => if r1.1.1 = 4 then none else
  Ev prog clsT X d mc198 4 [(2, 89), (0, x1), (0, x2)] (pushR r1.1 [(2, 89)]) r1.2) :=
  (evk_at (r := (if (2 : Nat) = 2 ∧ rcv ((mk E c s (hh g))) 89 13 = true then
  ((Call prog clsT X d 162 [(2, 89), (0, x1)] ((mk E c s (hh g)))).bind fun r1 => if r1.1.1 = 4 then none else
  Ev prog clsT X d mc198 4 [(2, 89), (0, x1), (0, x2)] (pushR r1.1 [(2, 89)]) r1.2) else none)) X [0, 4, 9, 23] 5 rfl).trans (by simp (maxSteps := 10000000) only [R89_13, bindI, Option.bind_some, if_true_, and_self, ite_true, true_and, true_or, or_true])
set_option maxRecDepth 100000 in
theorem rc198_ (d : Nat) (x1 x2 : Int) : Call prog clsT X (d + 1) 198 [(2, 89), (0, x1), (0, x2)] (mk E c s (hh g)) =
  ((Call prog clsT X d 162 [(2, 89), (0, x1)] ((mk E c s (hh g)))).bind fun r1 => if r1.1.1 = 4 then none else
  Ev prog clsT X d mc198 4 [(2, 89), (0, x1), (0, x2)] (pushR r1.1 [(2, 89)]) r1.2) :=
  (show Call prog clsT X (d + 1) 198 [(2, 89), (0, x1), (0, x2)] (mk E c s (hh g)) = Ev prog clsT X d mc198 0 [(2, 89), (0, x1), (0, x2)] [] (mk E c s (hh g)) from rfl).trans (r198_0 X E c s g d x1 x2 )
set_option maxRecDepth 100000 in
theorem r198_4 (d : Nat) (x1 x2 s1 : Int) : Ev prog clsT X d mc198 4 [(2, 89), (0, x1), (0, x2)] [(0, s1), (2, 89)] (mk E c s (hh g)) =
  (if cmpI .eq s1 0 = true then
  (if cmpI .ne 1 1 = true then
    ((Call prog clsT X d 189 [(2, 89), (0, x1)] ((mk E c s (hh (up g 89 0 1))))).bind fun r1 => if r1.1.1 = 4 then none else
      Ev prog clsT X d mc198 23 [(2, 89), (0, x1), (0, x2)] (pushR r1.1 []) r1.2)
  else
    (some ((0, 0), ((mk E c s (hh (up g 89 0 1)))))))
else
  ((Call prog clsT X d 152 [(0, x2), (0, 0), (0, 13)] ((mk E c s (hh g)))).bind fun r2 => if r2.1.1 = 4 then none else
    Ev prog clsT X d mc198 9 [(2, 89), (0, x1), (0, x2)] (pushR r2.1 [(2, 89)]) r2.2)) :=
  (evk_at (r := (if cmpI .eq s1 0 = true then
  ((fput 6144 ((mk E c s (hh g))) 89 1).bind fun M1 =>
    (fget 6144 M1 89).bind fun v2 =>
    if cmpI .ne v2 1 = true then
    (if (2 : Nat) = 2 ∧ rcv M1 89 13 = true then
      ((Call prog clsT X d 189 [(2, 89), (0, x1)] M1).bind fun r3 => if r3.1.1 = 4 then none else
      Ev prog clsT X d mc198 23 [(2, 89), (0, x1), (0, x2)] (pushR r3.1 []) r3.2) else none)
  else
    (some ((0, 0), M1)))
else
  ((Call prog clsT X d 152 [(0, x2), (0, 0), (0, 13)] ((mk E c s (hh g)))).bind fun r4 => if r4.1.1 = 4 then none else
    Ev prog clsT X d mc198 9 [(2, 89), (0, x1), (0, x2)] (pushR r4.1 [(2, 89)]) r4.2))) X [0, 4, 9, 23] 11 rfl).trans (by simp (maxSteps := 10000000) only [R89_13, up_same, ↓F6144_89, ↓W6144_89, bindI, Option.bind_some, if_true_, and_self, ite_true, true_and, true_or, or_true])
set_option maxRecDepth 100000 in
theorem r198_9 (d : Nat) (x1 x2 s1 : Int) : Ev prog clsT X d mc198 9 [(2, 89), (0, x1), (0, x2)] [(0, s1), (2, 89)] (mk E c s (hh g)) =
  (if cmpI .eq s1 0 = true then
  (if cmpI .ne 1 1 = true then
    ((Call prog clsT X d 189 [(2, 89), (0, x1)] ((mk E c s (hh (up g 89 0 1))))).bind fun r1 => if r1.1.1 = 4 then none else
      Ev prog clsT X d mc198 23 [(2, 89), (0, x1), (0, x2)] (pushR r1.1 []) r1.2)
  else
    (some ((0, 0), ((mk E c s (hh (up g 89 0 1)))))))
else
  (if cmpI .ne 0 1 = true then
    ((Call prog clsT X d 189 [(2, 89), (0, x1)] ((mk E c s (hh (up g 89 0 0))))).bind fun r2 => if r2.1.1 = 4 then none else
      Ev prog clsT X d mc198 23 [(2, 89), (0, x1), (0, x2)] (pushR r2.1 []) r2.2)
  else
    (some ((0, 0), ((mk E c s (hh (up g 89 0 0)))))))) :=
  (evk_at (r := (if cmpI .eq s1 0 = true then
  ((fput 6144 ((mk E c s (hh g))) 89 1).bind fun M1 =>
    (fget 6144 M1 89).bind fun v2 =>
    if cmpI .ne v2 1 = true then
    (if (2 : Nat) = 2 ∧ rcv M1 89 13 = true then
      ((Call prog clsT X d 189 [(2, 89), (0, x1)] M1).bind fun r3 => if r3.1.1 = 4 then none else
      Ev prog clsT X d mc198 23 [(2, 89), (0, x1), (0, x2)] (pushR r3.1 []) r3.2) else none)
  else
    (some ((0, 0), M1)))
else
  ((fput 6144 ((mk E c s (hh g))) 89 0).bind fun M4 =>
    (fget 6144 M4 89).bind fun v5 =>
    if cmpI .ne v5 1 = true then
    (if (2 : Nat) = 2 ∧ rcv M4 89 13 = true then
      ((Call prog clsT X d 189 [(2, 89), (0, x1)] M4).bind fun r6 => if r6.1.1 = 4 then none else
      Ev prog clsT X d mc198 23 [(2, 89), (0, x1), (0, x2)] (pushR r6.1 []) r6.2) else none)
  else
    (some ((0, 0), M4))))) X [0, 4, 9, 23] 12 rfl).trans (by simp (maxSteps := 10000000) only [R89_13, up_same, ↓F6144_89, ↓W6144_89, bindI, Option.bind_some, if_true_, and_self, ite_true, true_and, true_or, or_true])
set_option maxRecDepth 100000 in
theorem r198_23 (d : Nat) (x1 x2 : Int) : Ev prog clsT X d mc198 23 [(2, 89), (0, x1), (0, x2)] [] (mk E c s (hh g)) =
  (if cmpI .ge x2 11 = true then
  (if cmpI .ne x2 11 = true then
    (if cmpI .ne x2 12 = true then
      (if inb x1 40 = true then
        (if cmpI .eq ((g 104 (Int.toNat x1))) 0 = true then
        (some ((0, 1), ((mk E c s (hh g)))))
      else
        (some ((0, 0), ((mk E c s (hh g))))))
      else none)
    else
      (if inb x1 40 = true then
        (some ((0, (g 100 (Int.toNat x1))), ((mk E c s (hh g)))))
      else none))
  else
    (if inb x1 40 = true then
      (some ((0, (g 99 (Int.toNat x1))), ((mk E c s (hh g)))))
    else none))
else
  (if inb ((w32 (1 + x2))) 20 = true then
    (some ((0, (g 126 (Int.toNat ((w32 (1 + x2)))))), ((mk E c s (hh g)))))
  else none)) :=
  (evk_at (r := (if cmpI .ge x2 11 = true then
  (if cmpI .ne x2 11 = true then
    (if cmpI .ne x2 12 = true then
      ((fget 6210 ((mk E c s (hh g))) 89).bind fun v1 =>
        (aget X 102 ((mk E c s (hh g))) v1 x1).bind fun v2 =>
        if cmpI .eq v2 0 = true then
        (some ((0, 1), (mk E c s (hh g))))
      else
        (some ((0, 0), (mk E c s (hh g)))))
    else
      ((fget 6194 ((mk E c s (hh g))) 89).bind fun v3 =>
        (aget X 100 ((mk E c s (hh g))) v3 x1).bind fun v4 =>
        some ((0, v4), (mk E c s (hh g)))))
  else
    ((fget 6190 ((mk E c s (hh g))) 89).bind fun v5 =>
      (aget X 100 ((mk E c s (hh g))) v5 x1).bind fun v6 =>
      some ((0, v6), (mk E c s (hh g)))))
else
  ((fget 6338 ((mk E c s (hh g))) 89).bind fun v7 =>
    (aget X 100 ((mk E c s (hh g))) v7 ((w32 (1 + x2)))).bind fun v8 =>
    some ((0, v8), (mk E c s (hh g)))))) X [0, 4, 9, 23] 18 rfl).trans (by simp (maxSteps := 10000000) only [↓A100, ↓A104, ↓A126, ↓A99, ↓F6190_89, ↓F6194_89, ↓F6210_89, ↓F6338_89, bindI, Option.bind_some, if_true_, and_self, ite_true, true_and, true_or, or_true])
set_option maxRecDepth 100000 in
theorem r199_0 (d : Nat) (x1 x2 : Int) : Ev prog clsT X d mc199 0 [(2, 89), (0, x1), (0, x2), (3, 0), (3, 0), (3, 0), (3, 0)] [] (mk E c s (hh g)) =
  ((Call prog clsT X d 157 [(2, 89), (0, x1)] ((mk E c s (hh (up g 89 0 0))))).bind fun r1 => if r1.1.1 = 4 then none else
  Ev prog clsT X d mc199 6 [(2, 89), (0, x1), (0, x2), (3, 0), (3, 0), (3, 0), (3, 0)] (pushR r1.1 []) r1.2) :=
  (evk_at (r := ((fput 6144 ((mk E c s (hh g))) 89 0).bind fun M1 =>
  if (2 : Nat) = 2 ∧ rcv M1 89 13 = true then
  ((Call prog clsT X d 157 [(2, 89), (0, x1)] M1).bind fun r2 => if r2.1.1 = 4 then none else
  Ev prog clsT X d mc199 6 [(2, 89), (0, x1), (0, x2), (3, 0), (3, 0), (3, 0), (3, 0)] (pushR r2.1 []) r2.2) else none)) X [0, 6, 16, 25, 30, 91] 7 rfl).trans (by simp (maxSteps := 10000000) only [R89_13, ↓W6144_89, bindI, Option.bind_some, if_true_, and_self, ite_true, true_and, true_or, or_true])
set_option maxRecDepth 100000 in
theorem rc199_ (d : Nat) (x1 x2 : Int) : Call prog clsT X (d + 1) 199 [(2, 89), (0, x1), (0, x2)] (mk E c s (hh g)) =
  ((Call prog clsT X d 157 [(2, 89), (0, x1)] ((mk E c s (hh (up g 89 0 0))))).bind fun r1 => if r1.1.1 = 4 then none else
  Ev prog clsT X d mc199 6 [(2, 89), (0, x1), (0, x2), (3, 0), (3, 0), (3, 0), (3, 0)] (pushR r1.1 []) r1.2) :=
  (show Call prog clsT X (d + 1) 199 [(2, 89), (0, x1), (0, x2)] (mk E c s (hh g)) = Ev prog clsT X d mc199 0 [(2, 89), (0, x1), (0, x2), (3, 0), (3, 0), (3, 0), (3, 0)] [] (mk E c s (hh g)) from rfl).trans (r199_0 X E c s g d x1 x2 )
set_option maxRecDepth 100000 in
theorem r199_6 (d : Nat) (x1 x2 s0 : Int) : Ev prog clsT X d mc199 6 [(2, 89), (0, x1), (0, x2), (3, 0), (3, 0), (3, 0), (3, 0)] [(0, s0)] (mk E c s (hh g)) =
  (if cmpI .eq s0 0 = true then
  (some ((0, (-1)), ((mk E c s (hh g)))))
else
  (if inb x1 13 = true then
    (if cmpI .eq ((g 107 (Int.toNat x1))) 0 = true then
    (some ((0, (-1)), ((mk E c s (hh g)))))
  else
    ((Call prog clsT X d 152 [(0, x2), (0, 0), (0, 1)] ((mk E c s (hh g)))).bind fun r1 => if r1.1.1 = 4 then none else
      Ev prog clsT X d mc199 16 [(2, 89), (0, x1), (0, x2), (3, 0), (3, 0), (3, 0), (3, 0)] (pushR r1.1 []) r1.2))
  else none)) :=
  (evk_at (r := (if cmpI .eq s0 0 = true then
  (some ((0, (-1)), (mk E c s (hh g))))
else
  ((fget 6254 ((mk E c s (hh g))) 89).bind fun v1 =>
    (aget X 100 ((mk E c s (hh g))) v1 x1).bind fun v2 =>
    if cmpI .eq v2 0 = true then
    (some ((0, (-1)), (mk E c s (hh g))))
  else
    ((Call prog clsT X d 152 [(0, x2), (0, 0), (0, 1)] ((mk E c s (hh g)))).bind fun r3 => if r3.1.1 = 4 then none else
      Ev prog clsT X d mc199 16 [(2, 89), (0, x1), (0, x2), (3, 0), (3, 0), (3, 0), (3, 0)] (pushR r3.1 []) r3.2)))) X [0, 6, 16, 25, 30, 91] 11 rfl).trans (by simp (maxSteps := 10000000) only [↓A107, ↓F6254_89, bindI, Option.bind_some, if_true_, and_self, ite_true, true_and, true_or, or_true])
set_option maxRecDepth 100000 in
theorem r199_16 (d : Nat) (x1 x2 s0 : Int) : Ev prog clsT X d mc199 16 [(2, 89), (0, x1), (0, x2), (3, 0), (3, 0), (3, 0), (3, 0)] [(0, s0)] (mk E c s (hh g)) =
  (if cmpI .ne s0 0 = true then
  (Ev prog clsT X d mc199 25 [(2, 89), (0, x1), (0, x2), (0, 0), (0, (-1)), (0, 1), (3, 0)] [] (mk E c s (hh g)))
else
  (some ((0, (-1)), ((mk E c s (hh g)))))) :=
  (evk_at (r := (if cmpI .ne s0 0 = true then
  (Ev prog clsT X d mc199 25 [(2, 89), (0, x1), (0, x2), (0, 0), (0, (-1)), (0, 1), (3, 0)] [] (mk E c s (hh g)))
else
  (some ((0, (-1)), (mk E c s (hh g)))))) X [0, 6, 16, 25, 30, 91] 9 rfl).trans (by simp (maxSteps := 10000000) only [bindI, Option.bind_some, if_true_, and_self, ite_true, true_and, true_or, or_true])
set_option maxRecDepth 100000 in
theorem r199_25 (d : Nat) (x1 x2 x3 x4 x5 : Int) (w6 : MV) : Ev prog clsT X d mc199 25 [(2, 89), (0, x1), (0, x2), (0, x3), (0, x4), (0, x5), w6] [] (mk E c s (hh g)) =
  (if cmpI .ge x5 100 = true then
  (if cmpI .ne x2 0 = true then
    (some ((0, x4), ((mk E c s (hh g)))))
  else
    (some ((0, x3), ((mk E c s (hh g))))))
else
  (Ev prog clsT X d mc199 30 [(2, 89), (0, x1), (0, x2), (0, x3), (0, x4), (0, x5), (0, 1)] [] (mk E c s (hh g)))) :=
  (evk_at (r := (if cmpI .ge x5 100 = true then
  (if cmpI .ne x2 0 = true then
    (some ((0, x4), (mk E c s (hh g))))
  else
    (some ((0, x3), (mk E c s (hh g)))))
else
  (Ev prog clsT X d mc199 30 [(2, 89), (0, x1), (0, x2), (0, x3), (0, x4), (0, x5), (0, 1)] [] (mk E c s (hh g))))) X [0, 6, 16, 25, 30, 91] 9 rfl).trans (by simp (maxSteps := 10000000) only [bindI, Option.bind_some, if_true_, and_self, ite_true, true_and, true_or, or_true])
set_option maxRecDepth 100000 in
theorem r199_30 (d : Nat) (x1 x2 x3 x4 x5 x6 : Int) : Ev prog clsT X d mc199 30 [(2, 89), (0, x1), (0, x2), (0, x3), (0, x4), (0, x5), (0, x6)] [] (mk E c s (hh g)) =
  (if cmpI .ge x6 12 = true then
  (if inb x1 13 = true then
    (if inb x1 13 = true then
    (if inb x1 13 = true then
    ((Call prog clsT X d 192 [(2, 89), (0, x1)] ((mk E c s (hh (up (up (up (up (up (up (up g 126 1 ((g 107 (Int.toNat x1)))) 126 2 1) 126 4 ((w32 (50 * ((g 107 (Int.toNat x1))))))) 126 6 ((w32 (9 * ((g 107 (Int.toNat x1))))))) 126 7 9) 126 8 x5) 126 11 1))))).bind fun r1 => if r1.1.1 = 4 then none else
    Ev prog clsT X d mc199 91 [(2, 89), (0, x1), (0, x2), (0, x3), (0, x4), (0, x5), (0, x6)] (pushR r1.1 []) r1.2)
  else none)
  else none)
  else none)
else
  (if inb x6 20 = true then
    (Ev prog clsT X d mc199 30 [(2, 89), (0, x1), (0, x2), (0, x3), (0, x4), (0, x5), (0, (w32 (x6 + 1)))] [] (mk E c s (hh (up g 126 (Int.toNat x6) 0))))
  else none)) :=
  (evk_at (r := (if cmpI .ge x6 12 = true then
  ((fget 6338 ((mk E c s (hh g))) 89).bind fun v1 =>
    (fget 6254 ((mk E c s (hh g))) 89).bind fun v2 =>
    (aget X 100 ((mk E c s (hh g))) v2 x1).bind fun v3 =>
    (aput 100 ((mk E c s (hh g))) v1 1 (v3)).bind fun M4 =>
    (fget 6338 M4 89).bind fun v5 =>
    (aput 100 M4 v5 2 (1)).bind fun M6 =>
    (fget 6338 M6 89).bind fun v7 =>
    (fget 6254 M6 89).bind fun v8 =>
    (aget X 100 M6 v8 x1).bind fun v9 =>
    (aput 100 M6 v7 4 ((w32 (50 * v9)))).bind fun M10 =>
    (fget 6338 M10 89).bind fun v11 =>
    (fget 6254 M10 89).bind fun v12 =>
    (aget X 100 M10 v12 x1).bind fun v13 =>
    (aput 100 M10 v11 6 ((w32 (9 * v13)))).bind fun M14 =>
    (fget 6338 M14 89).bind fun v15 =>
    (aput 100 M14 v15 7 (9)).bind fun M16 =>
    (fget 6338 M16 89).bind fun v17 =>
    (aput 100 M16 v17 8 (x5)).bind fun M18 =>
    (fget 6338 M18 89).bind fun v19 =>
    (aput 100 M18 v19 11 (1)).bind fun M20 =>
    if (2 : Nat) = 2 ∧ rcv M20 89 13 = true then
    ((Call prog clsT X d 192 [(2, 89), (0, x1)] M20).bind fun r21 => if r21.1.1 = 4 then none else
    Ev prog clsT X d mc199 91 [(2, 89), (0, x1), (0, x2), (0, x3), (0, x4), (0, x5), (0, x6)] (pushR r21.1 []) r21.2) else none)
else
  ((fget 6338 ((mk E c s (hh g))) 89).bind fun v22 =>
    (aput 100 ((mk E c s (hh g))) v22 x6 (0)).bind fun M23 =>
    Ev prog clsT X d mc199 30 [(2, 89), (0, x1), (0, x2), (0, x3), (0, x4), (0, x5), (0, (w32 (x6 + 1)))] [] M23))) X [0, 6, 16, 25, 30, 91] 55 rfl).trans (by simp (maxSteps := 10000000) only [R89_13, inbL 1 20 rfl, inbL 11 20 rfl, inbL 2 20 rfl, inbL 4 20 rfl, inbL 6 20 rfl, inbL 7 20 rfl, inbL 8 20 rfl, tn1, tn11, tn2, tn4, tn6, tn7, tn8, uc_126_107, ↓A107, ↓F6254_89, ↓F6338_89, ↓S126, bindI, Option.bind_some, if_true_, and_self, ite_true, true_and, true_or, or_true])
set_option maxRecDepth 100000 in
theorem r199_91 (d : Nat) (x1 x2 x3 x4 x5 x6 s0 : Int) : Ev prog clsT X d mc199 91 [(2, 89), (0, x1), (0, x2), (0, x3), (0, x4), (0, x5), (0, x6)] [(0, s0)] (mk E c s (hh g)) =
  (if cmpI .ge s0 0 = true then
  (if cmpI .ne x3 0 = true then
    (Ev prog clsT X d mc199 25 [(2, 89), (0, x1), (0, x2), (0, (w32 (x3 + 1))), (0, x4), (0, (w32 (x5 + 1))), (0, s0)] [] (mk E c s (hh g)))
  else
    (Ev prog clsT X d mc199 25 [(2, 89), (0, x1), (0, x2), (0, (w32 (x3 + 1))), (0, s0), (0, (w32 (x5 + 1))), (0, s0)] [] (mk E c s (hh g))))
else
  (Ev prog clsT X d mc199 25 [(2, 89), (0, x1), (0, x2), (0, x3), (0, x4), (0, (w32 (x5 + 1))), (0, s0)] [] (mk E c s (hh g)))) :=
  evk_at X [0, 6, 16, 25, 30, 91] 13 rfl
set_option maxRecDepth 100000 in
theorem r200_0 (d : Nat) (x1 x2 : Int) : Ev prog clsT X d mc200 0 [(2, 89), (0, x1), (0, x2)] [] (mk E c s (hh g)) =
  ((Call prog clsT X d 152 [(0, x1), (0, 0), (0, 3)] ((mk E c s (hh (up g 89 0 0))))).bind fun r1 => if r1.1.1 = 4 then none else
  Ev prog clsT X d mc200 7 [(2, 89), (0, x1), (0, x2)] (pushR r1.1 []) r1.2) :=
  (evk_at (r := ((fput 6144 ((mk E c s (hh g))) 89 0).bind fun M1 =>
  (Call prog clsT X d 152 [(0, x1), (0, 0), (0, 3)] M1).bind fun r2 => if r2.1.1 = 4 then none else
  Ev prog clsT X d mc200 7 [(2, 89), (0, x1), (0, x2)] (pushR r2.1 []) r2.2)) X [0, 7, 12] 8 rfl).trans (by simp (maxSteps := 10000000) only [↓W6144_89, bindI, Option.bind_some, if_true_, and_self, ite_true, true_and, true_or, or_true])
set_option maxRecDepth 100000 in
theorem rc200_ (d : Nat) (x1 x2 : Int) : Call prog clsT X (d + 1) 200 [(2, 89), (0, x1), (0, x2)] (mk E c s (hh g)) =
  ((Call prog clsT X d 152 [(0, x1), (0, 0), (0, 3)] ((mk E c s (hh (up g 89 0 0))))).bind fun r1 => if r1.1.1 = 4 then none else
  Ev prog clsT X d mc200 7 [(2, 89), (0, x1), (0, x2)] (pushR r1.1 []) r1.2) :=
  (show Call prog clsT X (d + 1) 200 [(2, 89), (0, x1), (0, x2)] (mk E c s (hh g)) = Ev prog clsT X d mc200 0 [(2, 89), (0, x1), (0, x2)] [] (mk E c s (hh g)) from rfl).trans (r200_0 X E c s g d x1 x2 )
set_option maxRecDepth 100000 in
theorem r200_7 (d : Nat) (x1 x2 s0 : Int) : Ev prog clsT X d mc200 7 [(2, 89), (0, x1), (0, x2)] [(0, s0)] (mk E c s (hh g)) =
  (if cmpI .eq s0 0 = true then
  (some ((0, 0), ((mk E c s (hh g)))))
else
  ((Call prog clsT X d 152 [(0, x2), (0, 0), (0, 5)] ((mk E c s (hh g)))).bind fun r1 => if r1.1.1 = 4 then none else
    Ev prog clsT X d mc200 12 [(2, 89), (0, x1), (0, x2)] (pushR r1.1 []) r1.2)) :=
  (evk_at (r := (if cmpI .eq s0 0 = true then
  (some ((0, 0), (mk E c s (hh g))))
else
  ((Call prog clsT X d 152 [(0, x2), (0, 0), (0, 5)] ((mk E c s (hh g)))).bind fun r1 => if r1.1.1 = 4 then none else
    Ev prog clsT X d mc200 12 [(2, 89), (0, x1), (0, x2)] (pushR r1.1 []) r1.2))) X [0, 7, 12] 6 rfl).trans (by simp (maxSteps := 10000000) only [bindI, Option.bind_some, if_true_, and_self, ite_true, true_and, true_or, or_true])
set_option maxRecDepth 100000 in
theorem r200_12 (d : Nat) (x1 x2 s0 : Int) : Ev prog clsT X d mc200 12 [(2, 89), (0, x1), (0, x2)] [(0, s0)] (mk E c s (hh g)) =
  (if cmpI .ne s0 0 = true then
  (if inb x1 4 = true then
    (if inb x1 4 = true then
    (some ((0, 1), ((mk E c s (hh (up (up g 127 (Int.toNat x1) (bit1 (1))) 128 (Int.toNat x1) x2))))))
  else none)
  else none)
else
  (some ((0, 0), ((mk E c s (hh g)))))) :=
  (evk_at (r := (if cmpI .ne s0 0 = true then
  ((fget 6342 ((mk E c s (hh g))) 89).bind fun v1 =>
    (aput 102 ((mk E c s (hh g))) v1 x1 (bit1 (1))).bind fun M2 =>
    (fget 6346 M2 89).bind fun v3 =>
    (aput 100 M2 v3 x1 (x2)).bind fun M4 =>
    some ((0, 1), M4))
else
  (some ((0, 0), (mk E c s (hh g)))))) X [0, 7, 12] 14 rfl).trans (by simp (maxSteps := 10000000) only [↓F6342_89, ↓F6346_89, ↓S127, ↓S128, bindI, Option.bind_some, if_true_, and_self, ite_true, true_and, true_or, or_true])
set_option maxRecDepth 100000 in
theorem r201_0 (d : Nat) (x1 x2 x3 : Int) : Ev prog clsT X d mc201 0 [(2, 89), (0, x1), (0, x2), (0, x3)] [] (mk E c s (hh g)) =
  ((Call prog clsT X d 202 [(2, 89), (0, x1)] ((mk E c s (hh (up g 89 0 0))))).bind fun r1 => if r1.1.1 = 4 then none else
  Ev prog clsT X d mc201 6 [(2, 89), (0, x1), (0, x2), (0, x3)] (pushR r1.1 []) r1.2) :=
  (evk_at (r := ((fput 6144 ((mk E c s (hh g))) 89 0).bind fun M1 =>
  if (2 : Nat) = 2 ∧ rcv M1 89 13 = true then
  ((Call prog clsT X d 202 [(2, 89), (0, x1)] M1).bind fun r2 => if r2.1.1 = 4 then none else
  Ev prog clsT X d mc201 6 [(2, 89), (0, x1), (0, x2), (0, x3)] (pushR r2.1 []) r2.2) else none)) X [0, 6, 11, 16] 7 rfl).trans (by simp (maxSteps := 10000000) only [R89_13, ↓W6144_89, bindI, Option.bind_some, if_true_, and_self, ite_true, true_and, true_or, or_true])
set_option maxRecDepth 100000 in
theorem rc201_ (d : Nat) (x1 x2 x3 : Int) : Call prog clsT X (d + 1) 201 [(2, 89), (0, x1), (0, x2), (0, x3)] (mk E c s (hh g)) =
  ((Call prog clsT X d 202 [(2, 89), (0, x1)] ((mk E c s (hh (up g 89 0 0))))).bind fun r1 => if r1.1.1 = 4 then none else
  Ev prog clsT X d mc201 6 [(2, 89), (0, x1), (0, x2), (0, x3)] (pushR r1.1 []) r1.2) :=
  (show Call prog clsT X (d + 1) 201 [(2, 89), (0, x1), (0, x2), (0, x3)] (mk E c s (hh g)) = Ev prog clsT X d mc201 0 [(2, 89), (0, x1), (0, x2), (0, x3)] [] (mk E c s (hh g)) from rfl).trans (r201_0 X E c s g d x1 x2 x3 )
set_option maxRecDepth 100000 in
theorem r201_6 (d : Nat) (x1 x2 x3 s0 : Int) : Ev prog clsT X d mc201 6 [(2, 89), (0, x1), (0, x2), (0, x3)] [(0, s0)] (mk E c s (hh g)) =
  (if cmpI .eq s0 0 = true then
  (some ((0, 0), ((mk E c s (hh g)))))
else
  ((Call prog clsT X d 152 [(0, x2), (0, 0), (0, 5)] ((mk E c s (hh g)))).bind fun r1 => if r1.1.1 = 4 then none else
    Ev prog clsT X d mc201 11 [(2, 89), (0, x1), (0, x2), (0, x3)] (pushR r1.1 []) r1.2)) :=
  (evk_at (r := (if cmpI .eq s0 0 = true then
  (some ((0, 0), (mk E c s (hh g))))
else
  ((Call prog clsT X d 152 [(0, x2), (0, 0), (0, 5)] ((mk E c s (hh g)))).bind fun r1 => if r1.1.1 = 4 then none else
    Ev prog clsT X d mc201 11 [(2, 89), (0, x1), (0, x2), (0, x3)] (pushR r1.1 []) r1.2))) X [0, 6, 11, 16] 6 rfl).trans (by simp (maxSteps := 10000000) only [bindI, Option.bind_some, if_true_, and_self, ite_true, true_and, true_or, or_true])
set_option maxRecDepth 100000 in
theorem r201_11 (d : Nat) (x1 x2 x3 s0 : Int) : Ev prog clsT X d mc201 11 [(2, 89), (0, x1), (0, x2), (0, x3)] [(0, s0)] (mk E c s (hh g)) =
  (if cmpI .eq s0 0 = true then
  (some ((0, 0), ((mk E c s (hh g)))))
else
  ((Call prog clsT X d 152 [(0, x3), (0, (-9)), (0, 9)] ((mk E c s (hh g)))).bind fun r1 => if r1.1.1 = 4 then none else
    Ev prog clsT X d mc201 16 [(2, 89), (0, x1), (0, x2), (0, x3)] (pushR r1.1 []) r1.2)) :=
  (evk_at (r := (if cmpI .eq s0 0 = true then
  (some ((0, 0), (mk E c s (hh g))))
else
  ((Call prog clsT X d 152 [(0, x3), (0, (-9)), (0, 9)] ((mk E c s (hh g)))).bind fun r1 => if r1.1.1 = 4 then none else
    Ev prog clsT X d mc201 16 [(2, 89), (0, x1), (0, x2), (0, x3)] (pushR r1.1 []) r1.2))) X [0, 6, 11, 16] 6 rfl).trans (by simp (maxSteps := 10000000) only [bindI, Option.bind_some, if_true_, and_self, ite_true, true_and, true_or, or_true])
set_option maxRecDepth 100000 in
theorem r201_16 (d : Nat) (x1 x2 x3 s0 : Int) : Ev prog clsT X d mc201 16 [(2, 89), (0, x1), (0, x2), (0, x3)] [(0, s0)] (mk E c s (hh g)) =
  (if cmpI .ne s0 0 = true then
  (if inb ((w32 (((w32 (6 * x1))) + x2))) 24 = true then
    (some ((0, 1), ((mk E c s (hh (up g 129 (Int.toNat ((w32 (((w32 (6 * x1))) + x2)))) x3))))))
  else none)
else
  (some ((0, 0), ((mk E c s (hh g)))))) :=
  (evk_at (r := (if cmpI .ne s0 0 = true then
  ((fget 6350 ((mk E c s (hh g))) 89).bind fun v1 =>
    (aput 100 ((mk E c s (hh g))) v1 ((w32 (((w32 (6 * x1))) + x2))) (x3)).bind fun M2 =>
    some ((0, 1), M2))
else
  (some ((0, 0), (mk E c s (hh g)))))) X [0, 6, 11, 16] 13 rfl).trans (by simp (maxSteps := 10000000) only [↓F6350_89, ↓S129, bindI, Option.bind_some, if_true_, and_self, ite_true, true_and, true_or, or_true])
set_option maxRecDepth 100000 in
theorem r202_0 (d : Nat) (x1 : Int) : Ev prog clsT X d mc202 0 [(2, 89), (0, x1)] [] (mk E c s (hh g)) =
  ((Call prog clsT X d 152 [(0, x1), (0, 0), (0, 3)] ((mk E c s (hh g)))).bind fun r1 => if r1.1.1 = 4 then none else
  Ev prog clsT X d mc202 4 [(2, 89), (0, x1)] (pushR r1.1 []) r1.2) :=
  evk_at X [0, 4] 5 rfl
set_option maxRecDepth 100000 in
theorem rc202_ (d : Nat) (x1 : Int) : Call prog clsT X (d + 1) 202 [(2, 89), (0, x1)] (mk E c s (hh g)) =
  ((Call prog clsT X d 152 [(0, x1), (0, 0), (0, 3)] ((mk E c s (hh g)))).bind fun r1 => if r1.1.1 = 4 then none else
  Ev prog clsT X d mc202 4 [(2, 89), (0, x1)] (pushR r1.1 []) r1.2) :=
  (show Call prog clsT X (d + 1) 202 [(2, 89), (0, x1)] (mk E c s (hh g)) = Ev prog clsT X d mc202 0 [(2, 89), (0, x1)] [] (mk E c s (hh g)) from rfl).trans (r202_0 X E c s g d x1 )
set_option maxRecDepth 100000 in
theorem r202_4 (d : Nat) (x1 s0 : Int) : Ev prog clsT X d mc202 4 [(2, 89), (0, x1)] [(0, s0)] (mk E c s (hh g)) =
  (if cmpI .eq s0 0 = true then
  (some ((0, 0), ((mk E c s (hh g)))))
else
  (if inb x1 4 = true then
    (if cmpI .eq ((g 127 (Int.toNat x1))) 0 = true then
    (some ((0, 0), ((mk E c s (hh g)))))
  else
    (some ((0, 1), ((mk E c s (hh g))))))
  else none)) :=
  (evk_at (r := (if cmpI .eq s0 0 = true then
  (some ((0, 0), (mk E c s (hh g))))
else
  ((fget 6342 ((mk E c s (hh g))) 89).bind fun v1 =>
    (aget X 102 ((mk E c s (hh g))) v1 x1).bind fun v2 =>
    if cmpI .eq v2 0 = true then
    (some ((0, 0), (mk E c s (hh g))))
  else
    (some ((0, 1), (mk E c s (hh g))))))) X [0, 4] 10 rfl).trans (by simp (maxSteps := 10000000) only [↓A127, ↓F6342_89, bindI, Option.bind_some, if_true_, and_self, ite_true, true_and, true_or, or_true])
set_option maxRecDepth 100000 in
theorem r203_0 (d : Nat) (x1 x2 : Int) : Ev prog clsT X d mc203 0 [(2, 89), (0, x1), (0, x2)] [] (mk E c s (hh g)) =
  ((Call prog clsT X d 202 [(2, 89), (0, x1)] ((mk E c s (hh (up g 89 0 0))))).bind fun r1 => if r1.1.1 = 4 then none else
  Ev prog clsT X d mc203 6 [(2, 89), (0, x1), (0, x2)] (pushR r1.1 []) r1.2) :=
  (evk_at (r := ((fput 6144 ((mk E c s (hh g))) 89 0).bind fun M1 =>
  if (2 : Nat) = 2 ∧ rcv M1 89 13 = true then
  ((Call prog clsT X d 202 [(2, 89), (0, x1)] M1).bind fun r2 => if r2.1.1 = 4 then none else
  Ev prog clsT X d mc203 6 [(2, 89), (0, x1), (0, x2)] (pushR r2.1 []) r2.2) else none)) X [0, 6, 10, 17] 7 rfl).trans (by simp (maxSteps := 10000000) only [R89_13, ↓W6144_89, bindI, Option.bind_some, if_true_, and_self, ite_true, true_and, true_or, or_true])
set_option maxRecDepth 100000 in
theorem rc203_ (d : Nat) (x1 x2 : Int) : Call prog clsT X (d + 1) 203 [(2, 89), (0, x1), (0, x2)] (mk E c s (hh g)) =
  ((Call prog clsT X d 202 [(2, 89), (0, x1)] ((mk E c s (hh (up g 89 0 0))))).bind fun r1 => if r1.1.1 = 4 then none else
  Ev prog clsT X d mc203 6 [(2, 89), (0, x1), (0, x2)] (pushR r1.1 []) r1.2) :=
  (show Call prog clsT X (d + 1) 203 [(2, 89), (0, x1), (0, x2)] (mk E c s (hh g)) = Ev prog clsT X d mc203 0 [(2, 89), (0, x1), (0, x2)] [] (mk E c s (hh g)) from rfl).trans (r203_0 X E c s g d x1 x2 )
set_option maxRecDepth 100000 in
theorem r203_6 (d : Nat) (x1 x2 s0 : Int) : Ev prog clsT X d mc203 6 [(2, 89), (0, x1), (0, x2)] [(0, s0)] (mk E c s (hh g)) =
  (if cmpI .eq s0 0 = true then
  (some ((0, (-1)), ((mk E c s (hh g)))))
else
  ((Call prog clsT X d 157 [(2, 89), (0, x2)] ((mk E c s (hh g)))).bind fun r1 => if r1.1.1 = 4 then none else
    Ev prog clsT X d mc203 10 [(2, 89), (0, x1), (0, x2)] (pushR r1.1 []) r1.2)) :=
  (evk_at (r := (if cmpI .eq s0 0 = true then
  (some ((0, (-1)), (mk E c s (hh g))))
else
  (if (2 : Nat) = 2 ∧ rcv ((mk E c s (hh g))) 89 13 = true then
    ((Call prog clsT X d 157 [(2, 89), (0, x2)] ((mk E c s (hh g)))).bind fun r1 => if r1.1.1 = 4 then none else
    Ev prog clsT X d mc203 10 [(2, 89), (0, x1), (0, x2)] (pushR r1.1 []) r1.2) else none))) X [0, 6, 10, 17] 5 rfl).trans (by simp (maxSteps := 10000000) only [R89_13, bindI, Option.bind_some, if_true_, and_self, ite_true, true_and, true_or, or_true])
set_option maxRecDepth 100000 in
theorem r203_10 (d : Nat) (x1 x2 s0 : Int) : Ev prog clsT X d mc203 10 [(2, 89), (0, x1), (0, x2)] [(0, s0)] (mk E c s (hh g)) =
  (if cmpI .ne s0 0 = true then
  ((Call prog clsT X d 204 [(2, 89), (0, x1), (0, x2)] ((mk E c s (hh g)))).bind fun r1 => if r1.1.1 = 4 then none else
    Ev prog clsT X d mc203 17 [(2, 89), (0, x1), (0, x2)] (pushR r1.1 []) r1.2)
else
  (some ((0, (-1)), ((mk E c s (hh g)))))) :=
  (evk_at (r := (if cmpI .ne s0 0 = true then
  (if (2 : Nat) = 2 ∧ rcv ((mk E c s (hh g))) 89 13 = true then
    ((Call prog clsT X d 204 [(2, 89), (0, x1), (0, x2)] ((mk E c s (hh g)))).bind fun r1 => if r1.1.1 = 4 then none else
    Ev prog clsT X d mc203 17 [(2, 89), (0, x1), (0, x2)] (pushR r1.1 []) r1.2) else none)
else
  (some ((0, (-1)), (mk E c s (hh g)))))) X [0, 6, 10, 17] 6 rfl).trans (by simp (maxSteps := 10000000) only [R89_13, bindI, Option.bind_some, if_true_, and_self, ite_true, true_and, true_or, or_true])
set_option maxRecDepth 100000 in
theorem r203_17 (d : Nat) (x1 x2 s0 : Int) : Ev prog clsT X d mc203 17 [(2, 89), (0, x1), (0, x2)] [(0, s0)] (mk E c s (hh g)) =
  (if cmpI .eq s0 0 = true then
  (some ((0, 0), ((mk E c s (hh g)))))
else
  (some ((0, 1), ((mk E c s (hh g)))))) :=
  (evk_at (r := (if cmpI .eq s0 0 = true then
  (some ((0, 0), (mk E c s (hh g))))
else
  (some ((0, 1), (mk E c s (hh g)))))) X [0, 6, 10, 17] 5 rfl).trans (by simp (maxSteps := 10000000) only [bindI, Option.bind_some, if_true_, and_self, ite_true, true_and, true_or, or_true])
set_option maxRecDepth 100000 in
theorem r204_0 (d : Nat) (x1 x2 : Int) : Ev prog clsT X d mc204 0 [(2, 89), (0, x1), (0, x2), (3, 0)] [] (mk E c s (hh g)) =
  (Ev prog clsT X d mc204 2 [(2, 89), (0, x1), (0, x2), (0, 0)] [] (mk E c s (hh g))) :=
  evk_at X [0, 2] 4 rfl
set_option maxRecDepth 100000 in
theorem rc204_ (d : Nat) (x1 x2 : Int) : Call prog clsT X (d + 1) 204 [(2, 89), (0, x1), (0, x2)] (mk E c s (hh g)) =
  (Ev prog clsT X d mc204 2 [(2, 89), (0, x1), (0, x2), (0, 0)] [] (mk E c s (hh g))) :=
  (show Call prog clsT X (d + 1) 204 [(2, 89), (0, x1), (0, x2)] (mk E c s (hh g)) = Ev prog clsT X d mc204 0 [(2, 89), (0, x1), (0, x2), (3, 0)] [] (mk E c s (hh g)) from rfl).trans (r204_0 X E c s g d x1 x2 )
set_option maxRecDepth 100000 in
theorem r204_2 (d : Nat) (x1 x2 x3 : Int) : Ev prog clsT X d mc204 2 [(2, 89), (0, x1), (0, x2), (0, x3)] [] (mk E c s (hh g)) =
  (if cmpI .ge x3 ((g 89 10)) = true then
  (some ((0, 0), ((mk E c s (hh g)))))
else
  (if inb x3 40 = true then
    (if cmpI .ne ((g 104 (Int.toNat x3))) 0 = true then
    (Ev prog clsT X d mc204 2 [(2, 89), (0, x1), (0, x2), (0, (w32 (x3 + 1)))] [] (mk E c s (hh g)))
  else
    (if inb x3 40 = true then
      (if cmpI .ne ((g 99 (Int.toNat x3))) x2 = true then
      (Ev prog clsT X d mc204 2 [(2, 89), (0, x1), (0, x2), (0, (w32 (x3 + 1)))] [] (mk E c s (hh g)))
    else
      (if inb x3 40 = true then
        (if inb ((g 100 (Int.toNat x3))) 10 = true then
        (if inb x1 4 = true then
        (if cmpI .ne ((g 91 (Int.toNat ((g 100 (Int.toNat x3)))))) ((g 128 (Int.toNat x1))) = true then
        (Ev prog clsT X d mc204 2 [(2, 89), (0, x1), (0, x2), (0, (w32 (x3 + 1)))] [] (mk E c s (hh g)))
      else
        (some ((0, 1), ((mk E c s (hh g))))))
      else none)
      else none)
      else none))
    else none))
  else none)) :=
  (evk_at (r := ((fget 6184 ((mk E c s (hh g))) 89).bind fun v1 =>
  if cmpI .ge x3 v1 = true then
  (some ((0, 0), (mk E c s (hh g))))
else
  ((fget 6210 ((mk E c s (hh g))) 89).bind fun v2 =>
    (aget X 102 ((mk E c s (hh g))) v2 x3).bind fun v3 =>
    if cmpI .ne v3 0 = true then
    (Ev prog clsT X d mc204 2 [(2, 89), (0, x1), (0, x2), (0, (w32 (x3 + 1)))] [] (mk E c s (hh g)))
  else
    ((fget 6190 ((mk E c s (hh g))) 89).bind fun v4 =>
      (aget X 100 ((mk E c s (hh g))) v4 x3).bind fun v5 =>
      if cmpI .ne v5 x2 = true then
      (Ev prog clsT X d mc204 2 [(2, 89), (0, x1), (0, x2), (0, (w32 (x3 + 1)))] [] (mk E c s (hh g)))
    else
      ((fget 6154 ((mk E c s (hh g))) 89).bind fun v6 =>
        (fget 6194 ((mk E c s (hh g))) 89).bind fun v7 =>
        (aget X 100 ((mk E c s (hh g))) v7 x3).bind fun v8 =>
        (aget X 100 ((mk E c s (hh g))) v6 v8).bind fun v9 =>
        (fget 6346 ((mk E c s (hh g))) 89).bind fun v10 =>
        (aget X 100 ((mk E c s (hh g))) v10 x1).bind fun v11 =>
        if cmpI .ne v9 v11 = true then
        (Ev prog clsT X d mc204 2 [(2, 89), (0, x1), (0, x2), (0, (w32 (x3 + 1)))] [] (mk E c s (hh g)))
      else
        (some ((0, 1), (mk E c s (hh g))))))))) X [0, 2] 31 rfl).trans (by simp (maxSteps := 10000000) only [↓A100, ↓A104, ↓A128, ↓A91, ↓A99, ↓F6154_89, ↓F6184_89, ↓F6190_89, ↓F6194_89, ↓F6210_89, ↓F6346_89, bindI, Option.bind_some, if_true_, and_self, ite_true, true_and, true_or, or_true])
set_option maxRecDepth 100000 in
theorem r205_0 (d : Nat) (x1 x2 : Int) : Ev prog clsT X d mc205 0 [(2, 89), (0, x1), (0, x2)] [] (mk E c s (hh g)) =
  ((Call prog clsT X d 162 [(2, 89), (0, x1)] ((mk E c s (hh g)))).bind fun r1 => if r1.1.1 = 4 then none else
  Ev prog clsT X d mc205 4 [(2, 89), (0, x1), (0, x2)] (pushR r1.1 [(2, 89)]) r1.2) :=
  (evk_at (r := (if (2 : Nat) = 2 ∧ rcv ((mk E c s (hh g))) 89 13 = true then
  ((Call prog clsT X d 162 [(2, 89), (0, x1)] ((mk E c s (hh g)))).bind fun r1 => if r1.1.1 = 4 then none else
  Ev prog clsT X d mc205 4 [(2, 89), (0, x1), (0, x2)] (pushR r1.1 [(2, 89)]) r1.2) else none)) X [0, 4, 8, 23] 5 rfl).trans (by simp (maxSteps := 10000000) only [R89_13, bindI, Option.bind_some, if_true_, and_self, ite_true, true_and, true_or, or_true])
set_option maxRecDepth 100000 in
theorem rc205_ (d : Nat) (x1 x2 : Int) : Call prog clsT X (d + 1) 205 [(2, 89), (0, x1), (0, x2)] (mk E c s (hh g)) =
  ((Call prog clsT X d 162 [(2, 89), (0, x1)] ((mk E c s (hh g)))).bind fun r1 => if r1.1.1 = 4 then none else
  Ev prog clsT X d mc205 4 [(2, 89), (0, x1), (0, x2)] (pushR r1.1 [(2, 89)]) r1.2) :=
  (show Call prog clsT X (d + 1) 205 [(2, 89), (0, x1), (0, x2)] (mk E c s (hh g)) = Ev prog clsT X d mc205 0 [(2, 89), (0, x1), (0, x2)] [] (mk E c s (hh g)) from rfl).trans (r205_0 X E c s g d x1 x2 )
set_option maxRecDepth 100000 in
theorem r205_4 (d : Nat) (x1 x2 s1 : Int) : Ev prog clsT X d mc205 4 [(2, 89), (0, x1), (0, x2)] [(0, s1), (2, 89)] (mk E c s (hh g)) =
  (if cmpI .eq s1 0 = true then
  (if cmpI .ne 1 1 = true then
    ((Call prog clsT X d 206 [(2, 89), (0, x1), (0, x2)] ((mk E c s (hh (up g 89 0 1))))).bind fun r1 => if r1.1.1 = 4 then none else
      Ev prog clsT X d mc205 23 [(2, 89), (0, x1), (0, x2)] (pushR r1.1 []) r1.2)
  else
    (Ev prog clsT X d mc205 23 [(2, 89), (0, x1), (0, x2)] [(0, 0)] (mk E c s (hh (up g 89 0 1)))))
else
  ((Call prog clsT X d 202 [(2, 89), (0, x2)] ((mk E c s (hh g)))).bind fun r2 => if r2.1.1 = 4 then none else
    Ev prog clsT X d mc205 8 [(2, 89), (0, x1), (0, x2)] (pushR r2.1 [(2, 89)]) r2.2)) :=
  (evk_at (r := (if cmpI .eq s1 0 = true then
  ((fput 6144 ((mk E c s (hh g))) 89 1).bind fun M1 =>
    (fget 6144 M1 89).bind fun v2 =>
    if cmpI .ne v2 1 = true then
    (if (2 : Nat) = 2 ∧ rcv M1 89 13 = true then
      ((Call prog clsT X d 206 [(2, 89), (0, x1), (0, x2)] M1).bind fun r3 => if r3.1.1 = 4 then none else
      Ev prog clsT X d mc205 23 [(2, 89), (0, x1), (0, x2)] (pushR r3.1 []) r3.2) else none)
  else
    (Ev prog clsT X d mc205 23 [(2, 89), (0, x1), (0, x2)] [(0, 0)] M1))
else
  (if (2 : Nat) = 2 ∧ rcv ((mk E c s (hh g))) 89 13 = true then
    ((Call prog clsT X d 202 [(2, 89), (0, x2)] ((mk E c s (hh g)))).bind fun r4 => if r4.1.1 = 4 then none else
    Ev prog clsT X d mc205 8 [(2, 89), (0, x1), (0, x2)] (pushR r4.1 [(2, 89)]) r4.2) else none))) X [0, 4, 8, 23] 12 rfl).trans (by simp (maxSteps := 10000000) only [R89_13, up_same, ↓F6144_89, ↓W6144_89, bindI, Option.bind_some, if_true_, and_self, ite_true, true_and, true_or, or_true])
set_option maxRecDepth 100000 in
theorem r205_8 (d : Nat) (x1 x2 s1 : Int) : Ev prog clsT X d mc205 8 [(2, 89), (0, x1), (0, x2)] [(0, s1), (2, 89)] (mk E c s (hh g)) =
  (if cmpI .eq s1 0 = true then
  (if cmpI .ne 1 1 = true then
    ((Call prog clsT X d 206 [(2, 89), (0, x1), (0, x2)] ((mk E c s (hh (up g 89 0 1))))).bind fun r1 => if r1.1.1 = 4 then none else
      Ev prog clsT X d mc205 23 [(2, 89), (0, x1), (0, x2)] (pushR r1.1 []) r1.2)
  else
    (Ev prog clsT X d mc205 23 [(2, 89), (0, x1), (0, x2)] [(0, 0)] (mk E c s (hh (up g 89 0 1)))))
else
  (if cmpI .ne 0 1 = true then
    ((Call prog clsT X d 206 [(2, 89), (0, x1), (0, x2)] ((mk E c s (hh (up g 89 0 0))))).bind fun r2 => if r2.1.1 = 4 then none else
      Ev prog clsT X d mc205 23 [(2, 89), (0, x1), (0, x2)] (pushR r2.1 []) r2.2)
  else
    (Ev prog clsT X d mc205 23 [(2, 89), (0, x1), (0, x2)] [(0, 0)] (mk E c s (hh (up g 89 0 0)))))) :=
  (evk_at (r := (if cmpI .eq s1 0 = true then
  ((fput 6144 ((mk E c s (hh g))) 89 1).bind fun M1 =>
    (fget 6144 M1 89).bind fun v2 =>
    if cmpI .ne v2 1 = true then
    (if (2 : Nat) = 2 ∧ rcv M1 89 13 = true then
      ((Call prog clsT X d 206 [(2, 89), (0, x1), (0, x2)] M1).bind fun r3 => if r3.1.1 = 4 then none else
      Ev prog clsT X d mc205 23 [(2, 89), (0, x1), (0, x2)] (pushR r3.1 []) r3.2) else none)
  else
    (Ev prog clsT X d mc205 23 [(2, 89), (0, x1), (0, x2)] [(0, 0)] M1))
else
  ((fput 6144 ((mk E c s (hh g))) 89 0).bind fun M4 =>
    (fget 6144 M4 89).bind fun v5 =>
    if cmpI .ne v5 1 = true then
    (if (2 : Nat) = 2 ∧ rcv M4 89 13 = true then
      ((Call prog clsT X d 206 [(2, 89), (0, x1), (0, x2)] M4).bind fun r6 => if r6.1.1 = 4 then none else
      Ev prog clsT X d mc205 23 [(2, 89), (0, x1), (0, x2)] (pushR r6.1 []) r6.2) else none)
  else
    (Ev prog clsT X d mc205 23 [(2, 89), (0, x1), (0, x2)] [(0, 0)] M4)))) X [0, 4, 8, 23] 13 rfl).trans (by simp (maxSteps := 10000000) only [R89_13, up_same, ↓F6144_89, ↓W6144_89, bindI, Option.bind_some, if_true_, and_self, ite_true, true_and, true_or, or_true])
set_option maxRecDepth 100000 in
theorem r205_23 (d : Nat) (x1 x2 s0 : Int) : Ev prog clsT X d mc205 23 [(2, 89), (0, x1), (0, x2)] [(0, s0)] (mk E c s (hh g)) =
  (some ((0, s0), ((mk E c s (hh g))))) :=
  (evk_at (r := (some ((0, s0), (mk E c s (hh g))))) X [0, 4, 8, 23] 2 rfl).trans (by simp (maxSteps := 10000000) only [bindI, Option.bind_some, if_true_, and_self, ite_true, true_and, true_or, or_true])
set_option maxRecDepth 100000 in
theorem r206_0 (d : Nat) (x1 x2 : Int) : Ev prog clsT X d mc206 0 [(2, 89), (0, x1), (0, x2)] [] (mk E c s (hh g)) =
  ((Call prog clsT X d 189 [(2, 89), (0, x1)] ((mk E c s (hh g)))).bind fun r1 => if r1.1.1 = 4 then none else
  Ev prog clsT X d mc206 3 [(2, 89), (0, x1), (0, x2)] (pushR r1.1 []) r1.2) :=
  (evk_at (r := (if (2 : Nat) = 2 ∧ rcv ((mk E c s (hh g))) 89 13 = true then
  ((Call prog clsT X d 189 [(2, 89), (0, x1)] ((mk E c s (hh g)))).bind fun r1 => if r1.1.1 = 4 then none else
  Ev prog clsT X d mc206 3 [(2, 89), (0, x1), (0, x2)] (pushR r1.1 []) r1.2) else none)) X [0, 3, 9] 4 rfl).trans (by simp (maxSteps := 10000000) only [R89_13, bindI, Option.bind_some, if_true_, and_self, ite_true, true_and, true_or, or_true])
set_option maxRecDepth 100000 in
theorem rc206_ (d : Nat) (x1 x2 : Int) : Call prog clsT X (d + 1) 206 [(2, 89), (0, x1), (0, x2)] (mk E c s (hh g)) =
  ((Call prog clsT X d 189 [(2, 89), (0, x1)] ((mk E c s (hh g)))).bind fun r1 => if r1.1.1 = 4 then none else
  Ev prog clsT X d mc206 3 [(2, 89), (0, x1), (0, x2)] (pushR r1.1 []) r1.2) :=
  (show Call prog clsT X (d + 1) 206 [(2, 89), (0, x1), (0, x2)] (mk E c s (hh g)) = Ev prog clsT X d mc206 0 [(2, 89), (0, x1), (0, x2)] [] (mk E c s (hh g)) from rfl).trans (r206_0 X E c s g d x1 x2 )
set_option maxRecDepth 100000 in
theorem r206_3 (d : Nat) (x1 x2 : Int) : Ev prog clsT X d mc206 3 [(2, 89), (0, x1), (0, x2)] [] (mk E c s (hh g)) =
  (if inb x1 40 = true then
  ((Call prog clsT X d 207 [(2, 89), (0, (g 99 (Int.toNat x1)))] ((mk E c s (hh g)))).bind fun r1 => if r1.1.1 = 4 then none else
  Ev prog clsT X d mc206 9 [(2, 89), (0, x1), (0, x2)] (pushR r1.1 []) r1.2)
else none) :=
  (evk_at (r := ((fget 6190 ((mk E c s (hh g))) 89).bind fun v1 =>
  (aget X 100 ((mk E c s (hh g))) v1 x1).bind fun v2 =>
  if (2 : Nat) = 2 ∧ rcv ((mk E c s (hh g))) 89 13 = true then
  ((Call prog clsT X d 207 [(2, 89), (0, v2)] ((mk E c s (hh g)))).bind fun r3 => if r3.1.1 = 4 then none else
  Ev prog clsT X d mc206 9 [(2, 89), (0, x1), (0, x2)] (pushR r3.1 []) r3.2) else none)) X [0, 3, 9] 7 rfl).trans (by simp (maxSteps := 10000000) only [R89_13, ↓A99, ↓F6190_89, bindI, Option.bind_some, if_true_, and_self, ite_true, true_and, true_or, or_true])
set_option maxRecDepth 100000 in
theorem r206_9 (d : Nat) (x1 x2 s0 : Int) : Ev prog clsT X d mc206 9 [(2, 89), (0, x1), (0, x2)] [(0, s0)] (mk E c s (hh g)) =
  (if inb x1 40 = true then
  (if inb ((g 100 (Int.toNat x1))) 10 = true then
  (if inb ((w32 (((w32 (6 * x2))) + ((g 91 (Int.toNat ((g 100 (Int.toNat x1))))))))) 24 = true then
  (some ((0, (w32 (s0 + ((g 129 (Int.toNat ((w32 (((w32 (6 * x2))) + ((g 91 (Int.toNat ((g 100 (Int.toNat x1))))))))))))))), ((mk E c s (hh g)))))
else none)
else none)
else none) :=
  (evk_at (r := ((fget 6350 ((mk E c s (hh g))) 89).bind fun v1 =>
  (fget 6154 ((mk E c s (hh g))) 89).bind fun v2 =>
  (fget 6194 ((mk E c s (hh g))) 89).bind fun v3 =>
  (aget X 100 ((mk E c s (hh g))) v3 x1).bind fun v4 =>
  (aget X 100 ((mk E c s (hh g))) v2 v4).bind fun v5 =>
  (aget X 100 ((mk E c s (hh g))) v1 ((w32 (((w32 (6 * x2))) + v5)))).bind fun v6 =>
  some ((0, (w32 (s0 + v6))), (mk E c s (hh g))))) X [0, 3, 9] 17 rfl).trans (by simp (maxSteps := 10000000) only [↓A100, ↓A129, ↓A91, ↓F6154_89, ↓F6194_89, ↓F6350_89, bindI, Option.bind_some, if_true_, and_self, ite_true, true_and, true_or, or_true])
set_option maxRecDepth 100000 in
theorem r207_0 (d : Nat) (x1 : Int) : Ev prog clsT X d mc207 0 [(2, 89), (0, x1)] [] (mk E c s (hh g)) =
  (if inb ((w32 (((w32 (9 * x1))) + 6))) 117 = true then
  (if cmpI .eq ((g 110 (Int.toNat ((w32 (((w32 (9 * x1))) + 6)))))) 0 = true then
  (some ((0, 0), ((mk E c s (hh g)))))
else
  ((Call prog clsT X d 194 [(2, 89), (0, (w32 (((w32 (9 * x1))) + 6)))] ((mk E c s (hh g)))).bind fun r1 => if r1.1.1 = 4 then none else
    Ev prog clsT X d mc207 16 [(2, 89), (0, x1)] (pushR r1.1 []) r1.2))
else none) :=
  (evk_at (r := ((fget 6266 ((mk E c s (hh g))) 89).bind fun v1 =>
  (aget X 102 ((mk E c s (hh g))) v1 ((w32 (((w32 (9 * x1))) + 6)))).bind fun v2 =>
  if cmpI .eq v2 0 = true then
  (some ((0, 0), (mk E c s (hh g))))
else
  (if (2 : Nat) = 2 ∧ rcv ((mk E c s (hh g))) 89 13 = true then
    ((Call prog clsT X d 194 [(2, 89), (0, (w32 (((w32 (9 * x1))) + 6)))] ((mk E c s (hh g)))).bind fun r3 => if r3.1.1 = 4 then none else
    Ev prog clsT X d mc207 16 [(2, 89), (0, x1)] (pushR r3.1 []) r3.2) else none))) X [0, 16] 17 rfl).trans (by simp (maxSteps := 10000000) only [R89_13, ↓A110, ↓F6266_89, bindI, Option.bind_some, if_true_, and_self, ite_true, true_and, true_or, or_true])
set_option maxRecDepth 100000 in
theorem rc207_ (d : Nat) (x1 : Int) : Call prog clsT X (d + 1) 207 [(2, 89), (0, x1)] (mk E c s (hh g)) =
  (if inb ((w32 (((w32 (9 * x1))) + 6))) 117 = true then
  (if cmpI .eq ((g 110 (Int.toNat ((w32 (((w32 (9 * x1))) + 6)))))) 0 = true then
  (some ((0, 0), ((mk E c s (hh g)))))
else
  ((Call prog clsT X d 194 [(2, 89), (0, (w32 (((w32 (9 * x1))) + 6)))] ((mk E c s (hh g)))).bind fun r1 => if r1.1.1 = 4 then none else
    Ev prog clsT X d mc207 16 [(2, 89), (0, x1)] (pushR r1.1 []) r1.2))
else none) :=
  (show Call prog clsT X (d + 1) 207 [(2, 89), (0, x1)] (mk E c s (hh g)) = Ev prog clsT X d mc207 0 [(2, 89), (0, x1)] [] (mk E c s (hh g)) from rfl).trans (r207_0 X E c s g d x1 )
set_option maxRecDepth 100000 in
theorem r207_16 (d : Nat) (x1 s0 : Int) : Ev prog clsT X d mc207 16 [(2, 89), (0, x1)] [(0, s0)] (mk E c s (hh g)) =
  (some ((0, s0), ((mk E c s (hh g))))) :=
  (evk_at (r := (some ((0, s0), (mk E c s (hh g))))) X [0, 16] 3 rfl).trans (by simp (maxSteps := 10000000) only [bindI, Option.bind_some, if_true_, and_self, ite_true, true_and, true_or, or_true])
set_option maxRecDepth 100000 in
theorem r208_0 (d : Nat) (x1 x2 : Int) : Ev prog clsT X d mc208 0 [(2, 89), (0, x1), (0, x2)] [] (mk E c s (hh g)) =
  ((Call prog clsT X d 162 [(2, 89), (0, x1)] ((mk E c s (hh (up g 89 0 0))))).bind fun r1 => if r1.1.1 = 4 then none else
  Ev prog clsT X d mc208 6 [(2, 89), (0, x1), (0, x2)] (pushR r1.1 []) r1.2) :=
  (evk_at (r := ((fput 6144 ((mk E c s (hh g))) 89 0).bind fun M1 =>
  if (2 : Nat) = 2 ∧ rcv M1 89 13 = true then
  ((Call prog clsT X d 162 [(2, 89), (0, x1)] M1).bind fun r2 => if r2.1.1 = 4 then none else
  Ev prog clsT X d mc208 6 [(2, 89), (0, x1), (0, x2)] (pushR r2.1 []) r2.2) else none)) X [0, 6, 13, 22, 27] 7 rfl).trans (by simp (maxSteps := 10000000) only [R89_13, ↓W6144_89, bindI, Option.bind_some, if_true_, and_self, ite_true, true_and, true_or, or_true])
set_option maxRecDepth 100000 in
theorem rc208_ (d : Nat) (x1 x2 : Int) : Call prog clsT X (d + 1) 208 [(2, 89), (0, x1), (0, x2)] (mk E c s (hh g)) =
  ((Call prog clsT X d 162 [(2, 89), (0, x1)] ((mk E c s (hh (up g 89 0 0))))).bind fun r1 => if r1.1.1 = 4 then none else
  Ev prog clsT X d mc208 6 [(2, 89), (0, x1), (0, x2)] (pushR r1.1 []) r1.2) :=
  (show Call prog clsT X (d + 1) 208 [(2, 89), (0, x1), (0, x2)] (mk E c s (hh g)) = Ev prog clsT X d mc208 0 [(2, 89), (0, x1), (0, x2)] [] (mk E c s (hh g)) from rfl).trans (r208_0 X E c s g d x1 x2 )
set_option maxRecDepth 100000 in
theorem r208_6 (d : Nat) (x1 x2 s0 : Int) : Ev prog clsT X d mc208 6 [(2, 89), (0, x1), (0, x2)] [(0, s0)] (mk E c s (hh g)) =
  (if cmpI .eq s0 0 = true then
  (some ((0, (-1)), ((mk E c s (hh g)))))
else
  (if cmpI .eq x2 ((-1)) = true then
    (if cmpI .ne x2 ((-1)) = true then
      ((Call prog clsT X d 210 [(2, 89), (0, x1), (0, x2)] ((mk E c s (hh g)))).bind fun r1 => if r1.1.1 = 4 then none else
        Ev prog clsT X d mc208 27 [(2, 89), (0, x1), (0, x2)] (pushR r1.1 []) r1.2)
    else
      ((Call prog clsT X d 209 [(2, 89), (0, x1)] ((mk E c s (hh g)))).bind fun r2 => if r2.1.1 = 4 then none else
        Ev prog clsT X d mc208 22 [(2, 89), (0, x1), (0, x2)] (pushR r2.1 []) r2.2))
  else
    ((Call prog clsT X d 202 [(2, 89), (0, x2)] ((mk E c s (hh g)))).bind fun r3 => if r3.1.1 = 4 then none else
      Ev prog clsT X d mc208 13 [(2, 89), (0, x1), (0, x2)] (pushR r3.1 []) r3.2))) :=
  (evk_at (r := (if cmpI .eq s0 0 = true then
  (some ((0, (-1)), (mk E c s (hh g))))
else
  (if cmpI .eq x2 ((-1)) = true then
    (if cmpI .ne x2 ((-1)) = true then
      (if (2 : Nat) = 2 ∧ rcv ((mk E c s (hh g))) 89 13 = true then
        ((Call prog clsT X d 210 [(2, 89), (0, x1), (0, x2)] ((mk E c s (hh g)))).bind fun r1 => if r1.1.1 = 4 then none else
        Ev prog clsT X d mc208 27 [(2, 89), (0, x1), (0, x2)] (pushR r1.1 []) r1.2) else none)
    else
      (if (2 : Nat) = 2 ∧ rcv ((mk E c s (hh g))) 89 13 = true then
        ((Call prog clsT X d 209 [(2, 89), (0, x1)] ((mk E c s (hh g)))).bind fun r2 => if r2.1.1 = 4 then none else
        Ev prog clsT X d mc208 22 [(2, 89), (0, x1), (0, x2)] (pushR r2.1 []) r2.2) else none))
  else
    (if (2 : Nat) = 2 ∧ rcv ((mk E c s (hh g))) 89 13 = true then
      ((Call prog clsT X d 202 [(2, 89), (0, x2)] ((mk E c s (hh g)))).bind fun r3 => if r3.1.1 = 4 then none else
      Ev prog clsT X d mc208 13 [(2, 89), (0, x1), (0, x2)] (pushR r3.1 []) r3.2) else none)))) X [0, 6, 13, 22, 27] 12 rfl).trans (by simp (maxSteps := 10000000) only [R89_13, bindI, Option.bind_some, if_true_, and_self, ite_true, true_and, true_or, or_true])
set_option maxRecDepth 100000 in
theorem r208_13 (d : Nat) (x1 x2 s0 : Int) : Ev prog clsT X d mc208 13 [(2, 89), (0, x1), (0, x2)] [(0, s0)] (mk E c s (hh g)) =
  (if cmpI .ne s0 0 = true then
  (if cmpI .ne x2 ((-1)) = true then
    ((Call prog clsT X d 210 [(2, 89), (0, x1), (0, x2)] ((mk E c s (hh g)))).bind fun r1 => if r1.1.1 = 4 then none else
      Ev prog clsT X d mc208 27 [(2, 89), (0, x1), (0, x2)] (pushR r1.1 []) r1.2)
  else
    ((Call prog clsT X d 209 [(2, 89), (0, x1)] ((mk E c s (hh g)))).bind fun r2 => if r2.1.1 = 4 then none else
      Ev prog clsT X d mc208 22 [(2, 89), (0, x1), (0, x2)] (pushR r2.1 []) r2.2))
else
  (some ((0, (-1)), ((mk E c s (hh g)))))) :=
  (evk_at (r := (if cmpI .ne s0 0 = true then
  (if cmpI .ne x2 ((-1)) = true then
    (if (2 : Nat) = 2 ∧ rcv ((mk E c s (hh g))) 89 13 = true then
      ((Call prog clsT X d 210 [(2, 89), (0, x1), (0, x2)] ((mk E c s (hh g)))).bind fun r1 => if r1.1.1 = 4 then none else
      Ev prog clsT X d mc208 27 [(2, 89), (0, x1), (0, x2)] (pushR r1.1 []) r1.2) else none)
  else
    (if (2 : Nat) = 2 ∧ rcv ((mk E c s (hh g))) 89 13 = true then
      ((Call prog clsT X d 209 [(2, 89), (0, x1)] ((mk E c s (hh g)))).bind fun r2 => if r2.1.1 = 4 then none else
      Ev prog clsT X d mc208 22 [(2, 89), (0, x1), (0, x2)] (pushR r2.1 []) r2.2) else none))
else
  (some ((0, (-1)), (mk E c s (hh g)))))) X [0, 6, 13, 22, 27] 9 rfl).trans (by simp (maxSteps := 10000000) only [R89_13, bindI, Option.bind_some, if_true_, and_self, ite_true, true_and, true_or, or_true])
set_option maxRecDepth 100000 in
theorem r208_22 (d : Nat) (x1 x2 s0 : Int) : Ev prog clsT X d mc208 22 [(2, 89), (0, x1), (0, x2)] [(0, s0)] (mk E c s (hh g)) =
  (Ev prog clsT X d mc208 27 [(2, 89), (0, x1), (0, x2)] [(0, s0)] (mk E c s (hh g))) :=
  evk_at X [0, 6, 13, 22, 27] 3 rfl
set_option maxRecDepth 100000 in
theorem r208_27 (d : Nat) (x1 x2 s0 : Int) : Ev prog clsT X d mc208 27 [(2, 89), (0, x1), (0, x2)] [(0, s0)] (mk E c s (hh g)) =
  (some ((0, s0), ((mk E c s (hh g))))) :=
  (evk_at (r := (some ((0, s0), (mk E c s (hh g))))) X [0, 6, 13, 22, 27] 2 rfl).trans (by simp (maxSteps := 10000000) only [bindI, Option.bind_some, if_true_, and_self, ite_true, true_and, true_or, or_true])
set_option maxRecDepth 100000 in
theorem r209_0 (d : Nat) (x1 : Int) : Ev prog clsT X d mc209 0 [(2, 89), (0, x1)] [] (mk E c s (hh g)) =
  (if inb x1 40 = true then
  (if inb ((g 99 (Int.toNat x1))) 10 = true then
  (if cmpI .ge ((g 130 (Int.toNat ((g 99 (Int.toNat x1)))))) 0 = true then
  (if inb x1 40 = true then
    (if inb ((g 99 (Int.toNat x1))) 10 = true then
    ((Call prog clsT X d 210 [(2, 89), (0, x1), (0, (g 130 (Int.toNat ((g 99 (Int.toNat x1))))))] ((mk E c s (hh g)))).bind fun r1 => if r1.1.1 = 4 then none else
    Ev prog clsT X d mc209 20 [(2, 89), (0, x1)] (pushR r1.1 []) r1.2)
  else none)
  else none)
else
  (Ev prog clsT X d mc209 20 [(2, 89), (0, x1)] [(0, (-1))] (mk E c s (hh g))))
else none)
else none) :=
  (evk_at (r := ((fget 6354 ((mk E c s (hh g))) 89).bind fun v1 =>
  (fget 6190 ((mk E c s (hh g))) 89).bind fun v2 =>
  (aget X 100 ((mk E c s (hh g))) v2 x1).bind fun v3 =>
  (aget X 100 ((mk E c s (hh g))) v1 v3).bind fun v4 =>
  if cmpI .ge v4 0 = true then
  ((fget 6354 ((mk E c s (hh g))) 89).bind fun v5 =>
    (fget 6190 ((mk E c s (hh g))) 89).bind fun v6 =>
    (aget X 100 ((mk E c s (hh g))) v6 x1).bind fun v7 =>
    (aget X 100 ((mk E c s (hh g))) v5 v7).bind fun v8 =>
    if (2 : Nat) = 2 ∧ rcv ((mk E c s (hh g))) 89 13 = true then
    ((Call prog clsT X d 210 [(2, 89), (0, x1), (0, v8)] ((mk E c s (hh g)))).bind fun r9 => if r9.1.1 = 4 then none else
    Ev prog clsT X d mc209 20 [(2, 89), (0, x1)] (pushR r9.1 []) r9.2) else none)
else
  (Ev prog clsT X d mc209 20 [(2, 89), (0, x1)] [(0, (-1))] (mk E c s (hh g))))) X [0, 20] 19 rfl).trans (by simp (maxSteps := 10000000) only [R89_13, ↓A130, ↓A99, ↓F6190_89, ↓F6354_89, bindI, Option.bind_some, if_true_, and_self, ite_true, true_and, true_or, or_true])
set_option maxRecDepth 100000 in
theorem rc209_ (d : Nat) (x1 : Int) : Call prog clsT X (d + 1) 209 [(2, 89), (0, x1)] (mk E c s (hh g)) =
  (if inb x1 40 = true then
  (if inb ((g 99 (Int.toNat x1))) 10 = true then
  (if cmpI .ge ((g 130 (Int.toNat ((g 99 (Int.toNat x1)))))) 0 = true then
  (if inb x1 40 = true then
    (if inb ((g 99 (Int.toNat x1))) 10 = true then
    ((Call prog clsT X d 210 [(2, 89), (0, x1), (0, (g 130 (Int.toNat ((g 99 (Int.toNat x1))))))] ((mk E c s (hh g)))).bind fun r1 => if r1.1.1 = 4 then none else
    Ev prog clsT X d mc209 20 [(2, 89), (0, x1)] (pushR r1.1 []) r1.2)
  else none)
  else none)
else
  (Ev prog clsT X d mc209 20 [(2, 89), (0, x1)] [(0, (-1))] (mk E c s (hh g))))
else none)
else none) :=
  (show Call prog clsT X (d + 1) 209 [(2, 89), (0, x1)] (mk E c s (hh g)) = Ev prog clsT X d mc209 0 [(2, 89), (0, x1)] [] (mk E c s (hh g)) from rfl).trans (r209_0 X E c s g d x1 )
set_option maxRecDepth 100000 in
theorem r209_20 (d : Nat) (x1 s0 : Int) : Ev prog clsT X d mc209 20 [(2, 89), (0, x1)] [(0, s0)] (mk E c s (hh g)) =
  (some ((0, s0), ((mk E c s (hh g))))) :=
  (evk_at (r := (some ((0, s0), (mk E c s (hh g))))) X [0, 20] 2 rfl).trans (by simp (maxSteps := 10000000) only [bindI, Option.bind_some, if_true_, and_self, ite_true, true_and, true_or, or_true])
set_option maxRecDepth 100000 in
theorem r210_0 (d : Nat) (x1 x2 : Int) : Ev prog clsT X d mc210 0 [(2, 89), (0, x1), (0, x2), (3, 0), (3, 0), (3, 0), (3, 0), (3, 0)] [] (mk E c s (hh g)) =
  ((Call prog clsT X d 211 [(2, 89), (0, x1)] ((mk E c s (hh g)))).bind fun r1 => if r1.1.1 = 4 then none else
  Ev prog clsT X d mc210 3 [(2, 89), (0, x1), (0, x2), (3, 0), (3, 0), (3, 0), (3, 0), (3, 0)] (pushR r1.1 []) r1.2) :=
  (evk_at (r := (if (2 : Nat) = 2 ∧ rcv ((mk E c s (hh g))) 89 13 = true then
  ((Call prog clsT X d 211 [(2, 89), (0, x1)] ((mk E c s (hh g)))).bind fun r1 => if r1.1.1 = 4 then none else
  Ev prog clsT X d mc210 3 [(2, 89), (0, x1), (0, x2), (3, 0), (3, 0), (3, 0), (3, 0), (3, 0)] (pushR r1.1 []) r1.2) else none)) X [0, 3, 10, 14, 19, 38, 44, 55] 4 rfl).trans (by simp (maxSteps := 10000000) only [R89_13, bindI, Option.bind_some, if_true_, and_self, ite_true, true_and, true_or, or_true])
set_option maxRecDepth 100000 in
theorem rc210_ (d : Nat) (x1 x2 : Int) : Call prog clsT X (d + 1) 210 [(2, 89), (0, x1), (0, x2)] (mk E c s (hh g)) =
  ((Call prog clsT X d 211 [(2, 89), (0, x1)] ((mk E c s (hh g)))).bind fun r1 => if r1.1.1 = 4 then none else
  Ev prog clsT X d mc210 3 [(2, 89), (0, x1), (0, x2), (3, 0), (3, 0), (3, 0), (3, 0), (3, 0)] (pushR r1.1 []) r1.2) :=
  (show Call prog clsT X (d + 1) 210 [(2, 89), (0, x1), (0, x2)] (mk E c s (hh g)) = Ev prog clsT X d mc210 0 [(2, 89), (0, x1), (0, x2), (3, 0), (3, 0), (3, 0), (3, 0), (3, 0)] [] (mk E c s (hh g)) from rfl).trans (r210_0 X E c s g d x1 x2 )
set_option maxRecDepth 100000 in
theorem r210_3 (d : Nat) (x1 x2 s0 : Int) : Ev prog clsT X d mc210 3 [(2, 89), (0, x1), (0, x2), (3, 0), (3, 0), (3, 0), (3, 0), (3, 0)] [(0, s0)] (mk E c s (hh g)) =
  (if cmpI .ne s0 0 = true then
  ((Call prog clsT X d 206 [(2, 89), (0, x1), (0, x2)] ((mk E c s (hh g)))).bind fun r1 => if r1.1.1 = 4 then none else
    Ev prog clsT X d mc210 10 [(2, 89), (0, x1), (0, x2), (3, 0), (3, 0), (3, 0), (3, 0), (3, 0)] (pushR r1.1 []) r1.2)
else
  (some ((0, (-1)), ((mk E c s (hh g)))))) :=
  (evk_at (r := (if cmpI .ne s0 0 = true then
  (if (2 : Nat) = 2 ∧ rcv ((mk E c s (hh g))) 89 13 = true then
    ((Call prog clsT X d 206 [(2, 89), (0, x1), (0, x2)] ((mk E c s (hh g)))).bind fun r1 => if r1.1.1 = 4 then none else
    Ev prog clsT X d mc210 10 [(2, 89), (0, x1), (0, x2), (3, 0), (3, 0), (3, 0), (3, 0), (3, 0)] (pushR r1.1 []) r1.2) else none)
else
  (some ((0, (-1)), (mk E c s (hh g)))))) X [0, 3, 10, 14, 19, 38, 44, 55] 6 rfl).trans (by simp (maxSteps := 10000000) only [R89_13, bindI, Option.bind_some, if_true_, and_self, ite_true, true_and, true_or, or_true])
set_option maxRecDepth 100000 in
theorem r210_10 (d : Nat) (x1 x2 s0 : Int) : Ev prog clsT X d mc210 10 [(2, 89), (0, x1), (0, x2), (3, 0), (3, 0), (3, 0), (3, 0), (3, 0)] [(0, s0)] (mk E c s (hh g)) =
  ((Call prog clsT X d 212 [(2, 89), (0, x1)] ((mk E c s (hh g)))).bind fun r1 => if r1.1.1 = 4 then none else
  Ev prog clsT X d mc210 14 [(2, 89), (0, x1), (0, x2), (0, s0), (3, 0), (3, 0), (3, 0), (3, 0)] (pushR r1.1 []) r1.2) :=
  (evk_at (r := (if (2 : Nat) = 2 ∧ rcv ((mk E c s (hh g))) 89 13 = true then
  ((Call prog clsT X d 212 [(2, 89), (0, x1)] ((mk E c s (hh g)))).bind fun r1 => if r1.1.1 = 4 then none else
  Ev prog clsT X d mc210 14 [(2, 89), (0, x1), (0, x2), (0, s0), (3, 0), (3, 0), (3, 0), (3, 0)] (pushR r1.1 []) r1.2) else none)) X [0, 3, 10, 14, 19, 38, 44, 55] 5 rfl).trans (by simp (maxSteps := 10000000) only [R89_13, bindI, Option.bind_some, if_true_, and_self, ite_true, true_and, true_or, or_true])
set_option maxRecDepth 100000 in
theorem r210_14 (d : Nat) (x1 x2 x3 s0 : Int) : Ev prog clsT X d mc210 14 [(2, 89), (0, x1), (0, x2), (0, x3), (3, 0), (3, 0), (3, 0), (3, 0)] [(0, s0)] (mk E c s (hh g)) =
  (Ev prog clsT X d mc210 19 [(2, 89), (0, x1), (0, x2), (0, x3), (0, s0), (0, 1), (0, 0), (3, 0)] [] (mk E c s (hh g))) :=
  evk_at X [0, 3, 10, 14, 19, 38, 44, 55] 7 rfl
set_option maxRecDepth 100000 in
theorem r210_19 (d : Nat) (x1 x2 x3 x4 x5 x6 : Int) (w7 : MV) : Ev prog clsT X d mc210 19 [(2, 89), (0, x1), (0, x2), (0, x3), (0, x4), (0, x5), (0, x6), w7] [] (mk E c s (hh g)) =
  (if cmpI .ge x6 ((g 89 10)) = true then
  (some ((0, x5), ((mk E c s (hh g)))))
else
  (if cmpI .eq x6 x1 = true then
    (Ev prog clsT X d mc210 19 [(2, 89), (0, x1), (0, x2), (0, x3), (0, x4), (0, x5), (0, (w32 (x6 + 1))), (3, 0)] [] (mk E c s (hh g)))
  else
    (if inb x6 40 = true then
      (if inb x1 40 = true then
      (if cmpI .ne ((g 99 (Int.toNat x6))) ((g 99 (Int.toNat x1))) = true then
      (Ev prog clsT X d mc210 19 [(2, 89), (0, x1), (0, x2), (0, x3), (0, x4), (0, x5), (0, (w32 (x6 + 1))), (3, 0)] [] (mk E c s (hh g)))
    else
      ((Call prog clsT X d 211 [(2, 89), (0, x6)] ((mk E c s (hh g)))).bind fun r1 => if r1.1.1 = 4 then none else
        Ev prog clsT X d mc210 38 [(2, 89), (0, x1), (0, x2), (0, x3), (0, x4), (0, x5), (0, x6), (3, 0)] (pushR r1.1 []) r1.2))
    else none)
    else none))) :=
  (evk_at (r := ((fget 6184 ((mk E c s (hh g))) 89).bind fun v1 =>
  if cmpI .ge x6 v1 = true then
  (some ((0, x5), (mk E c s (hh g))))
else
  (if cmpI .eq x6 x1 = true then
    (Ev prog clsT X d mc210 19 [(2, 89), (0, x1), (0, x2), (0, x3), (0, x4), (0, x5), (0, (w32 (x6 + 1))), (3, 0)] [] (mk E c s (hh g)))
  else
    ((fget 6190 ((mk E c s (hh g))) 89).bind fun v2 =>
      (aget X 100 ((mk E c s (hh g))) v2 x6).bind fun v3 =>
      (fget 6190 ((mk E c s (hh g))) 89).bind fun v4 =>
      (aget X 100 ((mk E c s (hh g))) v4 x1).bind fun v5 =>
      if cmpI .ne v3 v5 = true then
      (Ev prog clsT X d mc210 19 [(2, 89), (0, x1), (0, x2), (0, x3), (0, x4), (0, x5), (0, (w32 (x6 + 1))), (3, 0)] [] (mk E c s (hh g)))
    else
      (if (2 : Nat) = 2 ∧ rcv ((mk E c s (hh g))) 89 13 = true then
        ((Call prog clsT X d 211 [(2, 89), (0, x6)] ((mk E c s (hh g)))).bind fun r6 => if r6.1.1 = 4 then none else
        Ev prog clsT X d mc210 38 [(2, 89), (0, x1), (0, x2), (0, x3), (0, x4), (0, x5), (0, x6), (3, 0)] (pushR r6.1 []) r6.2) else none))))) X [0, 3, 10, 14, 19, 38, 44, 55] 20 rfl).trans (by simp (maxSteps := 10000000) only [R89_13, ↓A99, ↓F6184_89, ↓F6190_89, bindI, Option.bind_some, if_true_, and_self, ite_true, true_and, true_or, or_true])
set_option maxRecDepth 100000 in
theorem r210_38 (d : Nat) (x1 x2 x3 x4 x5 x6 s0 : Int) : Ev prog clsT X d mc210 38 [(2, 89), (0, x1), (0, x2), (0, x3), (0, x4), (0, x5), (0, x6), (3, 0)] [(0, s0)] (mk E c s (hh g)) =
  (if cmpI .ne s0 0 = true then
  ((Call prog clsT X d 206 [(2, 89), (0, x6), (0, x2)] ((mk E c s (hh g)))).bind fun r1 => if r1.1.1 = 4 then none else
    Ev prog clsT X d mc210 44 [(2, 89), (0, x1), (0, x2), (0, x3), (0, x4), (0, x5), (0, x6), (3, 0)] (pushR r1.1 []) r1.2)
else
  (Ev prog clsT X d mc210 19 [(2, 89), (0, x1), (0, x2), (0, x3), (0, x4), (0, x5), (0, (w32 (x6 + 1))), (3, 0)] [] (mk E c s (hh g)))) :=
  (evk_at (r := (if cmpI .ne s0 0 = true then
  (if (2 : Nat) = 2 ∧ rcv ((mk E c s (hh g))) 89 13 = true then
    ((Call prog clsT X d 206 [(2, 89), (0, x6), (0, x2)] ((mk E c s (hh g)))).bind fun r1 => if r1.1.1 = 4 then none else
    Ev prog clsT X d mc210 44 [(2, 89), (0, x1), (0, x2), (0, x3), (0, x4), (0, x5), (0, x6), (3, 0)] (pushR r1.1 []) r1.2) else none)
else
  (Ev prog clsT X d mc210 19 [(2, 89), (0, x1), (0, x2), (0, x3), (0, x4), (0, x5), (0, (w32 (x6 + 1))), (3, 0)] [] (mk E c s (hh g))))) X [0, 3, 10, 14, 19, 38, 44, 55] 6 rfl).trans (by simp (maxSteps := 10000000) only [R89_13, bindI, Option.bind_some, if_true_, and_self, ite_true, true_and, true_or, or_true])
set_option maxRecDepth 100000 in
theorem r210_44 (d : Nat) (x1 x2 x3 x4 x5 x6 s0 : Int) : Ev prog clsT X d mc210 44 [(2, 89), (0, x1), (0, x2), (0, x3), (0, x4), (0, x5), (0, x6), (3, 0)] [(0, s0)] (mk E c s (hh g)) =
  (if cmpI .gt s0 x3 = true then
  (Ev prog clsT X d mc210 19 [(2, 89), (0, x1), (0, x2), (0, x3), (0, x4), (0, (w32 (x5 + 1))), (0, (w32 (x6 + 1))), (0, s0)] [] (mk E c s (hh g)))
else
  (if cmpI .ne s0 x3 = true then
    (Ev prog clsT X d mc210 19 [(2, 89), (0, x1), (0, x2), (0, x3), (0, x4), (0, (w32 (x5 + 0))), (0, (w32 (x6 + 1))), (0, s0)] [] (mk E c s (hh g)))
  else
    ((Call prog clsT X d 212 [(2, 89), (0, x6)] ((mk E c s (hh g)))).bind fun r1 => if r1.1.1 = 4 then none else
      Ev prog clsT X d mc210 55 [(2, 89), (0, x1), (0, x2), (0, x3), (0, x4), (0, x5), (0, x6), (0, s0)] (pushR r1.1 [(0, x5)]) r1.2))) :=
  (evk_at (r := (if cmpI .gt s0 x3 = true then
  (Ev prog clsT X d mc210 19 [(2, 89), (0, x1), (0, x2), (0, x3), (0, x4), (0, (w32 (x5 + 1))), (0, (w32 (x6 + 1))), (0, s0)] [] (mk E c s (hh g)))
else
  (if cmpI .ne s0 x3 = true then
    (Ev prog clsT X d mc210 19 [(2, 89), (0, x1), (0, x2), (0, x3), (0, x4), (0, (w32 (x5 + 0))), (0, (w32 (x6 + 1))), (0, s0)] [] (mk E c s (hh g)))
  else
    (if (2 : Nat) = 2 ∧ rcv ((mk E c s (hh g))) 89 13 = true then
      ((Call prog clsT X d 212 [(2, 89), (0, x6)] ((mk E c s (hh g)))).bind fun r1 => if r1.1.1 = 4 then none else
      Ev prog clsT X d mc210 55 [(2, 89), (0, x1), (0, x2), (0, x3), (0, x4), (0, x5), (0, x6), (0, s0)] (pushR r1.1 [(0, x5)]) r1.2) else none)))) X [0, 3, 10, 14, 19, 38, 44, 55] 15 rfl).trans (by simp (maxSteps := 10000000) only [R89_13, bindI, Option.bind_some, if_true_, and_self, ite_true, true_and, true_or, or_true])
set_option maxRecDepth 100000 in
theorem r210_55 (d : Nat) (x1 x2 x3 x4 x5 x6 x7 s0 s1 : Int) : Ev prog clsT X d mc210 55 [(2, 89), (0, x1), (0, x2), (0, x3), (0, x4), (0, x5), (0, x6), (0, x7)] [(0, s1), (0, s0)] (mk E c s (hh g)) =
  (if cmpI .le s1 x4 = true then
  (Ev prog clsT X d mc210 19 [(2, 89), (0, x1), (0, x2), (0, x3), (0, x4), (0, (w32 (s0 + 0))), (0, (w32 (x6 + 1))), (0, x7)] [] (mk E c s (hh g)))
else
  (Ev prog clsT X d mc210 19 [(2, 89), (0, x1), (0, x2), (0, x3), (0, x4), (0, (w32 (s0 + 1))), (0, (w32 (x6 + 1))), (0, x7)] [] (mk E c s (hh g)))) :=
  evk_at X [0, 3, 10, 14, 19, 38, 44, 55] 10 rfl
set_option maxRecDepth 100000 in
theorem r211_0 (d : Nat) (x1 : Int) : Ev prog clsT X d mc211 0 [(2, 89), (0, x1)] [] (mk E c s (hh g)) =
  (if inb x1 40 = true then
  (if cmpI .ne ((g 104 (Int.toNat x1))) 0 = true then
  (some ((0, 0), ((mk E c s (hh g)))))
else
  ((Call prog clsT X d 188 [(2, 89), (0, x1)] ((mk E c s (hh g)))).bind fun r1 => if r1.1.1 = 4 then none else
    Ev prog clsT X d mc211 8 [(2, 89), (0, x1)] (pushR r1.1 []) r1.2))
else none) :=
  (evk_at (r := ((fget 6210 ((mk E c s (hh g))) 89).bind fun v1 =>
  (aget X 102 ((mk E c s (hh g))) v1 x1).bind fun v2 =>
  if cmpI .ne v2 0 = true then
  (some ((0, 0), (mk E c s (hh g))))
else
  (if (2 : Nat) = 2 ∧ rcv ((mk E c s (hh g))) 89 13 = true then
    ((Call prog clsT X d 188 [(2, 89), (0, x1)] ((mk E c s (hh g)))).bind fun r3 => if r3.1.1 = 4 then none else
    Ev prog clsT X d mc211 8 [(2, 89), (0, x1)] (pushR r3.1 []) r3.2) else none))) X [0, 8] 9 rfl).trans (by simp (maxSteps := 10000000) only [R89_13, ↓A104, ↓F6210_89, bindI, Option.bind_some, if_true_, and_self, ite_true, true_and, true_or, or_true])
set_option maxRecDepth 100000 in
theorem rc211_ (d : Nat) (x1 : Int) : Call prog clsT X (d + 1) 211 [(2, 89), (0, x1)] (mk E c s (hh g)) =
  (if inb x1 40 = true then
  (if cmpI .ne ((g 104 (Int.toNat x1))) 0 = true then
  (some ((0, 0), ((mk E c s (hh g)))))
else
  ((Call prog clsT X d 188 [(2, 89), (0, x1)] ((mk E c s (hh g)))).bind fun r1 => if r1.1.1 = 4 then none else
    Ev prog clsT X d mc211 8 [(2, 89), (0, x1)] (pushR r1.1 []) r1.2))
else none) :=
  (show Call prog clsT X (d + 1) 211 [(2, 89), (0, x1)] (mk E c s (hh g)) = Ev prog clsT X d mc211 0 [(2, 89), (0, x1)] [] (mk E c s (hh g)) from rfl).trans (r211_0 X E c s g d x1 )
set_option maxRecDepth 100000 in
theorem r211_8 (d : Nat) (x1 s0 : Int) : Ev prog clsT X d mc211 8 [(2, 89), (0, x1)] [(0, s0)] (mk E c s (hh g)) =
  (if cmpI .ge s0 0 = true then
  (some ((0, 0), ((mk E c s (hh g)))))
else
  (some ((0, 1), ((mk E c s (hh g)))))) :=
  (evk_at (r := (if cmpI .ge s0 0 = true then
  (some ((0, 0), (mk E c s (hh g))))
else
  (some ((0, 1), (mk E c s (hh g)))))) X [0, 8] 5 rfl).trans (by simp (maxSteps := 10000000) only [bindI, Option.bind_some, if_true_, and_self, ite_true, true_and, true_or, or_true])
set_option maxRecDepth 100000 in
theorem r212_0 (d : Nat) (x1 : Int) : Ev prog clsT X d mc212 0 [(2, 89), (0, x1)] [] (mk E c s (hh g)) =
  ((Call prog clsT X d 189 [(2, 89), (0, x1)] ((mk E c s (hh g)))).bind fun r1 => if r1.1.1 = 4 then none else
  Ev prog clsT X d mc212 3 [(2, 89), (0, x1)] (pushR r1.1 []) r1.2) :=
  (evk_at (r := (if (2 : Nat) = 2 ∧ rcv ((mk E c s (hh g))) 89 13 = true then
  ((Call prog clsT X d 189 [(2, 89), (0, x1)] ((mk E c s (hh g)))).bind fun r1 => if r1.1.1 = 4 then none else
  Ev prog clsT X d mc212 3 [(2, 89), (0, x1)] (pushR r1.1 []) r1.2) else none)) X [0, 3, 25] 4 rfl).trans (by simp (maxSteps := 10000000) only [R89_13, bindI, Option.bind_some, if_true_, and_self, ite_true, true_and, true_or, or_true])
set_option maxRecDepth 100000 in
theorem rc212_ (d : Nat) (x1 : Int) : Call prog clsT X (d + 1) 212 [(2, 89), (0, x1)] (mk E c s (hh g)) =
  ((Call prog clsT X d 189 [(2, 89), (0, x1)] ((mk E c s (hh g)))).bind fun r1 => if r1.1.1 = 4 then none else
  Ev prog clsT X d mc212 3 [(2, 89), (0, x1)] (pushR r1.1 []) r1.2) :=
  (show Call prog clsT X (d + 1) 212 [(2, 89), (0, x1)] (mk E c s (hh g)) = Ev prog clsT X d mc212 0 [(2, 89), (0, x1)] [] (mk E c s (hh g)) from rfl).trans (r212_0 X E c s g d x1 )
set_option maxRecDepth 100000 in
theorem r212_3 (d : Nat) (x1 : Int) : Ev prog clsT X d mc212 3 [(2, 89), (0, x1)] [] (mk E c s (hh g)) =
  (if inb x1 40 = true then
  (if inb ((w32 (((w32 (9 * ((g 99 (Int.toNat x1)))))) + 7))) 117 = true then
  (if cmpI .eq ((g 110 (Int.toNat ((w32 (((w32 (9 * ((g 99 (Int.toNat x1)))))) + 7)))))) 0 = true then
  (some ((0, 0), ((mk E c s (hh g)))))
else
  (if inb x1 40 = true then
    ((Call prog clsT X d 194 [(2, 89), (0, (w32 (((w32 (9 * ((g 99 (Int.toNat x1)))))) + 7)))] ((mk E c s (hh g)))).bind fun r1 => if r1.1.1 = 4 then none else
    Ev prog clsT X d mc212 25 [(2, 89), (0, x1)] (pushR r1.1 []) r1.2)
  else none))
else none)
else none) :=
  (evk_at (r := ((fget 6266 ((mk E c s (hh g))) 89).bind fun v1 =>
  (fget 6190 ((mk E c s (hh g))) 89).bind fun v2 =>
  (aget X 100 ((mk E c s (hh g))) v2 x1).bind fun v3 =>
  (aget X 102 ((mk E c s (hh g))) v1 ((w32 (((w32 (9 * v3))) + 7)))).bind fun v4 =>
  if cmpI .eq v4 0 = true then
  (some ((0, 0), (mk E c s (hh g))))
else
  ((fget 6190 ((mk E c s (hh g))) 89).bind fun v5 =>
    (aget X 100 ((mk E c s (hh g))) v5 x1).bind fun v6 =>
    if (2 : Nat) = 2 ∧ rcv ((mk E c s (hh g))) 89 13 = true then
    ((Call prog clsT X d 194 [(2, 89), (0, (w32 (((w32 (9 * v6))) + 7)))] ((mk E c s (hh g)))).bind fun r7 => if r7.1.1 = 4 then none else
    Ev prog clsT X d mc212 25 [(2, 89), (0, x1)] (pushR r7.1 []) r7.2) else none))) X [0, 3, 25] 23 rfl).trans (by simp (maxSteps := 10000000) only [R89_13, ↓A110, ↓A99, ↓F6190_89, ↓F6266_89, bindI, Option.bind_some, if_true_, and_self, ite_true, true_and, true_or, or_true])
set_option maxRecDepth 100000 in
theorem r212_25 (d : Nat) (x1 s0 : Int) : Ev prog clsT X d mc212 25 [(2, 89), (0, x1)] [(0, s0)] (mk E c s (hh g)) =
  (some ((0, s0), ((mk E c s (hh g))))) :=
  (evk_at (r := (some ((0, s0), (mk E c s (hh g))))) X [0, 3, 25] 3 rfl).trans (by simp (maxSteps := 10000000) only [bindI, Option.bind_some, if_true_, and_self, ite_true, true_and, true_or, or_true])
set_option maxRecDepth 100000 in
theorem r213_0 (d : Nat) (x1 x2 : Int) : Ev prog clsT X d mc213 0 [(2, 89), (0, x1), (0, x2)] [] (mk E c s (hh g)) =
  ((Call prog clsT X d 157 [(2, 89), (0, x1)] ((mk E c s (hh (up g 89 0 0))))).bind fun r1 => if r1.1.1 = 4 then none else
  Ev prog clsT X d mc213 6 [(2, 89), (0, x1), (0, x2)] (pushR r1.1 []) r1.2) :=
  (evk_at (r := ((fput 6144 ((mk E c s (hh g))) 89 0).bind fun M1 =>
  if (2 : Nat) = 2 ∧ rcv M1 89 13 = true then
  ((Call prog clsT X d 157 [(2, 89), (0, x1)] M1).bind fun r2 => if r2.1.1 = 4 then none else
  Ev prog clsT X d mc213 6 [(2, 89), (0, x1), (0, x2)] (pushR r2.1 []) r2.2) else none)) X [0, 6, 13, 18] 7 rfl).trans (by simp (maxSteps := 10000000) only [R89_13, ↓W6144_89, bindI, Option.bind_some, if_true_, and_self, ite_true, true_and, true_or, or_true])
set_option maxRecDepth 100000 in
theorem rc213_ (d : Nat) (x1 x2 : Int) : Call prog clsT X (d + 1) 213 [(2, 89), (0, x1), (0, x2)] (mk E c s (hh g)) =
  ((Call prog clsT X d 157 [(2, 89), (0, x1)] ((mk E c s (hh (up g 89 0 0))))).bind fun r1 => if r1.1.1 = 4 then none else
  Ev prog clsT X d mc213 6 [(2, 89), (0, x1), (0, x2)] (pushR r1.1 []) r1.2) :=
  (show Call prog clsT X (d + 1) 213 [(2, 89), (0, x1), (0, x2)] (mk E c s (hh g)) = Ev prog clsT X d mc213 0 [(2, 89), (0, x1), (0, x2)] [] (mk E c s (hh g)) from rfl).trans (r213_0 X E c s g d x1 x2 )
set_option maxRecDepth 100000 in
theorem r213_6 (d : Nat) (x1 x2 s0 : Int) : Ev prog clsT X d mc213 6 [(2, 89), (0, x1), (0, x2)] [(0, s0)] (mk E c s (hh g)) =
  (if cmpI .eq s0 0 = true then
  (some ((0, 0), ((mk E c s (hh g)))))
else
  (if cmpI .eq x2 ((-1)) = true then
    (if inb x1 10 = true then
      (some ((0, 1), ((mk E c s (hh (up g 130 (Int.toNat x1) x2))))))
    else none)
  else
    ((Call prog clsT X d 202 [(2, 89), (0, x2)] ((mk E c s (hh g)))).bind fun r1 => if r1.1.1 = 4 then none else
      Ev prog clsT X d mc213 13 [(2, 89), (0, x1), (0, x2)] (pushR r1.1 []) r1.2))) :=
  (evk_at (r := (if cmpI .eq s0 0 = true then
  (some ((0, 0), (mk E c s (hh g))))
else
  (if cmpI .eq x2 ((-1)) = true then
    ((fget 6354 ((mk E c s (hh g))) 89).bind fun v1 =>
      (aput 100 ((mk E c s (hh g))) v1 x1 (x2)).bind fun M2 =>
      some ((0, 1), M2))
  else
    (if (2 : Nat) = 2 ∧ rcv ((mk E c s (hh g))) 89 13 = true then
      ((Call prog clsT X d 202 [(2, 89), (0, x2)] ((mk E c s (hh g)))).bind fun r3 => if r3.1.1 = 4 then none else
      Ev prog clsT X d mc213 13 [(2, 89), (0, x1), (0, x2)] (pushR r3.1 []) r3.2) else none)))) X [0, 6, 13, 18] 12 rfl).trans (by simp (maxSteps := 10000000) only [R89_13, ↓F6354_89, ↓S130, bindI, Option.bind_some, if_true_, and_self, ite_true, true_and, true_or, or_true])
set_option maxRecDepth 100000 in
theorem r213_13 (d : Nat) (x1 x2 s0 : Int) : Ev prog clsT X d mc213 13 [(2, 89), (0, x1), (0, x2)] [(0, s0)] (mk E c s (hh g)) =
  (if cmpI .eq s0 0 = true then
  (some ((0, 0), ((mk E c s (hh g)))))
else
  ((Call prog clsT X d 204 [(2, 89), (0, x2), (0, x1)] ((mk E c s (hh g)))).bind fun r1 => if r1.1.1 = 4 then none else
    Ev prog clsT X d mc213 18 [(2, 89), (0, x1), (0, x2)] (pushR r1.1 []) r1.2)) :=
  (evk_at (r := (if cmpI .eq s0 0 = true then
  (some ((0, 0), (mk E c s (hh g))))
else
  (if (2 : Nat) = 2 ∧ rcv ((mk E c s (hh g))) 89 13 = true then
    ((Call prog clsT X d 204 [(2, 89), (0, x2), (0, x1)] ((mk E c s (hh g)))).bind fun r1 => if r1.1.1 = 4 then none else
    Ev prog clsT X d mc213 18 [(2, 89), (0, x1), (0, x2)] (pushR r1.1 []) r1.2) else none))) X [0, 6, 13, 18] 6 rfl).trans (by simp (maxSteps := 10000000) only [R89_13, bindI, Option.bind_some, if_true_, and_self, ite_true, true_and, true_or, or_true])
set_option maxRecDepth 100000 in
theorem r213_18 (d : Nat) (x1 x2 s0 : Int) : Ev prog clsT X d mc213 18 [(2, 89), (0, x1), (0, x2)] [(0, s0)] (mk E c s (hh g)) =
  (if cmpI .eq s0 0 = true then
  (if inb x1 10 = true then
    (some ((0, 1), ((mk E c s (hh (up g 130 (Int.toNat x1) x2))))))
  else none)
else
  (some ((0, 0), ((mk E c s (hh g)))))) :=
  (evk_at (r := (if cmpI .eq s0 0 = true then
  ((fget 6354 ((mk E c s (hh g))) 89).bind fun v1 =>
    (aput 100 ((mk E c s (hh g))) v1 x1 (x2)).bind fun M2 =>
    some ((0, 1), M2))
else
  (some ((0, 0), (mk E c s (hh g)))))) X [0, 6, 13, 18] 9 rfl).trans (by simp (maxSteps := 10000000) only [↓F6354_89, ↓S130, bindI, Option.bind_some, if_true_, and_self, ite_true, true_and, true_or, or_true])
set_option maxRecDepth 100000 in
theorem r214_0 (d : Nat) (x1 x2 : Int) : Ev prog clsT X d mc214 0 [(2, 89), (0, x1), (0, x2), (3, 0), (3, 0), (3, 0)] [] (mk E c s (hh g)) =
  ((Call prog clsT X d 162 [(2, 89), (0, x1)] ((mk E c s (hh (up g 89 0 0))))).bind fun r1 => if r1.1.1 = 4 then none else
  Ev prog clsT X d mc214 6 [(2, 89), (0, x1), (0, x2), (3, 0), (3, 0), (3, 0)] (pushR r1.1 []) r1.2) :=
  (evk_at (r := ((fput 6144 ((mk E c s (hh g))) 89 0).bind fun M1 =>
  if (2 : Nat) = 2 ∧ rcv M1 89 13 = true then
  ((Call prog clsT X d 162 [(2, 89), (0, x1)] M1).bind fun r2 => if r2.1.1 = 4 then none else
  Ev prog clsT X d mc214 6 [(2, 89), (0, x1), (0, x2), (3, 0), (3, 0), (3, 0)] (pushR r2.1 []) r2.2) else none)) X [0, 6, 11, 15, 22, 37, 43] 7 rfl).trans (by simp (maxSteps := 10000000) only [R89_13, ↓W6144_89, bindI, Option.bind_some, if_true_, and_self, ite_true, true_and, true_or, or_true])
set_option maxRecDepth 100000 in
theorem rc214_ (d : Nat) (x1 x2 : Int) : Call prog clsT X (d + 1) 214 [(2, 89), (0, x1), (0, x2)] (mk E c s (hh g)) =
  ((Call prog clsT X d 162 [(2, 89), (0, x1)] ((mk E c s (hh (up g 89 0 0))))).bind fun r1 => if r1.1.1 = 4 then none else
  Ev prog clsT X d mc214 6 [(2, 89), (0, x1), (0, x2), (3, 0), (3, 0), (3, 0)] (pushR r1.1 []) r1.2) :=
  (show Call prog clsT X (d + 1) 214 [(2, 89), (0, x1), (0, x2)] (mk E c s (hh g)) = Ev prog clsT X d mc214 0 [(2, 89), (0, x1), (0, x2), (3, 0), (3, 0), (3, 0)] [] (mk E c s (hh g)) from rfl).trans (r214_0 X E c s g d x1 x2 )
set_option maxRecDepth 100000 in
theorem r214_6 (d : Nat) (x1 x2 s0 : Int) : Ev prog clsT X d mc214 6 [(2, 89), (0, x1), (0, x2), (3, 0), (3, 0), (3, 0)] [(0, s0)] (mk E c s (hh g)) =
  (if cmpI .eq s0 0 = true then
  (some ((0, (-1)), ((mk E c s (hh g)))))
else
  ((Call prog clsT X d 152 [(0, x2), (0, 0), (0, 1)] ((mk E c s (hh g)))).bind fun r1 => if r1.1.1 = 4 then none else
    Ev prog clsT X d mc214 11 [(2, 89), (0, x1), (0, x2), (3, 0), (3, 0), (3, 0)] (pushR r1.1 []) r1.2)) :=
  (evk_at (r := (if cmpI .eq s0 0 = true then
  (some ((0, (-1)), (mk E c s (hh g))))
else
  ((Call prog clsT X d 152 [(0, x2), (0, 0), (0, 1)] ((mk E c s (hh g)))).bind fun r1 => if r1.1.1 = 4 then none else
    Ev prog clsT X d mc214 11 [(2, 89), (0, x1), (0, x2), (3, 0), (3, 0), (3, 0)] (pushR r1.1 []) r1.2))) X [0, 6, 11, 15, 22, 37, 43] 6 rfl).trans (by simp (maxSteps := 10000000) only [bindI, Option.bind_some, if_true_, and_self, ite_true, true_and, true_or, or_true])
set_option maxRecDepth 100000 in
theorem r214_11 (d : Nat) (x1 x2 s0 : Int) : Ev prog clsT X d mc214 11 [(2, 89), (0, x1), (0, x2), (3, 0), (3, 0), (3, 0)] [(0, s0)] (mk E c s (hh g)) =
  (if cmpI .eq s0 0 = true then
  (some ((0, (-1)), ((mk E c s (hh g)))))
else
  ((Call prog clsT X d 211 [(2, 89), (0, x1)] ((mk E c s (hh g)))).bind fun r1 => if r1.1.1 = 4 then none else
    Ev prog clsT X d mc214 15 [(2, 89), (0, x1), (0, x2), (3, 0), (3, 0), (3, 0)] (pushR r1.1 []) r1.2)) :=
  (evk_at (r := (if cmpI .eq s0 0 = true then
  (some ((0, (-1)), (mk E c s (hh g))))
else
  (if (2 : Nat) = 2 ∧ rcv ((mk E c s (hh g))) 89 13 = true then
    ((Call prog clsT X d 211 [(2, 89), (0, x1)] ((mk E c s (hh g)))).bind fun r1 => if r1.1.1 = 4 then none else
    Ev prog clsT X d mc214 15 [(2, 89), (0, x1), (0, x2), (3, 0), (3, 0), (3, 0)] (pushR r1.1 []) r1.2) else none))) X [0, 6, 11, 15, 22, 37, 43] 5 rfl).trans (by simp (maxSteps := 10000000) only [R89_13, bindI, Option.bind_some, if_true_, and_self, ite_true, true_and, true_or, or_true])
set_option maxRecDepth 100000 in
theorem r214_15 (d : Nat) (x1 x2 s0 : Int) : Ev prog clsT X d mc214 15 [(2, 89), (0, x1), (0, x2), (3, 0), (3, 0), (3, 0)] [(0, s0)] (mk E c s (hh g)) =
  (if cmpI .ne s0 0 = true then
  (Ev prog clsT X d mc214 22 [(2, 89), (0, x1), (0, x2), (0, (-1)), (0, 0), (3, 0)] [] (mk E c s (hh g)))
else
  (some ((0, (-1)), ((mk E c s (hh g)))))) :=
  (evk_at (r := (if cmpI .ne s0 0 = true then
  (Ev prog clsT X d mc214 22 [(2, 89), (0, x1), (0, x2), (0, (-1)), (0, 0), (3, 0)] [] (mk E c s (hh g)))
else
  (some ((0, (-1)), (mk E c s (hh g)))))) X [0, 6, 11, 15, 22, 37, 43] 7 rfl).trans (by simp (maxSteps := 10000000) only [bindI, Option.bind_some, if_true_, and_self, ite_true, true_and, true_or, or_true])
set_option maxRecDepth 100000 in
theorem r214_22 (d : Nat) (x1 x2 x3 x4 : Int) (w5 : MV) : Ev prog clsT X d mc214 22 [(2, 89), (0, x1), (0, x2), (0, x3), (0, x4), w5] [] (mk E c s (hh g)) =
  (if cmpI .ge x4 4 = true then
  (some ((0, x3), ((mk E c s (hh g)))))
else
  (if inb x4 4 = true then
    (if cmpI .eq ((g 127 (Int.toNat x4))) 0 = true then
    (Ev prog clsT X d mc214 22 [(2, 89), (0, x1), (0, x2), (0, x3), (0, (w32 (x4 + 1))), (3, 0)] [] (mk E c s (hh g)))
  else
    (if inb x1 40 = true then
      ((Call prog clsT X d 204 [(2, 89), (0, x4), (0, (g 99 (Int.toNat x1)))] ((mk E c s (hh g)))).bind fun r1 => if r1.1.1 = 4 then none else
      Ev prog clsT X d mc214 37 [(2, 89), (0, x1), (0, x2), (0, x3), (0, x4), (3, 0)] (pushR r1.1 []) r1.2)
    else none))
  else none)) :=
  (evk_at (r := (if cmpI .ge x4 4 = true then
  (some ((0, x3), (mk E c s (hh g))))
else
  ((fget 6342 ((mk E c s (hh g))) 89).bind fun v1 =>
    (aget X 102 ((mk E c s (hh g))) v1 x4).bind fun v2 =>
    if cmpI .eq v2 0 = true then
    (Ev prog clsT X d mc214 22 [(2, 89), (0, x1), (0, x2), (0, x3), (0, (w32 (x4 + 1))), (3, 0)] [] (mk E c s (hh g)))
  else
    ((fget 6190 ((mk E c s (hh g))) 89).bind fun v3 =>
      (aget X 100 ((mk E c s (hh g))) v3 x1).bind fun v4 =>
      if (2 : Nat) = 2 ∧ rcv ((mk E c s (hh g))) 89 13 = true then
      ((Call prog clsT X d 204 [(2, 89), (0, x4), (0, v4)] ((mk E c s (hh g)))).bind fun r5 => if r5.1.1 = 4 then none else
      Ev prog clsT X d mc214 37 [(2, 89), (0, x1), (0, x2), (0, x3), (0, x4), (3, 0)] (pushR r5.1 []) r5.2) else none)))) X [0, 6, 11, 15, 22, 37, 43] 16 rfl).trans (by simp (maxSteps := 10000000) only [R89_13, ↓A127, ↓A99, ↓F6190_89, ↓F6342_89, bindI, Option.bind_some, if_true_, and_self, ite_true, true_and, true_or, or_true])
set_option maxRecDepth 100000 in
theorem r214_37 (d : Nat) (x1 x2 x3 x4 s0 : Int) : Ev prog clsT X d mc214 37 [(2, 89), (0, x1), (0, x2), (0, x3), (0, x4), (3, 0)] [(0, s0)] (mk E c s (hh g)) =
  (if cmpI .eq s0 0 = true then
  ((Call prog clsT X d 210 [(2, 89), (0, x1), (0, x4)] ((mk E c s (hh g)))).bind fun r1 => if r1.1.1 = 4 then none else
    Ev prog clsT X d mc214 43 [(2, 89), (0, x1), (0, x2), (0, x3), (0, x4), (3, 0)] (pushR r1.1 []) r1.2)
else
  (Ev prog clsT X d mc214 22 [(2, 89), (0, x1), (0, x2), (0, x3), (0, (w32 (x4 + 1))), (3, 0)] [] (mk E c s (hh g)))) :=
  (evk_at (r := (if cmpI .eq s0 0 = true then
  (if (2 : Nat) = 2 ∧ rcv ((mk E c s (hh g))) 89 13 = true then
    ((Call prog clsT X d 210 [(2, 89), (0, x1), (0, x4)] ((mk E c s (hh g)))).bind fun r1 => if r1.1.1 = 4 then none else
    Ev prog clsT X d mc214 43 [(2, 89), (0, x1), (0, x2), (0, x3), (0, x4), (3, 0)] (pushR r1.1 []) r1.2) else none)
else
  (Ev prog clsT X d mc214 22 [(2, 89), (0, x1), (0, x2), (0, x3), (0, (w32 (x4 + 1))), (3, 0)] [] (mk E c s (hh g))))) X [0, 6, 11, 15, 22, 37, 43] 6 rfl).trans (by simp (maxSteps := 10000000) only [R89_13, bindI, Option.bind_some, if_true_, and_self, ite_true, true_and, true_or, or_true])
set_option maxRecDepth 100000 in
theorem r214_43 (d : Nat) (x1 x2 x3 x4 s0 : Int) : Ev prog clsT X d mc214 43 [(2, 89), (0, x1), (0, x2), (0, x3), (0, x4), (3, 0)] [(0, s0)] (mk E c s (hh g)) =
  (if cmpI .lt x3 0 = true then
  (Ev prog clsT X d mc214 22 [(2, 89), (0, x1), (0, x2), (0, s0), (0, (w32 (x4 + 1))), (0, s0)] [] (mk E c s (hh g)))
else
  (if cmpI .ne x2 0 = true then
    (if cmpI .le s0 x3 = true then
      (Ev prog clsT X d mc214 22 [(2, 89), (0, x1), (0, x2), (0, x3), (0, (w32 (x4 + 1))), (0, s0)] [] (mk E c s (hh g)))
    else
      (Ev prog clsT X d mc214 22 [(2, 89), (0, x1), (0, x2), (0, s0), (0, (w32 (x4 + 1))), (0, s0)] [] (mk E c s (hh g))))
  else
    (if cmpI .ge s0 x3 = true then
      (Ev prog clsT X d mc214 22 [(2, 89), (0, x1), (0, x2), (0, x3), (0, (w32 (x4 + 1))), (0, s0)] [] (mk E c s (hh g)))
    else
      (Ev prog clsT X d mc214 22 [(2, 89), (0, x1), (0, x2), (0, s0), (0, (w32 (x4 + 1))), (0, s0)] [] (mk E c s (hh g)))))) :=
  evk_at X [0, 6, 11, 15, 22, 37, 43] 16 rfl
end
