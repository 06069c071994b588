/-! Part 51.r09: printed by wip/whole/emit6.py: equations with the fixed cells put in. -/
section
variable (X : MExt) (E : List (Nat × Nat)) (c s : Nat) (g : Nat → Nat → Int)
set_option maxRecDepth 100000 in
theorem r236_0 (d : Nat) (x1 x2 : Int) : Ev prog clsT X d mc236 0 [(2, 89), (0, x1), (0, x2), (3, 0), (3, 0)] [] (mk E c s (hh g)) =
  ((Call prog clsT X d 161 [(2, 89), (0, x1)] ((mk E c s (hh (up g 89 0 0))))).bind fun r1 => if r1.1.1 = 4 then none else
  Ev prog clsT X d mc236 6 [(2, 89), (0, x1), (0, x2), (3, 0), (3, 0)] (pushR r1.1 []) r1.2) :=
  (evk_at (r := ((fput 6144 ((mk E c s (hh g))) 89 0).bind fun M1 =>
  if (2 : Nat) = 2 ∧ rcv M1 89 13 = true then
  ((Call prog clsT X d 161 [(2, 89), (0, x1)] M1).bind fun r2 => if r2.1.1 = 4 then none else
  Ev prog clsT X d mc236 6 [(2, 89), (0, x1), (0, x2), (3, 0), (3, 0)] (pushR r2.1 []) r2.2) else none)) X [0, 6, 11, 16, 26, 38, 49, 63, 65] 7 rfl).trans (by simp (maxSteps := 10000000) only [R89_13, ↓W6144_89, bindI, Option.bind_some, if_true_, and_self, ite_true, true_and, true_or, or_true])
set_option maxRecDepth 100000 in
theorem rc236_ (d : Nat) (x1 x2 : Int) : Call prog clsT X (d + 1) 236 [(2, 89), (0, x1), (0, x2)] (mk E c s (hh g)) =
  ((Call prog clsT X d 161 [(2, 89), (0, x1)] ((mk E c s (hh (up g 89 0 0))))).bind fun r1 => if r1.1.1 = 4 then none else
  Ev prog clsT X d mc236 6 [(2, 89), (0, x1), (0, x2), (3, 0), (3, 0)] (pushR r1.1 []) r1.2) :=
  (show Call prog clsT X (d + 1) 236 [(2, 89), (0, x1), (0, x2)] (mk E c s (hh g)) = Ev prog clsT X d mc236 0 [(2, 89), (0, x1), (0, x2), (3, 0), (3, 0)] [] (mk E c s (hh g)) from rfl).trans (r236_0 X E c s g d x1 x2 )
set_option maxRecDepth 100000 in
theorem r236_6 (d : Nat) (x1 x2 s0 : Int) : Ev prog clsT X d mc236 6 [(2, 89), (0, x1), (0, x2), (3, 0), (3, 0)] [(0, s0)] (mk E c s (hh g)) =
  (if cmpI .eq s0 0 = true then
  (some ((0, (-1)), ((mk E c s (hh g)))))
else
  ((Call prog clsT X d 152 [(0, x2), (0, 0), (0, 1)] ((mk E c s (hh g)))).bind fun r1 => if r1.1.1 = 4 then none else
    Ev prog clsT X d mc236 11 [(2, 89), (0, x1), (0, x2), (3, 0), (3, 0)] (pushR r1.1 []) r1.2)) :=
  (evk_at (r := (if cmpI .eq s0 0 = true then
  (some ((0, (-1)), (mk E c s (hh g))))
else
  ((Call prog clsT X d 152 [(0, x2), (0, 0), (0, 1)] ((mk E c s (hh g)))).bind fun r1 => if r1.1.1 = 4 then none else
    Ev prog clsT X d mc236 11 [(2, 89), (0, x1), (0, x2), (3, 0), (3, 0)] (pushR r1.1 []) r1.2))) X [0, 6, 11, 16, 26, 38, 49, 63, 65] 6 rfl).trans (by simp (maxSteps := 10000000) only [bindI, Option.bind_some, if_true_, and_self, ite_true, true_and, true_or, or_true])
set_option maxRecDepth 100000 in
theorem r236_11 (d : Nat) (x1 x2 s0 : Int) : Ev prog clsT X d mc236 11 [(2, 89), (0, x1), (0, x2), (3, 0), (3, 0)] [(0, s0)] (mk E c s (hh g)) =
  (if cmpI .ne s0 0 = true then
  (Ev prog clsT X d mc236 16 [(2, 89), (0, x1), (0, x2), (0, 0), (3, 0)] [] (mk E c s (hh g)))
else
  (some ((0, (-1)), ((mk E c s (hh g)))))) :=
  (evk_at (r := (if cmpI .ne s0 0 = true then
  (Ev prog clsT X d mc236 16 [(2, 89), (0, x1), (0, x2), (0, 0), (3, 0)] [] (mk E c s (hh g)))
else
  (some ((0, (-1)), (mk E c s (hh g)))))) X [0, 6, 11, 16, 26, 38, 49, 63, 65] 5 rfl).trans (by simp (maxSteps := 10000000) only [bindI, Option.bind_some, if_true_, and_self, ite_true, true_and, true_or, or_true])
set_option maxRecDepth 100000 in
theorem r236_16 (d : Nat) (x1 x2 x3 : Int) (w4 : MV) : Ev prog clsT X d mc236 16 [(2, 89), (0, x1), (0, x2), (0, x3), w4] [] (mk E c s (hh g)) =
  (if cmpI .ge x3 ((g 89 10)) = true then
  (if inb x1 40 = true then
    (Ev prog clsT X d mc236 38 [(2, 89), (0, x1), (0, x2), (0, 0), (0, 0)] [] (mk E c s (hh (up g 104 (Int.toNat x1) (bit1 (1))))))
  else none)
else
  ((Call prog clsT X d 209 [(2, 89), (0, x3)] ((mk E c s (hh g)))).bind fun r1 => if r1.1.1 = 4 then none else
    Ev prog clsT X d mc236 26 [(2, 89), (0, x1), (0, x2), (0, x3), (3, 0)] (pushR r1.1 [(0, x3), (2, 148)]) r1.2)) :=
  (evk_at (r := ((fget 6184 ((mk E c s (hh g))) 89).bind fun v1 =>
  if cmpI .ge x3 v1 = true then
  ((fget 6210 ((mk E c s (hh g))) 89).bind fun v2 =>
    (aput 102 ((mk E c s (hh g))) v2 x1 (bit1 (1))).bind fun M3 =>
    Ev prog clsT X d mc236 38 [(2, 89), (0, x1), (0, x2), (0, 0), (0, 0)] [] M3)
else
  ((fget 6446 ((mk E c s (hh g))) 89).bind fun v4 =>
    if (2 : Nat) = 2 ∧ rcv ((mk E c s (hh g))) 89 13 = true then
    ((Call prog clsT X d 209 [(2, 89), (0, x3)] ((mk E c s (hh g)))).bind fun r5 => if r5.1.1 = 4 then none else
    Ev prog clsT X d mc236 26 [(2, 89), (0, x1), (0, x2), (0, x3), (3, 0)] (pushR r5.1 [(0, x3), (2, v4)]) r5.2) else none))) X [0, 6, 11, 16, 26, 38, 49, 63, 65] 15 rfl).trans (by simp (maxSteps := 10000000) only [R89_13, ↓F6184_89, ↓F6210_89, ↓F6446_89, ↓S104, bindI, Option.bind_some, if_true_, and_self, ite_true, true_and, true_or, or_true])
set_option maxRecDepth 100000 in
theorem r236_26 (d : Nat) (x1 x2 x3 s1 s2 : Int) : Ev prog clsT X d mc236 26 [(2, 89), (0, x1), (0, x2), (0, x3), (3, 0)] [(0, s2), (0, s1), (2, 148)] (mk E c s (hh g)) =
  (if inb s1 40 = true then
  (Ev prog clsT X d mc236 16 [(2, 89), (0, x1), (0, x2), (0, (w32 (x3 + 1))), (3, 0)] [] (mk E c s (hh (up g 148 (Int.toNat s1) s2))))
else none) :=
  (evk_at (r := ((aput 100 ((mk E c s (hh g))) 148 s1 (s2)).bind fun M1 =>
  Ev prog clsT X d mc236 16 [(2, 89), (0, x1), (0, x2), (0, (w32 (x3 + 1))), (3, 0)] [] M1)) X [0, 6, 11, 16, 26, 38, 49, 63, 65] 5 rfl).trans (by simp (maxSteps := 10000000) only [↓S148, bindI, Option.bind_some, if_true_, and_self, ite_true, true_and, true_or, or_true])
set_option maxRecDepth 100000 in
theorem r236_38 (d : Nat) (x1 x2 x3 x4 : Int) : Ev prog clsT X d mc236 38 [(2, 89), (0, x1), (0, x2), (0, x3), (0, x4)] [] (mk E c s (hh g)) =
  (if cmpI .ge x4 ((g 89 10)) = true then
  ((Call prog clsT X d 228 [(2, 89)] ((mk E c s (hh g)))).bind fun r1 => if r1.1.1 = 4 then none else
    Ev prog clsT X d mc236 63 [(2, 89), (0, x1), (0, x2), (0, x3), (0, x4)] (pushR r1.1 []) r1.2)
else
  (if cmpI .eq x4 x1 = true then
    (Ev prog clsT X d mc236 38 [(2, 89), (0, x1), (0, x2), (0, (w32 (x3 + 0))), (0, (w32 (x4 + 1)))] [] (mk E c s (hh g)))
  else
    ((Call prog clsT X d 209 [(2, 89), (0, x4)] ((mk E c s (hh g)))).bind fun r2 => if r2.1.1 = 4 then none else
      Ev prog clsT X d mc236 49 [(2, 89), (0, x1), (0, x2), (0, x3), (0, x4)] (pushR r2.1 [(0, x3)]) r2.2))) :=
  (evk_at (r := ((fget 6184 ((mk E c s (hh g))) 89).bind fun v1 =>
  if cmpI .ge x4 v1 = true then
  (if (2 : Nat) = 2 ∧ rcv ((mk E c s (hh g))) 89 13 = true then
    ((Call prog clsT X d 228 [(2, 89)] ((mk E c s (hh g)))).bind fun r2 => if r2.1.1 = 4 then none else
    Ev prog clsT X d mc236 63 [(2, 89), (0, x1), (0, x2), (0, x3), (0, x4)] (pushR r2.1 []) r2.2) else none)
else
  (if cmpI .eq x4 x1 = true then
    (Ev prog clsT X d mc236 38 [(2, 89), (0, x1), (0, x2), (0, (w32 (x3 + 0))), (0, (w32 (x4 + 1)))] [] (mk E c s (hh g)))
  else
    (if (2 : Nat) = 2 ∧ rcv ((mk E c s (hh g))) 89 13 = true then
      ((Call prog clsT X d 209 [(2, 89), (0, x4)] ((mk E c s (hh g)))).bind fun r3 => if r3.1.1 = 4 then none else
      Ev prog clsT X d mc236 49 [(2, 89), (0, x1), (0, x2), (0, x3), (0, x4)] (pushR r3.1 [(0, x3)]) r3.2) else none)))) X [0, 6, 11, 16, 26, 38, 49, 63, 65] 15 rfl).trans (by simp (maxSteps := 10000000) only [R89_13, ↓F6184_89, bindI, Option.bind_some, if_true_, and_self, ite_true, true_and, true_or, or_true])
set_option maxRecDepth 100000 in
theorem r236_49 (d : Nat) (x1 x2 x3 x4 s0 s1 : Int) : Ev prog clsT X d mc236 49 [(2, 89), (0, x1), (0, x2), (0, x3), (0, x4)] [(0, s1), (0, s0)] (mk E c s (hh g)) =
  (if inb x4 40 = true then
  (if cmpI .eq s1 ((g 148 (Int.toNat x4))) = true then
  (Ev prog clsT X d mc236 38 [(2, 89), (0, x1), (0, x2), (0, (w32 (s0 + 0))), (0, (w32 (x4 + 1)))] [] (mk E c s (hh g)))
else
  (Ev prog clsT X d mc236 38 [(2, 89), (0, x1), (0, x2), (0, (w32 (s0 + 1))), (0, (w32 (x4 + 1)))] [] (mk E c s (hh g))))
else none) :=
  (evk_at (r := ((fget 6446 ((mk E c s (hh g))) 89).bind fun v1 =>
  (aget X 100 ((mk E c s (hh g))) v1 x4).bind fun v2 =>
  if cmpI .eq s1 v2 = true then
  (Ev prog clsT X d mc236 38 [(2, 89), (0, x1), (0, x2), (0, (w32 (s0 + 0))), (0, (w32 (x4 + 1)))] [] (mk E c s (hh g)))
else
  (Ev prog clsT X d mc236 38 [(2, 89), (0, x1), (0, x2), (0, (w32 (s0 + 1))), (0, (w32 (x4 + 1)))] [] (mk E c s (hh g))))) X [0, 6, 11, 16, 26, 38, 49, 63, 65] 13 rfl).trans (by simp (maxSteps := 10000000) only [↓A148, ↓F6446_89, bindI, Option.bind_some, if_true_, and_self, ite_true, true_and, true_or, or_true])
set_option maxRecDepth 100000 in
theorem r236_63 (d : Nat) (x1 x2 x3 x4 : Int) : Ev prog clsT X d mc236 63 [(2, 89), (0, x1), (0, x2), (0, x3), (0, x4)] [] (mk E c s (hh g)) =
  ((Call prog clsT X d 231 [(2, 89)] ((mk E c s (hh g)))).bind fun r1 => if r1.1.1 = 4 then none else
  Ev prog clsT X d mc236 65 [(2, 89), (0, x1), (0, x2), (0, x3), (0, x4)] (pushR r1.1 []) r1.2) :=
  (evk_at (r := (if (2 : Nat) = 2 ∧ rcv ((mk E c s (hh g))) 89 13 = true then
  ((Call prog clsT X d 231 [(2, 89)] ((mk E c s (hh g)))).bind fun r1 => if r1.1.1 = 4 then none else
  Ev prog clsT X d mc236 65 [(2, 89), (0, x1), (0, x2), (0, x3), (0, x4)] (pushR r1.1 []) r1.2) else none)) X [0, 6, 11, 16, 26, 38, 49, 63, 65] 3 rfl).trans (by simp (maxSteps := 10000000) only [R89_13, bindI, Option.bind_some, if_true_, and_self, ite_true, true_and, true_or, or_true])
set_option maxRecDepth 100000 in
theorem r236_65 (d : Nat) (x1 x2 x3 x4 s0 : Int) : Ev prog clsT X d mc236 65 [(2, 89), (0, x1), (0, x2), (0, x3), (0, x4)] [(0, s0)] (mk E c s (hh g)) =
  (if inb x1 40 = true then
  (if cmpI .ne x2 0 = true then
  (some ((0, s0), ((mk E c s (hh (up g 104 (Int.toNat x1) (bit1 (0))))))))
else
  (some ((0, x3), ((mk E c s (hh (up g 104 (Int.toNat x1) (bit1 (0)))))))))
else none) :=
  (evk_at (r := ((fget 6210 ((mk E c s (hh g))) 89).bind fun v1 =>
  (aput 102 ((mk E c s (hh g))) v1 x1 (bit1 (0))).bind fun M2 =>
  if cmpI .ne x2 0 = true then
  (some ((0, s0), M2))
else
  (some ((0, x3), M2)))) X [0, 6, 11, 16, 26, 38, 49, 63, 65] 12 rfl).trans (by simp (maxSteps := 10000000) only [↓F6210_89, ↓S104, bindI, Option.bind_some, if_true_, and_self, ite_true, true_and, true_or, or_true])
set_option maxRecDepth 100000 in
theorem r237_0 (d : Nat) (x1 : Int) : Ev prog clsT X d mc237 0 [(2, 89), (0, x1), (3, 0), (3, 0), (3, 0)] [] (mk E c s (hh g)) =
  ((Call prog clsT X d 154 [(2, 89), (0, x1)] ((mk E c s (hh g)))).bind fun r1 => if r1.1.1 = 4 then none else
  Ev prog clsT X d mc237 4 [(2, 89), (0, x1), (3, 0), (3, 0), (3, 0)] (pushR r1.1 [(2, 89)]) r1.2) :=
  (evk_at (r := (if (2 : Nat) = 2 ∧ rcv ((mk E c s (hh g))) 89 13 = true then
  ((Call prog clsT X d 154 [(2, 89), (0, x1)] ((mk E c s (hh g)))).bind fun r1 => if r1.1.1 = 4 then none else
  Ev prog clsT X d mc237 4 [(2, 89), (0, x1), (3, 0), (3, 0), (3, 0)] (pushR r1.1 [(2, 89)]) r1.2) else none)) X [0, 4, 13, 30, 36] 5 rfl).trans (by simp (maxSteps := 10000000) only [R89_13, bindI, Option.bind_some, if_true_, and_self, ite_true, true_and, true_or, or_true])
set_option maxRecDepth 100000 in
theorem rc237_ (d : Nat) (x1 : Int) : Call prog clsT X (d + 1) 237 [(2, 89), (0, x1)] (mk E c s (hh g)) =
  ((Call prog clsT X d 154 [(2, 89), (0, x1)] ((mk E c s (hh g)))).bind fun r1 => if r1.1.1 = 4 then none else
  Ev prog clsT X d mc237 4 [(2, 89), (0, x1), (3, 0), (3, 0), (3, 0)] (pushR r1.1 [(2, 89)]) r1.2) :=
  (show Call prog clsT X (d + 1) 237 [(2, 89), (0, x1)] (mk E c s (hh g)) = Ev prog clsT X d mc237 0 [(2, 89), (0, x1), (3, 0), (3, 0), (3, 0)] [] (mk E c s (hh g)) from rfl).trans (r237_0 X E c s g d x1 )
set_option maxRecDepth 100000 in
theorem r237_4 (d : Nat) (x1 s1 : Int) : Ev prog clsT X d mc237 4 [(2, 89), (0, x1), (3, 0), (3, 0), (3, 0)] [(0, s1), (2, 89)] (mk E c s (hh g)) =
  (if cmpI .eq s1 0 = true then
  (Ev prog clsT X d mc237 13 [(2, 89), (0, x1), (0, 0), (0, 0), (3, 0)] [] (mk E c s (hh (up g 89 0 1))))
else
  (Ev prog clsT X d mc237 13 [(2, 89), (0, x1), (0, 0), (0, 0), (3, 0)] [] (mk E c s (hh (up g 89 0 0))))) :=
  (evk_at (r := (if cmpI .eq s1 0 = true then
  ((fput 6144 ((mk E c s (hh g))) 89 1).bind fun M1 =>
    Ev prog clsT X d mc237 13 [(2, 89), (0, x1), (0, 0), (0, 0), (3, 0)] [] M1)
else
  ((fput 6144 ((mk E c s (hh g))) 89 0).bind fun M2 =>
    Ev prog clsT X d mc237 13 [(2, 89), (0, x1), (0, 0), (0, 0), (3, 0)] [] M2))) X [0, 4, 13, 30, 36] 10 rfl).trans (by simp (maxSteps := 10000000) only [↓W6144_89, bindI, Option.bind_some, if_true_, and_self, ite_true, true_and, true_or, or_true])
set_option maxRecDepth 100000 in
theorem r237_13 (d : Nat) (x1 x2 x3 : Int) (w4 : MV) : Ev prog clsT X d mc237 13 [(2, 89), (0, x1), (0, x2), (0, x3), w4] [] (mk E c s (hh g)) =
  (if cmpI .ge x3 ((g 89 10)) = true then
  (some ((0, x2), ((mk E c s (hh g)))))
else
  (if cmpI .ne ((g 89 0)) 0 = true then
    (some ((0, x2), ((mk E c s (hh g)))))
  else
    (if inb x3 40 = true then
      (if cmpI .eq ((g 100 (Int.toNat x3))) x1 = true then
      ((Call prog clsT X d 209 [(2, 89), (0, x3)] ((mk E c s (hh g)))).bind fun r1 => if r1.1.1 = 4 then none else
        Ev prog clsT X d mc237 30 [(2, 89), (0, x1), (0, x2), (0, x3), (3, 0)] (pushR r1.1 []) r1.2)
    else
      (Ev prog clsT X d mc237 13 [(2, 89), (0, x1), (0, x2), (0, (w32 (x3 + 1))), (3, 0)] [] (mk E c s (hh g))))
    else none))) :=
  (evk_at (r := ((fget 6184 ((mk E c s (hh g))) 89).bind fun v1 =>
  if cmpI .ge x3 v1 = true then
  (some ((0, x2), (mk E c s (hh g))))
else
  ((fget 6144 ((mk E c s (hh g))) 89).bind fun v2 =>
    if cmpI .ne v2 0 = true then
    (some ((0, x2), (mk E c s (hh g))))
  else
    ((fget 6194 ((mk E c s (hh g))) 89).bind fun v3 =>
      (aget X 100 ((mk E c s (hh g))) v3 x3).bind fun v4 =>
      if cmpI .eq v4 x1 = true then
      (if (2 : Nat) = 2 ∧ rcv ((mk E c s (hh g))) 89 13 = true then
        ((Call prog clsT X d 209 [(2, 89), (0, x3)] ((mk E c s (hh g)))).bind fun r5 => if r5.1.1 = 4 then none else
        Ev prog clsT X d mc237 30 [(2, 89), (0, x1), (0, x2), (0, x3), (3, 0)] (pushR r5.1 []) r5.2) else none)
    else
      (Ev prog clsT X d mc237 13 [(2, 89), (0, x1), (0, x2), (0, (w32 (x3 + 1))), (3, 0)] [] (mk E c s (hh g))))))) X [0, 4, 13, 30, 36] 18 rfl).trans (by simp (maxSteps := 10000000) only [R89_13, ↓A100, ↓F6144_89, ↓F6184_89, ↓F6194_89, bindI, Option.bind_some, if_true_, and_self, ite_true, true_and, true_or, or_true])
set_option maxRecDepth 100000 in
theorem r237_30 (d : Nat) (x1 x2 x3 s0 : Int) : Ev prog clsT X d mc237 30 [(2, 89), (0, x1), (0, x2), (0, x3), (3, 0)] [(0, s0)] (mk E c s (hh g)) =
  ((Call prog clsT X d 152 [(0, s0), (0, 1), (0, 3)] ((mk E c s (hh g)))).bind fun r1 => if r1.1.1 = 4 then none else
  Ev prog clsT X d mc237 36 [(2, 89), (0, x1), (0, x2), (0, x3), (0, s0)] (pushR r1.1 [(0, x2)]) r1.2) :=
  evk_at X [0, 4, 13, 30, 36] 7 rfl
set_option maxRecDepth 100000 in
theorem r237_36 (d : Nat) (x1 x2 x3 x4 s0 s1 : Int) : Ev prog clsT X d mc237 36 [(2, 89), (0, x1), (0, x2), (0, x3), (0, x4)] [(0, s1), (0, s0)] (mk E c s (hh g)) =
  (if cmpI .eq s1 0 = true then
  (if inb x3 40 = true then
    (Ev prog clsT X d mc237 13 [(2, 89), (0, x1), (0, (w32 (s0 + ((w32 (((w32 (0 - ((g 89 68))))) - ((w32 (((g 89 69)) * ((g 103 (Int.toNat x3)))))))))))), (0, (w32 (x3 + 1))), (0, x4)] [] (mk E c s (hh g)))
  else none)
else
  (if inb ((w32 (x4 - 1))) 3 = true then
    (if inb x3 40 = true then
    (Ev prog clsT X d mc237 13 [(2, 89), (0, x1), (0, (w32 (s0 + ((w32 (((w32 (((g 143 (Int.toNat ((w32 (x4 - 1)))))) - ((g 89 68))))) - ((w32 (((g 89 69)) * ((g 103 (Int.toNat x3)))))))))))), (0, (w32 (x3 + 1))), (0, x4)] [] (mk E c s (hh g)))
  else none)
  else none)) :=
  (evk_at (r := (if cmpI .eq s1 0 = true then
  ((fget 6416 ((mk E c s (hh g))) 89).bind fun v1 =>
    (fget 6420 ((mk E c s (hh g))) 89).bind fun v2 =>
    (fget 6206 ((mk E c s (hh g))) 89).bind fun v3 =>
    (aget X 100 ((mk E c s (hh g))) v3 x3).bind fun v4 =>
    Ev prog clsT X d mc237 13 [(2, 89), (0, x1), (0, (w32 (s0 + ((w32 (((w32 (0 - v1))) - ((w32 (v2 * v4))))))))), (0, (w32 (x3 + 1))), (0, x4)] [] (mk E c s (hh g)))
else
  ((fget 6414 ((mk E c s (hh g))) 89).bind fun v5 =>
    (aget X 100 ((mk E c s (hh g))) v5 ((w32 (x4 - 1)))).bind fun v6 =>
    (fget 6416 ((mk E c s (hh g))) 89).bind fun v7 =>
    (fget 6420 ((mk E c s (hh g))) 89).bind fun v8 =>
    (fget 6206 ((mk E c s (hh g))) 89).bind fun v9 =>
    (aget X 100 ((mk E c s (hh g))) v9 x3).bind fun v10 =>
    Ev prog clsT X d mc237 13 [(2, 89), (0, x1), (0, (w32 (s0 + ((w32 (((w32 (v6 - v7))) - ((w32 (v8 * v10))))))))), (0, (w32 (x3 + 1))), (0, x4)] [] (mk E c s (hh g))))) X [0, 4, 13, 30, 36] 25 rfl).trans (by simp (maxSteps := 10000000) only [↓A103, ↓A143, ↓F6206_89, ↓F6414_89, ↓F6416_89, ↓F6420_89, bindI, Option.bind_some, if_true_, and_self, ite_true, true_and, true_or, or_true])
set_option maxRecDepth 100000 in
theorem r238_0 (d : Nat) (x1 x2 x3 x4 : Int) : Ev prog clsT X d mc238 0 [(2, 89), (0, x1), (0, x2), (0, x3), (0, x4), (3, 0), (3, 0), (3, 0), (3, 0), (3, 0), (3, 0), (3, 0), (3, 0)] [] (mk E c s (hh g)) =
  ((Call prog clsT X d 154 [(2, 89), (0, x1)] ((mk E c s (hh g)))).bind fun r1 => if r1.1.1 = 4 then none else
  Ev prog clsT X d mc238 4 [(2, 89), (0, x1), (0, x2), (0, x3), (0, x4), (3, 0), (3, 0), (3, 0), (3, 0), (3, 0), (3, 0), (3, 0), (3, 0)] (pushR r1.1 [(2, 89)]) r1.2) :=
  (evk_at (r := (if (2 : Nat) = 2 ∧ rcv ((mk E c s (hh g))) 89 13 = true then
  ((Call prog clsT X d 154 [(2, 89), (0, x1)] ((mk E c s (hh g)))).bind fun r1 => if r1.1.1 = 4 then none else
  Ev prog clsT X d mc238 4 [(2, 89), (0, x1), (0, x2), (0, x3), (0, x4), (3, 0), (3, 0), (3, 0), (3, 0), (3, 0), (3, 0), (3, 0), (3, 0)] (pushR r1.1 [(2, 89)]) r1.2) else none)) X [0, 4, 8, 12, 20, 24, 40, 45, 53, 61, 84, 105, 127] 5 rfl).trans (by simp (maxSteps := 10000000) only [R89_13, bindI, Option.bind_some, if_true_, and_self, ite_true, true_and, true_or, or_true])
set_option maxRecDepth 100000 in
theorem rc238_ (d : Nat) (x1 x2 x3 x4 : Int) : Call prog clsT X (d + 1) 238 [(2, 89), (0, x1), (0, x2), (0, x3), (0, x4)] (mk E c s (hh g)) =
  ((Call prog clsT X d 154 [(2, 89), (0, x1)] ((mk E c s (hh g)))).bind fun r1 => if r1.1.1 = 4 then none else
  Ev prog clsT X d mc238 4 [(2, 89), (0, x1), (0, x2), (0, x3), (0, x4), (3, 0), (3, 0), (3, 0), (3, 0), (3, 0), (3, 0), (3, 0), (3, 0)] (pushR r1.1 [(2, 89)]) r1.2) :=
  (show Call prog clsT X (d + 1) 238 [(2, 89), (0, x1), (0, x2), (0, x3), (0, x4)] (mk E c s (hh g)) = Ev prog clsT X d mc238 0 [(2, 89), (0, x1), (0, x2), (0, x3), (0, x4), (3, 0), (3, 0), (3, 0), (3, 0), (3, 0), (3, 0), (3, 0), (3, 0)] [] (mk E c s (hh g)) from rfl).trans (r238_0 X E c s g d x1 x2 x3 x4 )
set_option maxRecDepth 100000 in
theorem r238_4 (d : Nat) (x1 x2 x3 x4 s1 : Int) : Ev prog clsT X d mc238 4 [(2, 89), (0, x1), (0, x2), (0, x3), (0, x4), (3, 0), (3, 0), (3, 0), (3, 0), (3, 0), (3, 0), (3, 0), (3, 0)] [(0, s1), (2, 89)] (mk E c s (hh g)) =
  (if cmpI .eq s1 0 = true then
  (if cmpI .ne 1 1 = true then
    ((Call prog clsT X d 240 [(2, 89), (0, x2), (0, x1), (0, 0)] ((mk E c s (hh (up g 89 0 1))))).bind fun r1 => if r1.1.1 = 4 then none else
      Ev prog clsT X d mc238 40 [(2, 89), (0, x1), (0, x2), (0, x3), (0, x4), (3, 0), (3, 0), (3, 0), (3, 0), (3, 0), (3, 0), (3, 0), (3, 0)] (pushR r1.1 []) r1.2)
  else
    (some ((1, 0), ((mk E c s (hh (up g 89 0 1)))))))
else
  ((Call prog clsT X d 157 [(2, 89), (0, x2)] ((mk E c s (hh g)))).bind fun r2 => if r2.1.1 = 4 then none else
    Ev prog clsT X d mc238 8 [(2, 89), (0, x1), (0, x2), (0, x3), (0, x4), (3, 0), (3, 0), (3, 0), (3, 0), (3, 0), (3, 0), (3, 0), (3, 0)] (pushR r2.1 [(2, 89)]) r2.2)) :=
  (evk_at (r := (if cmpI .eq s1 0 = true then
  ((fput 6144 ((mk E c s (hh g))) 89 1).bind fun M1 =>
    (fget 6144 M1 89).bind fun v2 =>
    if cmpI .ne v2 1 = true then
    (if (2 : Nat) = 2 ∧ rcv M1 89 13 = true then
      ((Call prog clsT X d 240 [(2, 89), (0, x2), (0, x1), (0, 0)] M1).bind fun r3 => if r3.1.1 = 4 then none else
      Ev prog clsT X d mc238 40 [(2, 89), (0, x1), (0, x2), (0, x3), (0, x4), (3, 0), (3, 0), (3, 0), (3, 0), (3, 0), (3, 0), (3, 0), (3, 0)] (pushR r3.1 []) r3.2) else none)
  else
    (some ((1, 0), M1)))
else
  (if (2 : Nat) = 2 ∧ rcv ((mk E c s (hh g))) 89 13 = true then
    ((Call prog clsT X d 157 [(2, 89), (0, x2)] ((mk E c s (hh g)))).bind fun r4 => if r4.1.1 = 4 then none else
    Ev prog clsT X d mc238 8 [(2, 89), (0, x1), (0, x2), (0, x3), (0, x4), (3, 0), (3, 0), (3, 0), (3, 0), (3, 0), (3, 0), (3, 0), (3, 0)] (pushR r4.1 [(2, 89)]) r4.2) else none))) X [0, 4, 8, 12, 20, 24, 40, 45, 53, 61, 84, 105, 127] 13 rfl).trans (by simp (maxSteps := 10000000) only [R89_13, up_same, ↓F6144_89, ↓W6144_89, bindI, Option.bind_some, if_true_, and_self, ite_true, true_and, true_or, or_true])
set_option maxRecDepth 100000 in
theorem r238_8 (d : Nat) (x1 x2 x3 x4 s1 : Int) : Ev prog clsT X d mc238 8 [(2, 89), (0, x1), (0, x2), (0, x3), (0, x4), (3, 0), (3, 0), (3, 0), (3, 0), (3, 0), (3, 0), (3, 0), (3, 0)] [(0, s1), (2, 89)] (mk E c s (hh g)) =
  (if cmpI .eq s1 0 = true then
  (if cmpI .ne 1 1 = true then
    ((Call prog clsT X d 240 [(2, 89), (0, x2), (0, x1), (0, 0)] ((mk E c s (hh (up g 89 0 1))))).bind fun r1 => if r1.1.1 = 4 then none else
      Ev prog clsT X d mc238 40 [(2, 89), (0, x1), (0, x2), (0, x3), (0, x4), (3, 0), (3, 0), (3, 0), (3, 0), (3, 0), (3, 0), (3, 0), (3, 0)] (pushR r1.1 []) r1.2)
  else
    (some ((1, 0), ((mk E c s (hh (up g 89 0 1)))))))
else
  ((Call prog clsT X d 157 [(2, 89), (0, x3)] ((mk E c s (hh g)))).bind fun r2 => if r2.1.1 = 4 then none else
    Ev prog clsT X d mc238 12 [(2, 89), (0, x1), (0, x2), (0, x3), (0, x4), (3, 0), (3, 0), (3, 0), (3, 0), (3, 0), (3, 0), (3, 0), (3, 0)] (pushR r2.1 [(2, 89)]) r2.2)) :=
  (evk_at (r := (if cmpI .eq s1 0 = true then
  ((fput 6144 ((mk E c s (hh g))) 89 1).bind fun M1 =>
    (fget 6144 M1 89).bind fun v2 =>
    if cmpI .ne v2 1 = true then
    (if (2 : Nat) = 2 ∧ rcv M1 89 13 = true then
      ((Call prog clsT X d 240 [(2, 89), (0, x2), (0, x1), (0, 0)] M1).bind fun r3 => if r3.1.1 = 4 then none else
      Ev prog clsT X d mc238 40 [(2, 89), (0, x1), (0, x2), (0, x3), (0, x4), (3, 0), (3, 0), (3, 0), (3, 0), (3, 0), (3, 0), (3, 0), (3, 0)] (pushR r3.1 []) r3.2) else none)
  else
    (some ((1, 0), M1)))
else
  (if (2 : Nat) = 2 ∧ rcv ((mk E c s (hh g))) 89 13 = true then
    ((Call prog clsT X d 157 [(2, 89), (0, x3)] ((mk E c s (hh g)))).bind fun r4 => if r4.1.1 = 4 then none else
    Ev prog clsT X d mc238 12 [(2, 89), (0, x1), (0, x2), (0, x3), (0, x4), (3, 0), (3, 0), (3, 0), (3, 0), (3, 0), (3, 0), (3, 0), (3, 0)] (pushR r4.1 [(2, 89)]) r4.2) else none))) X [0, 4, 8, 12, 20, 24, 40, 45, 53, 61, 84, 105, 127] 13 rfl).trans (by simp (maxSteps := 10000000) only [R89_13, up_same, ↓F6144_89, ↓W6144_89, bindI, Option.bind_some, if_true_, and_self, ite_true, true_and, true_or, or_true])
set_option maxRecDepth 100000 in
theorem r238_12 (d : Nat) (x1 x2 x3 x4 s1 : Int) : Ev prog clsT X d mc238 12 [(2, 89), (0, x1), (0, x2), (0, x3), (0, x4), (3, 0), (3, 0), (3, 0), (3, 0), (3, 0), (3, 0), (3, 0), (3, 0)] [(0, s1), (2, 89)] (mk E c s (hh g)) =
  (if cmpI .eq s1 0 = true then
  (if cmpI .ne 1 1 = true then
    ((Call prog clsT X d 240 [(2, 89), (0, x2), (0, x1), (0, 0)] ((mk E c s (hh (up g 89 0 1))))).bind fun r1 => if r1.1.1 = 4 then none else
      Ev prog clsT X d mc238 40 [(2, 89), (0, x1), (0, x2), (0, x3), (0, x4), (3, 0), (3, 0), (3, 0), (3, 0), (3, 0), (3, 0), (3, 0), (3, 0)] (pushR r1.1 []) r1.2)
  else
    (some ((1, 0), ((mk E c s (hh (up g 89 0 1)))))))
else
  (if cmpI .eq x2 x3 = true then
    (if cmpI .ne 1 1 = true then
      ((Call prog clsT X d 240 [(2, 89), (0, x2), (0, x1), (0, 0)] ((mk E c s (hh (up g 89 0 1))))).bind fun r2 => if r2.1.1 = 4 then none else
        Ev prog clsT X d mc238 40 [(2, 89), (0, x1), (0, x2), (0, x3), (0, x4), (3, 0), (3, 0), (3, 0), (3, 0), (3, 0), (3, 0), (3, 0), (3, 0)] (pushR r2.1 []) r2.2)
    else
      (some ((1, 0), ((mk E c s (hh (up g 89 0 1)))))))
  else
    ((Call prog clsT X d 152 [(0, x4), (0, 0), (0, 2)] ((mk E c s (hh g)))).bind fun r3 => if r3.1.1 = 4 then none else
      Ev prog clsT X d mc238 20 [(2, 89), (0, x1), (0, x2), (0, x3), (0, x4), (3, 0), (3, 0), (3, 0), (3, 0), (3, 0), (3, 0), (3, 0), (3, 0)] (pushR r3.1 [(2, 89)]) r3.2))) :=
  (evk_at (r := (if cmpI .eq s1 0 = true then
  ((fput 6144 ((mk E c s (hh g))) 89 1).bind fun M1 =>
    (fget 6144 M1 89).bind fun v2 =>
    if cmpI .ne v2 1 = true then
    (if (2 : Nat) = 2 ∧ rcv M1 89 13 = true then
      ((Call prog clsT X d 240 [(2, 89), (0, x2), (0, x1), (0, 0)] M1).bind fun r3 => if r3.1.1 = 4 then none else
      Ev prog clsT X d mc238 40 [(2, 89), (0, x1), (0, x2), (0, x3), (0, x4), (3, 0), (3, 0), (3, 0), (3, 0), (3, 0), (3, 0), (3, 0), (3, 0)] (pushR r3.1 []) r3.2) else none)
  else
    (some ((1, 0), M1)))
else
  (if cmpI .eq x2 x3 = true then
    ((fput 6144 ((mk E c s (hh g))) 89 1).bind fun M4 =>
      (fget 6144 M4 89).bind fun v5 =>
      if cmpI .ne v5 1 = true then
      (if (2 : Nat) = 2 ∧ rcv M4 89 13 = true then
        ((Call prog clsT X d 240 [(2, 89), (0, x2), (0, x1), (0, 0)] M4).bind fun r6 => if r6.1.1 = 4 then none else
        Ev prog clsT X d mc238 40 [(2, 89), (0, x1), (0, x2), (0, x3), (0, x4), (3, 0), (3, 0), (3, 0), (3, 0), (3, 0), (3, 0), (3, 0), (3, 0)] (pushR r6.1 []) r6.2) else none)
    else
      (some ((1, 0), M4)))
  else
    ((Call prog clsT X d 152 [(0, x4), (0, 0), (0, 2)] ((mk E c s (hh g)))).bind fun r7 => if r7.1.1 = 4 then none else
      Ev prog clsT X d mc238 20 [(2, 89), (0, x1), (0, x2), (0, x3), (0, x4), (3, 0), (3, 0), (3, 0), (3, 0), (3, 0), (3, 0), (3, 0), (3, 0)] (pushR r7.1 [(2, 89)]) r7.2)))) X [0, 4, 8, 12, 20, 24, 40, 45, 53, 61, 84, 105, 127] 16 rfl).trans (by simp (maxSteps := 10000000) only [R89_13, up_same, ↓F6144_89, ↓W6144_89, bindI, Option.bind_some, if_true_, and_self, ite_true, true_and, true_or, or_true])
set_option maxRecDepth 100000 in
theorem r238_20 (d : Nat) (x1 x2 x3 x4 s1 : Int) : Ev prog clsT X d mc238 20 [(2, 89), (0, x1), (0, x2), (0, x3), (0, x4), (3, 0), (3, 0), (3, 0), (3, 0), (3, 0), (3, 0), (3, 0), (3, 0)] [(0, s1), (2, 89)] (mk E c s (hh g)) =
  (if cmpI .eq s1 0 = true then
  (if cmpI .ne 1 1 = true then
    ((Call prog clsT X d 240 [(2, 89), (0, x2), (0, x1), (0, 0)] ((mk E c s (hh (up g 89 0 1))))).bind fun r1 => if r1.1.1 = 4 then none else
      Ev prog clsT X d mc238 40 [(2, 89), (0, x1), (0, x2), (0, x3), (0, x4), (3, 0), (3, 0), (3, 0), (3, 0), (3, 0), (3, 0), (3, 0), (3, 0)] (pushR r1.1 []) r1.2)
  else
    (some ((1, 0), ((mk E c s (hh (up g 89 0 1)))))))
else
  ((Call prog clsT X d 239 [(2, 89), (0, x1)] ((mk E c s (hh g)))).bind fun r2 => if r2.1.1 = 4 then none else
    Ev prog clsT X d mc238 24 [(2, 89), (0, x1), (0, x2), (0, x3), (0, x4), (3, 0), (3, 0), (3, 0), (3, 0), (3, 0), (3, 0), (3, 0), (3, 0)] (pushR r2.1 [(2, 89)]) r2.2)) :=
  (evk_at (r := (if cmpI .eq s1 0 = true then
  ((fput 6144 ((mk E c s (hh g))) 89 1).bind fun M1 =>
    (fget 6144 M1 89).bind fun v2 =>
    if cmpI .ne v2 1 = true then
    (if (2 : Nat) = 2 ∧ rcv M1 89 13 = true then
      ((Call prog clsT X d 240 [(2, 89), (0, x2), (0, x1), (0, 0)] M1).bind fun r3 => if r3.1.1 = 4 then none else
      Ev prog clsT X d mc238 40 [(2, 89), (0, x1), (0, x2), (0, x3), (0, x4), (3, 0), (3, 0), (3, 0), (3, 0), (3, 0), (3, 0), (3, 0), (3, 0)] (pushR r3.1 []) r3.2) else none)
  else
    (some ((1, 0), M1)))
else
  (if (2 : Nat) = 2 ∧ rcv ((mk E c s (hh g))) 89 13 = true then
    ((Call prog clsT X d 239 [(2, 89), (0, x1)] ((mk E c s (hh g)))).bind fun r4 => if r4.1.1 = 4 then none else
    Ev prog clsT X d mc238 24 [(2, 89), (0, x1), (0, x2), (0, x3), (0, x4), (3, 0), (3, 0), (3, 0), (3, 0), (3, 0), (3, 0), (3, 0), (3, 0)] (pushR r4.1 [(2, 89)]) r4.2) else none))) X [0, 4, 8, 12, 20, 24, 40, 45, 53, 61, 84, 105, 127] 13 rfl).trans (by simp (maxSteps := 10000000) only [R89_13, up_same, ↓F6144_89, ↓W6144_89, bindI, Option.bind_some, if_true_, and_self, ite_true, true_and, true_or, or_true])
set_option maxRecDepth 100000 in
theorem r238_24 (d : Nat) (x1 x2 x3 x4 s1 : Int) : Ev prog clsT X d mc238 24 [(2, 89), (0, x1), (0, x2), (0, x3), (0, x4), (3, 0), (3, 0), (3, 0), (3, 0), (3, 0), (3, 0), (3, 0), (3, 0)] [(0, s1), (2, 89)] (mk E c s (hh g)) =
  (if cmpI .eq s1 0 = true then
  (if cmpI .ne 1 1 = true then
    ((Call prog clsT X d 240 [(2, 89), (0, x2), (0, x1), (0, 0)] ((mk E c s (hh (up g 89 0 1))))).bind fun r1 => if r1.1.1 = 4 then none else
      Ev prog clsT X d mc238 40 [(2, 89), (0, x1), (0, x2), (0, x3), (0, x4), (3, 0), (3, 0), (3, 0), (3, 0), (3, 0), (3, 0), (3, 0), (3, 0)] (pushR r1.1 []) r1.2)
  else
    (some ((1, 0), ((mk E c s (hh (up g 89 0 1)))))))
else
  (if cmpI .ne 0 1 = true then
    ((Call prog clsT X d 240 [(2, 89), (0, x2), (0, x1), (0, 0)] ((mk E c s (hh (up g 89 0 0))))).bind fun r2 => if r2.1.1 = 4 then none else
      Ev prog clsT X d mc238 40 [(2, 89), (0, x1), (0, x2), (0, x3), (0, x4), (3, 0), (3, 0), (3, 0), (3, 0), (3, 0), (3, 0), (3, 0), (3, 0)] (pushR r2.1 []) r2.2)
  else
    (some ((1, 0), ((mk E c s (hh (up g 89 0 0)))))))) :=
  (evk_at (r := (if cmpI .eq s1 0 = true then
  ((fput 6144 ((mk E c s (hh g))) 89 1).bind fun M1 =>
    (fget 6144 M1 89).bind fun v2 =>
    if cmpI .ne v2 1 = true then
    (if (2 : Nat) = 2 ∧ rcv M1 89 13 = true then
      ((Call prog clsT X d 240 [(2, 89), (0, x2), (0, x1), (0, 0)] M1).bind fun r3 => if r3.1.1 = 4 then none else
      Ev prog clsT X d mc238 40 [(2, 89), (0, x1), (0, x2), (0, x3), (0, x4), (3, 0), (3, 0), (3, 0), (3, 0), (3, 0), (3, 0), (3, 0), (3, 0)] (pushR r3.1 []) r3.2) else none)
  else
    (some ((1, 0), M1)))
else
  ((fput 6144 ((mk E c s (hh g))) 89 0).bind fun M4 =>
    (fget 6144 M4 89).bind fun v5 =>
    if cmpI .ne v5 1 = true then
    (if (2 : Nat) = 2 ∧ rcv M4 89 13 = true then
      ((Call prog clsT X d 240 [(2, 89), (0, x2), (0, x1), (0, 0)] M4).bind fun r6 => if r6.1.1 = 4 then none else
      Ev prog clsT X d mc238 40 [(2, 89), (0, x1), (0, x2), (0, x3), (0, x4), (3, 0), (3, 0), (3, 0), (3, 0), (3, 0), (3, 0), (3, 0), (3, 0)] (pushR r6.1 []) r6.2) else none)
  else
    (some ((1, 0), M4))))) X [0, 4, 8, 12, 20, 24, 40, 45, 53, 61, 84, 105, 127] 14 rfl).trans (by simp (maxSteps := 10000000) only [R89_13, up_same, ↓F6144_89, ↓W6144_89, bindI, Option.bind_some, if_true_, and_self, ite_true, true_and, true_or, or_true])
set_option maxRecDepth 100000 in
theorem r238_40 (d : Nat) (x1 x2 x3 x4 : Int) : Ev prog clsT X d mc238 40 [(2, 89), (0, x1), (0, x2), (0, x3), (0, x4), (3, 0), (3, 0), (3, 0), (3, 0), (3, 0), (3, 0), (3, 0), (3, 0)] [] (mk E c s (hh g)) =
  ((Call prog clsT X d 240 [(2, 89), (0, x3), (0, x1), (0, 1024)] ((mk E c s (hh g)))).bind fun r1 => if r1.1.1 = 4 then none else
  Ev prog clsT X d mc238 45 [(2, 89), (0, x1), (0, x2), (0, x3), (0, x4), (3, 0), (3, 0), (3, 0), (3, 0), (3, 0), (3, 0), (3, 0), (3, 0)] (pushR r1.1 []) r1.2) :=
  (evk_at (r := (if (2 : Nat) = 2 ∧ rcv ((mk E c s (hh g))) 89 13 = true then
  ((Call prog clsT X d 240 [(2, 89), (0, x3), (0, x1), (0, 1024)] ((mk E c s (hh g)))).bind fun r1 => if r1.1.1 = 4 then none else
  Ev prog clsT X d mc238 45 [(2, 89), (0, x1), (0, x2), (0, x3), (0, x4), (3, 0), (3, 0), (3, 0), (3, 0), (3, 0), (3, 0), (3, 0), (3, 0)] (pushR r1.1 []) r1.2) else none)) X [0, 4, 8, 12, 20, 24, 40, 45, 53, 61, 84, 105, 127] 6 rfl).trans (by simp (maxSteps := 10000000) only [R89_13, bindI, Option.bind_some, if_true_, and_self, ite_true, true_and, true_or, or_true])
set_option maxRecDepth 100000 in
theorem r238_45 (d : Nat) (x1 x2 x3 x4 : Int) : Ev prog clsT X d mc238 45 [(2, 89), (0, x1), (0, x2), (0, x3), (0, x4), (3, 0), (3, 0), (3, 0), (3, 0), (3, 0), (3, 0), (3, 0), (3, 0)] [] (mk E c s (hh g)) =
  (Ev prog clsT X d mc238 53 [(2, 89), (0, x1), (0, x2), (0, x3), (0, x4), (0, (-1)), (0, (-1)), (1, 0), (3, 0), (0, 0), (3, 0), (3, 0), (3, 0)] [] (mk E c s (hh g))) :=
  evk_at X [0, 4, 8, 12, 20, 24, 40, 45, 53, 61, 84, 105, 127] 10 rfl
set_option maxRecDepth 100000 in
theorem r238_53 (d : Nat) (x4 x5 x6 x7 x9 : Int) (w1 w2 w3 w8 w10 w11 w12 : MV) : Ev prog clsT X d mc238 53 [(2, 89), w1, w2, w3, (0, x4), (0, x5), (0, x6), (1, x7), w8, (0, x9), w10, w11, w12] [] (mk E c s (hh g)) =
  (if cmpI .ge x9 ((ishl32 1 ((g 89 76)))) = true then
  (if cmpI .ne x4 0 = true then
    (if cmpI .ne x4 1 = true then
      ((Call prog clsT X d 241 [(2, 89), (0, x6)] ((mk E c s (hh g)))).bind fun r1 => if r1.1.1 = 4 then none else
        Ev prog clsT X d mc238 127 [(2, 89), (3, 0), (3, 0), (3, 0), (0, x4), (0, x5), (0, x6), (1, x7), (3, 0), (0, x9), (3, 0), (3, 0), (3, 0)] (pushR r1.1 []) r1.2)
    else
      ((Call prog clsT X d 241 [(2, 89), (0, x5)] ((mk E c s (hh g)))).bind fun r2 => if r2.1.1 = 4 then none else
        Ev prog clsT X d mc238 127 [(2, 89), (3, 0), (3, 0), (3, 0), (0, x4), (0, x5), (0, x6), (1, x7), (3, 0), (0, x9), (3, 0), (3, 0), (3, 0)] (pushR r2.1 []) r2.2))
  else
    (Ev prog clsT X d mc238 127 [(2, 89), (3, 0), (3, 0), (3, 0), (0, x4), (0, x5), (0, x6), (1, x7), (3, 0), (0, x9), (3, 0), (3, 0), (3, 0)] [(1, x7)] (mk E c s (hh g))))
else
  (Ev prog clsT X d mc238 61 [(2, 89), (3, 0), (3, 0), (3, 0), (0, x4), (0, x5), (0, x6), (1, x7), (3, 0), (0, x9), (0, 0), (3, 0), (3, 0)] [] (mk E c s (hh g)))) :=
  (evk_at (r := ((fget 6448 ((mk E c s (hh g))) 89).bind fun v1 =>
  if cmpI .ge x9 ((ishl32 1 v1)) = true then
  (if cmpI .ne x4 0 = true then
    (if cmpI .ne x4 1 = true then
      (if (2 : Nat) = 2 ∧ rcv ((mk E c s (hh g))) 89 13 = true then
        ((Call prog clsT X d 241 [(2, 89), (0, x6)] ((mk E c s (hh g)))).bind fun r2 => if r2.1.1 = 4 then none else
        Ev prog clsT X d mc238 127 [(2, 89), (3, 0), (3, 0), (3, 0), (0, x4), (0, x5), (0, x6), (1, x7), (3, 0), (0, x9), (3, 0), (3, 0), (3, 0)] (pushR r2.1 []) r2.2) else none)
    else
      (if (2 : Nat) = 2 ∧ rcv ((mk E c s (hh g))) 89 13 = true then
        ((Call prog clsT X d 241 [(2, 89), (0, x5)] ((mk E c s (hh g)))).bind fun r3 => if r3.1.1 = 4 then none else
        Ev prog clsT X d mc238 127 [(2, 89), (3, 0), (3, 0), (3, 0), (0, x4), (0, x5), (0, x6), (1, x7), (3, 0), (0, x9), (3, 0), (3, 0), (3, 0)] (pushR r3.1 []) r3.2) else none))
  else
    (Ev prog clsT X d mc238 127 [(2, 89), (3, 0), (3, 0), (3, 0), (0, x4), (0, x5), (0, x6), (1, x7), (3, 0), (0, x9), (3, 0), (3, 0), (3, 0)] [(1, x7)] (mk E c s (hh g))))
else
  (Ev prog clsT X d mc238 61 [(2, 89), (3, 0), (3, 0), (3, 0), (0, x4), (0, x5), (0, x6), (1, x7), (3, 0), (0, x9), (0, 0), (3, 0), (3, 0)] [] (mk E c s (hh g))))) X [0, 4, 8, 12, 20, 24, 40, 45, 53, 61, 84, 105, 127] 16 rfl).trans (by simp (maxSteps := 10000000) only [R89_13, ↓F6448_89, bindI, Option.bind_some, if_true_, and_self, ite_true, true_and, true_or, or_true])
set_option maxRecDepth 100000 in
theorem r238_61 (d : Nat) (x4 x5 x6 x7 x9 x10 : Int) (w1 w2 w3 w8 w11 w12 : MV) : Ev prog clsT X d mc238 61 [(2, 89), w1, w2, w3, (0, x4), (0, x5), (0, x6), (1, x7), w8, (0, x9), (0, x10), w11, w12] [] (mk E c s (hh g)) =
  (if cmpI .ge x10 ((ishl32 1 ((g 89 76)))) = true then
  (Ev prog clsT X d mc238 53 [(2, 89), (3, 0), (3, 0), (3, 0), (0, x4), (0, x5), (0, x6), (1, x7), (3, 0), (0, (w32 (x9 + 1))), (0, x10), (3, 0), (3, 0)] [] (mk E c s (hh g)))
else
  (if inb x9 2048 = true then
    (if cmpI .eq ((g 150 (Int.toNat x9))) 0 = true then
    (Ev prog clsT X d mc238 53 [(2, 89), (3, 0), (3, 0), (3, 0), (0, x4), (0, x5), (0, x6), (1, x7), (3, 0), (0, (w32 (x9 + 1))), (0, x10), (3, 0), (3, 0)] [] (mk E c s (hh g)))
  else
    (if cmpI .ne ((iand32 x9 x10)) 0 = true then
      (Ev prog clsT X d mc238 61 [(2, 89), (3, 0), (3, 0), (3, 0), (0, x4), (0, x5), (0, x6), (1, x7), (3, 0), (0, x9), (0, (w32 (x10 + 1))), (3, 0), (3, 0)] [] (mk E c s (hh g)))
    else
      (if inb ((w32 (1024 + x10))) 2048 = true then
        (if cmpI .ne ((g 150 (Int.toNat ((w32 (1024 + x10)))))) 0 = true then
        (Ev prog clsT X d mc238 84 [(2, 89), (3, 0), (3, 0), (3, 0), (0, x4), (0, x5), (0, x6), (1, x7), (3, 0), (0, x9), (0, x10), (3, 0), (3, 0)] [] (mk E c s (hh g)))
      else
        (Ev prog clsT X d mc238 61 [(2, 89), (3, 0), (3, 0), (3, 0), (0, x4), (0, x5), (0, x6), (1, x7), (3, 0), (0, x9), (0, (w32 (x10 + 1))), (3, 0), (3, 0)] [] (mk E c s (hh g))))
      else none)))
  else none)) :=
  (evk_at (r := ((fget 6448 ((mk E c s (hh g))) 89).bind fun v1 =>
  if cmpI .ge x10 ((ishl32 1 v1)) = true then
  (Ev prog clsT X d mc238 53 [(2, 89), (3, 0), (3, 0), (3, 0), (0, x4), (0, x5), (0, x6), (1, x7), (3, 0), (0, (w32 (x9 + 1))), (0, x10), (3, 0), (3, 0)] [] (mk E c s (hh g)))
else
  ((fget 6458 ((mk E c s (hh g))) 89).bind fun v2 =>
    (aget X 102 ((mk E c s (hh g))) v2 x9).bind fun v3 =>
    if cmpI .eq v3 0 = true then
    (Ev prog clsT X d mc238 53 [(2, 89), (3, 0), (3, 0), (3, 0), (0, x4), (0, x5), (0, x6), (1, x7), (3, 0), (0, (w32 (x9 + 1))), (0, x10), (3, 0), (3, 0)] [] (mk E c s (hh g)))
  else
    (if cmpI .ne ((iand32 x9 x10)) 0 = true then
      (Ev prog clsT X d mc238 61 [(2, 89), (3, 0), (3, 0), (3, 0), (0, x4), (0, x5), (0, x6), (1, x7), (3, 0), (0, x9), (0, (w32 (x10 + 1))), (3, 0), (3, 0)] [] (mk E c s (hh g)))
    else
      ((fget 6458 ((mk E c s (hh g))) 89).bind fun v4 =>
        (aget X 102 ((mk E c s (hh g))) v4 ((w32 (1024 + x10)))).bind fun v5 =>
        if cmpI .ne v5 0 = true then
        (Ev prog clsT X d mc238 84 [(2, 89), (3, 0), (3, 0), (3, 0), (0, x4), (0, x5), (0, x6), (1, x7), (3, 0), (0, x9), (0, x10), (3, 0), (3, 0)] [] (mk E c s (hh g)))
      else
        (Ev prog clsT X d mc238 61 [(2, 89), (3, 0), (3, 0), (3, 0), (0, x4), (0, x5), (0, x6), (1, x7), (3, 0), (0, x9), (0, (w32 (x10 + 1))), (3, 0), (3, 0)] [] (mk E c s (hh g)))))))) X [0, 4, 8, 12, 20, 24, 40, 45, 53, 61, 84, 105, 127] 27 rfl).trans (by simp (maxSteps := 10000000) only [↓A150, ↓F6448_89, ↓F6458_89, bindI, Option.bind_some, if_true_, and_self, ite_true, true_and, true_or, or_true])
set_option maxRecDepth 100000 in
theorem r238_84 (d : Nat) (x4 x5 x6 x7 x9 x10 : Int) : Ev prog clsT X d mc238 84 [(2, 89), (3, 0), (3, 0), (3, 0), (0, x4), (0, x5), (0, x6), (1, x7), (3, 0), (0, x9), (0, x10), (3, 0), (3, 0)] [] (mk E c s (hh g)) =
  (if inb x9 2048 = true then
  (if inb ((w32 (1024 + x10))) 2048 = true then
  (if cmpI .lt x5 0 = true then
  (Ev prog clsT X d mc238 105 [(2, 89), (3, 0), (3, 0), (3, 0), (0, x4), (0, x5), (0, x6), (1, x7), (3, 0), (0, x9), (0, x10), (1, (w64 (((g 151 (Int.toNat x9))) + ((g 151 (Int.toNat ((w32 (1024 + x10))))))))), (3, 0)] [] (mk E c s (hh g)))
else
  (if cmpI .gt ((lcmpI ((w64 (((g 151 (Int.toNat x9))) + ((g 151 (Int.toNat ((w32 (1024 + x10))))))))) x7)) 0 = true then
    (Ev prog clsT X d mc238 105 [(2, 89), (3, 0), (3, 0), (3, 0), (0, x4), (0, x5), (0, x6), (1, x7), (3, 0), (0, x9), (0, x10), (1, (w64 (((g 151 (Int.toNat x9))) + ((g 151 (Int.toNat ((w32 (1024 + x10))))))))), (3, 0)] [] (mk E c s (hh g)))
  else
    (Ev prog clsT X d mc238 61 [(2, 89), (3, 0), (3, 0), (3, 0), (0, x4), (0, x5), (0, x6), (1, x7), (3, 0), (0, x9), (0, (w32 (x10 + 1))), (1, (w64 (((g 151 (Int.toNat x9))) + ((g 151 (Int.toNat ((w32 (1024 + x10))))))))), (3, 0)] [] (mk E c s (hh g)))))
else none)
else none) :=
  (evk_at (r := ((fget 6462 ((mk E c s (hh g))) 89).bind fun v1 =>
  (aget X 100 ((mk E c s (hh g))) v1 x9).bind fun v2 =>
  (fget 6462 ((mk E c s (hh g))) 89).bind fun v3 =>
  (aget X 100 ((mk E c s (hh g))) v3 ((w32 (1024 + x10)))).bind fun v4 =>
  if cmpI .lt x5 0 = true then
  (Ev prog clsT X d mc238 105 [(2, 89), (3, 0), (3, 0), (3, 0), (0, x4), (0, x5), (0, x6), (1, x7), (3, 0), (0, x9), (0, x10), (1, (w64 (v2 + v4))), (3, 0)] [] (mk E c s (hh g)))
else
  (if cmpI .gt ((lcmpI ((w64 (v2 + v4))) x7)) 0 = true then
    (Ev prog clsT X d mc238 105 [(2, 89), (3, 0), (3, 0), (3, 0), (0, x4), (0, x5), (0, x6), (1, x7), (3, 0), (0, x9), (0, x10), (1, (w64 (v2 + v4))), (3, 0)] [] (mk E c s (hh g)))
  else
    (Ev prog clsT X d mc238 61 [(2, 89), (3, 0), (3, 0), (3, 0), (0, x4), (0, x5), (0, x6), (1, x7), (3, 0), (0, x9), (0, (w32 (x10 + 1))), (1, (w64 (v2 + v4))), (3, 0)] [] (mk E c s (hh g)))))) X [0, 4, 8, 12, 20, 24, 40, 45, 53, 61, 84, 105, 127] 25 rfl).trans (by simp (maxSteps := 10000000) only [↓A151, ↓F6462_89, bindI, Option.bind_some, if_true_, and_self, ite_true, true_and, true_or, or_true])
set_option maxRecDepth 100000 in
theorem r238_105 (d : Nat) (x4 x5 x6 x7 x9 x10 x11 : Int) : Ev prog clsT X d mc238 105 [(2, 89), (3, 0), (3, 0), (3, 0), (0, x4), (0, x5), (0, x6), (1, x7), (3, 0), (0, x9), (0, x10), (1, x11), (3, 0)] [] (mk E c s (hh g)) =
  (Ev prog clsT X d mc238 61 [(2, 89), (3, 0), (3, 0), (3, 0), (0, x4), (0, x9), (0, x10), (1, x11), (3, 0), (0, x9), (0, (w32 (x10 + 1))), (1, x11), (3, 0)] [] (mk E c s (hh g))) :=
  evk_at X [0, 4, 8, 12, 20, 24, 40, 45, 53, 61, 84, 105, 127] 10 rfl
set_option maxRecDepth 100000 in
theorem r238_127 (d : Nat) (x4 x5 x6 x7 x9 s0 : Int) : Ev prog clsT X d mc238 127 [(2, 89), (3, 0), (3, 0), (3, 0), (0, x4), (0, x5), (0, x6), (1, x7), (3, 0), (0, x9), (3, 0), (3, 0), (3, 0)] [(1, s0)] (mk E c s (hh g)) =
  (some ((1, s0), ((mk E c s (hh g))))) :=
  (evk_at (r := (some ((1, s0), (mk E c s (hh g))))) X [0, 4, 8, 12, 20, 24, 40, 45, 53, 61, 84, 105, 127] 2 rfl).trans (by simp (maxSteps := 10000000) only [bindI, Option.bind_some, if_true_, and_self, ite_true, true_and, true_or, or_true])
set_option maxRecDepth 100000 in
theorem r239_0 (d : Nat) (x1 : Int) : Ev prog clsT X d mc239 0 [(2, 89), (0, x1), (3, 0), (3, 0), (3, 0)] [] (mk E c s (hh g)) =
  ((Call prog clsT X d 155 [(2, 89)] ((mk E c s (hh g)))).bind fun r1 => if r1.1.1 = 4 then none else
  Ev prog clsT X d mc239 2 [(2, 89), (0, x1), (3, 0), (3, 0), (3, 0)] (pushR r1.1 []) r1.2) :=
  (evk_at (r := (if (2 : Nat) = 2 ∧ rcv ((mk E c s (hh g))) 89 13 = true then
  ((Call prog clsT X d 155 [(2, 89)] ((mk E c s (hh g)))).bind fun r1 => if r1.1.1 = 4 then none else
  Ev prog clsT X d mc239 2 [(2, 89), (0, x1), (3, 0), (3, 0), (3, 0)] (pushR r1.1 []) r1.2) else none)) X [0, 2, 8] 3 rfl).trans (by simp (maxSteps := 10000000) only [R89_13, bindI, Option.bind_some, if_true_, and_self, ite_true, true_and, true_or, or_true])
set_option maxRecDepth 100000 in
theorem rc239_ (d : Nat) (x1 : Int) : Call prog clsT X (d + 1) 239 [(2, 89), (0, x1)] (mk E c s (hh g)) =
  ((Call prog clsT X d 155 [(2, 89)] ((mk E c s (hh g)))).bind fun r1 => if r1.1.1 = 4 then none else
  Ev prog clsT X d mc239 2 [(2, 89), (0, x1), (3, 0), (3, 0), (3, 0)] (pushR r1.1 []) r1.2) :=
  (show Call prog clsT X (d + 1) 239 [(2, 89), (0, x1)] (mk E c s (hh g)) = Ev prog clsT X d mc239 0 [(2, 89), (0, x1), (3, 0), (3, 0), (3, 0)] [] (mk E c s (hh g)) from rfl).trans (r239_0 X E c s g d x1 )
set_option maxRecDepth 100000 in
theorem r239_2 (d : Nat) (x1 s0 : Int) : Ev prog clsT X d mc239 2 [(2, 89), (0, x1), (3, 0), (3, 0), (3, 0)] [(1, s0)] (mk E c s (hh g)) =
  (Ev prog clsT X d mc239 8 [(2, 89), (0, x1), (1, s0), (3, 0), (0, 0)] [] (mk E c s (hh (up g 89 76 0)))) :=
  (evk_at (r := ((fput 6448 ((mk E c s (hh g))) 89 0).bind fun M1 =>
  Ev prog clsT X d mc239 8 [(2, 89), (0, x1), (1, s0), (3, 0), (0, 0)] [] M1)) X [0, 2, 8] 8 rfl).trans (by simp (maxSteps := 10000000) only [↓W6448_89, bindI, Option.bind_some, if_true_, and_self, ite_true, true_and, true_or, or_true])
set_option maxRecDepth 100000 in
theorem r239_8 (d : Nat) (x1 x2 x4 : Int) (w3 : MV) : Ev prog clsT X d mc239 8 [(2, 89), (0, x1), (1, x2), w3, (0, x4)] [] (mk E c s (hh g)) =
  (if cmpI .ge x4 40 = true then
  (some ((0, 1), ((mk E c s (hh g)))))
else
  (if inb x4 40 = true then
    (if cmpI .eq ((g 94 (Int.toNat x4))) 0 = true then
    (Ev prog clsT X d mc239 8 [(2, 89), (0, x1), (1, x2), (3, 0), (0, (w32 (x4 + 1)))] [] (mk E c s (hh g)))
  else
    (if inb x4 40 = true then
      (if cmpI .ne ((g 95 (Int.toNat x4))) x1 = true then
      (Ev prog clsT X d mc239 8 [(2, 89), (0, x1), (1, x2), (3, 0), (0, (w32 (x4 + 1)))] [] (mk E c s (hh g)))
    else
      (if cmpI .ne ((lcmpI ((land64 ((lshr64 x2 x4)) 1)) 1)) 0 = true then
        (if cmpI .ne ((g 89 76)) 10 = true then
          (if inb ((g 89 76)) 10 = true then
            (Ev prog clsT X d mc239 8 [(2, 89), (0, x1), (1, x2), (3, 0), (0, (w32 (x4 + 1)))] [] (mk E c s (hh (up (up g 149 (Int.toNat ((g 89 76))) x4) 89 76 ((w32 (((g 89 76)) + 1)))))))
          else none)
        else
          (some ((0, 0), ((mk E c s (hh g))))))
      else
        (Ev prog clsT X d mc239 8 [(2, 89), (0, x1), (1, x2), (3, 0), (0, (w32 (x4 + 1)))] [] (mk E c s (hh g)))))
    else none))
  else none)) :=
  (evk_at (r := (if cmpI .ge x4 40 = true then
  (some ((0, 1), (mk E c s (hh g))))
else
  ((fget 6166 ((mk E c s (hh g))) 89).bind fun v1 =>
    (aget X 102 ((mk E c s (hh g))) v1 x4).bind fun v2 =>
    if cmpI .eq v2 0 = true then
    (Ev prog clsT X d mc239 8 [(2, 89), (0, x1), (1, x2), (3, 0), (0, (w32 (x4 + 1)))] [] (mk E c s (hh g)))
  else
    ((fget 6170 ((mk E c s (hh g))) 89).bind fun v3 =>
      (aget X 100 ((mk E c s (hh g))) v3 x4).bind fun v4 =>
      if cmpI .ne v4 x1 = true then
      (Ev prog clsT X d mc239 8 [(2, 89), (0, x1), (1, x2), (3, 0), (0, (w32 (x4 + 1)))] [] (mk E c s (hh g)))
    else
      (if cmpI .ne ((lcmpI ((land64 ((lshr64 x2 x4)) 1)) 1)) 0 = true then
        ((fget 6448 ((mk E c s (hh g))) 89).bind fun v5 =>
          if cmpI .ne v5 10 = true then
          ((fget 6454 ((mk E c s (hh g))) 89).bind fun v6 =>
            (fget 6448 ((mk E c s (hh g))) 89).bind fun v7 =>
            (aput 100 ((mk E c s (hh g))) v6 v7 (x4)).bind fun M8 =>
            (fget 6448 M8 89).bind fun v9 =>
            (fput 6448 M8 89 ((w32 (v9 + 1)))).bind fun M10 =>
            Ev prog clsT X d mc239 8 [(2, 89), (0, x1), (1, x2), (3, 0), (0, (w32 (x4 + 1)))] [] M10)
        else
          (some ((0, 0), (mk E c s (hh g)))))
      else
        (Ev prog clsT X d mc239 8 [(2, 89), (0, x1), (1, x2), (3, 0), (0, (w32 (x4 + 1)))] [] (mk E c s (hh g)))))))) X [0, 2, 8] 42 rfl).trans (by simp (maxSteps := 10000000) only [uc_149_89, ↓A94, ↓A95, ↓F6166_89, ↓F6170_89, ↓F6448_89, ↓F6454_89, ↓S149, ↓W6448_89, bindI, Option.bind_some, if_true_, and_self, ite_true, true_and, true_or, or_true])
set_option maxRecDepth 100000 in
theorem r240_0 (d : Nat) (x1 x2 x3 : Int) : Ev prog clsT X d mc240 0 [(2, 89), (0, x1), (0, x2), (0, x3), (3, 0), (3, 0)] [] (mk E c s (hh g)) =
  ((Call prog clsT X d 190 [(2, 89), (0, x1), (0, x2)] ((mk E c s (hh g)))).bind fun r1 => if r1.1.1 = 4 then none else
  Ev prog clsT X d mc240 4 [(2, 89), (0, x1), (0, x2), (0, x3), (3, 0), (3, 0)] (pushR r1.1 []) r1.2) :=
  (evk_at (r := (if (2 : Nat) = 2 ∧ rcv ((mk E c s (hh g))) 89 13 = true then
  ((Call prog clsT X d 190 [(2, 89), (0, x1), (0, x2)] ((mk E c s (hh g)))).bind fun r1 => if r1.1.1 = 4 then none else
  Ev prog clsT X d mc240 4 [(2, 89), (0, x1), (0, x2), (0, x3), (3, 0), (3, 0)] (pushR r1.1 []) r1.2) else none)) X [0, 4, 9, 36, 39, 47, 49, 57, 70] 5 rfl).trans (by simp (maxSteps := 10000000) only [R89_13, bindI, Option.bind_some, if_true_, and_self, ite_true, true_and, true_or, or_true])
set_option maxRecDepth 100000 in
theorem rc240_ (d : Nat) (x1 x2 x3 : Int) : Call prog clsT X (d + 1) 240 [(2, 89), (0, x1), (0, x2), (0, x3)] (mk E c s (hh g)) =
  ((Call prog clsT X d 190 [(2, 89), (0, x1), (0, x2)] ((mk E c s (hh g)))).bind fun r1 => if r1.1.1 = 4 then none else
  Ev prog clsT X d mc240 4 [(2, 89), (0, x1), (0, x2), (0, x3), (3, 0), (3, 0)] (pushR r1.1 []) r1.2) :=
  (show Call prog clsT X (d + 1) 240 [(2, 89), (0, x1), (0, x2), (0, x3)] (mk E c s (hh g)) = Ev prog clsT X d mc240 0 [(2, 89), (0, x1), (0, x2), (0, x3), (3, 0), (3, 0)] [] (mk E c s (hh g)) from rfl).trans (r240_0 X E c s g d x1 x2 x3 )
set_option maxRecDepth 100000 in
theorem r240_4 (d : Nat) (x1 x2 x3 s0 : Int) : Ev prog clsT X d mc240 4 [(2, 89), (0, x1), (0, x2), (0, x3), (3, 0), (3, 0)] [(0, s0)] (mk E c s (hh g)) =
  (Ev prog clsT X d mc240 9 [(2, 89), (0, x1), (0, x2), (0, x3), (0, (w32 (s0 + 1))), (0, 0)] [] (mk E c s (hh g))) :=
  evk_at X [0, 4, 9, 36, 39, 47, 49, 57, 70] 7 rfl
set_option maxRecDepth 100000 in
theorem r240_9 (d : Nat) (x1 x2 x3 x4 x5 : Int) : Ev prog clsT X d mc240 9 [(2, 89), (0, x1), (0, x2), (0, x3), (0, x4), (0, x5)] [] (mk E c s (hh g)) =
  (if cmpI .ge x5 ((ishl32 1 ((g 89 76)))) = true then
  (some ((3, 0), ((mk E c s (hh g)))))
else
  (if cmpI .ne x5 0 = true then
    (if inb ((w32 (x3 + x5))) 2048 = true then
      (if inb ((w32 (x3 + x5))) 2048 = true then
      ((Call prog clsT X d 158 [(1, x5)] ((mk E c s (hh (up (up g 150 (Int.toNat ((w32 (x3 + x5)))) (bit1 (0))) 151 (Int.toNat ((w32 (x3 + x5)))) 0))))).bind fun r1 => if r1.1.1 = 4 then none else
      Ev prog clsT X d mc240 36 [(2, 89), (0, x1), (0, x2), (0, x3), (0, x4), (0, x5)] (pushR r1.1 []) r1.2)
    else none)
    else none)
  else
    (if inb ((w32 (x3 + x5))) 2048 = true then
      (if inb ((w32 (x3 + x5))) 2048 = true then
      ((Call prog clsT X d 158 [(1, x5)] ((mk E c s (hh (up (up g 150 (Int.toNat ((w32 (x3 + x5)))) (bit1 (1))) 151 (Int.toNat ((w32 (x3 + x5)))) 0))))).bind fun r2 => if r2.1.1 = 4 then none else
      Ev prog clsT X d mc240 36 [(2, 89), (0, x1), (0, x2), (0, x3), (0, x4), (0, x5)] (pushR r2.1 []) r2.2)
    else none)
    else none))) :=
  (evk_at (r := ((fget 6448 ((mk E c s (hh g))) 89).bind fun v1 =>
  if cmpI .ge x5 ((ishl32 1 v1)) = true then
  (some ((3, 0), (mk E c s (hh g))))
else
  ((fget 6458 ((mk E c s (hh g))) 89).bind fun v2 =>
    if cmpI .ne x5 0 = true then
    ((aput 102 ((mk E c s (hh g))) v2 ((w32 (x3 + x5))) (bit1 (0))).bind fun M3 =>
      (fget 6462 M3 89).bind fun v4 =>
      (aput 100 M3 v4 ((w32 (x3 + x5))) (0)).bind fun M5 =>
      (Call prog clsT X d 158 [(1, x5)] M5).bind fun r6 => if r6.1.1 = 4 then none else
      Ev prog clsT X d mc240 36 [(2, 89), (0, x1), (0, x2), (0, x3), (0, x4), (0, x5)] (pushR r6.1 []) r6.2)
  else
    ((aput 102 ((mk E c s (hh g))) v2 ((w32 (x3 + x5))) (bit1 (1))).bind fun M7 =>
      (fget 6462 M7 89).bind fun v8 =>
      (aput 100 M7 v8 ((w32 (x3 + x5))) (0)).bind fun M9 =>
      (Call prog clsT X d 158 [(1, x5)] M9).bind fun r10 => if r10.1.1 = 4 then none else
      Ev prog clsT X d mc240 36 [(2, 89), (0, x1), (0, x2), (0, x3), (0, x4), (0, x5)] (pushR r10.1 []) r10.2)))) X [0, 4, 9, 36, 39, 47, 49, 57, 70] 27 rfl).trans (by simp (maxSteps := 10000000) only [↓F6448_89, ↓F6458_89, ↓F6462_89, ↓S150, ↓S151, bindI, Option.bind_some, if_true_, and_self, ite_true, true_and, true_or, or_true])
set_option maxRecDepth 100000 in
theorem r240_36 (d : Nat) (x1 x2 x3 x4 x5 s0 : Int) : Ev prog clsT X d mc240 36 [(2, 89), (0, x1), (0, x2), (0, x3), (0, x4), (0, x5)] [(0, s0)] (mk E c s (hh g)) =
  ((Call prog clsT X d 152 [(0, s0), (0, 1), (0, 8)] ((mk E c s (hh g)))).bind fun r1 => if r1.1.1 = 4 then none else
  Ev prog clsT X d mc240 39 [(2, 89), (0, x1), (0, x2), (0, x3), (0, x4), (0, x5)] (pushR r1.1 []) r1.2) :=
  evk_at X [0, 4, 9, 36, 39, 47, 49, 57, 70] 4 rfl
set_option maxRecDepth 100000 in
theorem r240_39 (d : Nat) (x1 x2 x3 x4 x5 s0 : Int) : Ev prog clsT X d mc240 39 [(2, 89), (0, x1), (0, x2), (0, x3), (0, x4), (0, x5)] [(0, s0)] (mk E c s (hh g)) =
  (if cmpI .ne s0 0 = true then
  ((Call prog clsT X d 241 [(2, 89), (0, x5)] ((mk E c s (hh g)))).bind fun r1 => if r1.1.1 = 4 then none else
    Ev prog clsT X d mc240 47 [(2, 89), (0, x1), (0, x2), (0, x3), (0, x4), (0, x5)] (pushR r1.1 [(0, x2), (0, x1), (2, 89)]) r1.2)
else
  (Ev prog clsT X d mc240 9 [(2, 89), (0, x1), (0, x2), (0, x3), (0, x4), (0, (w32 (x5 + 1)))] [] (mk E c s (hh g)))) :=
  (evk_at (r := (if cmpI .ne s0 0 = true then
  (if (2 : Nat) = 2 ∧ rcv ((mk E c s (hh g))) 89 13 = true then
    ((Call prog clsT X d 241 [(2, 89), (0, x5)] ((mk E c s (hh g)))).bind fun r1 => if r1.1.1 = 4 then none else
    Ev prog clsT X d mc240 47 [(2, 89), (0, x1), (0, x2), (0, x3), (0, x4), (0, x5)] (pushR r1.1 [(0, x2), (0, x1), (2, 89)]) r1.2) else none)
else
  (Ev prog clsT X d mc240 9 [(2, 89), (0, x1), (0, x2), (0, x3), (0, x4), (0, (w32 (x5 + 1)))] [] (mk E c s (hh g))))) X [0, 4, 9, 36, 39, 47, 49, 57, 70] 8 rfl).trans (by simp (maxSteps := 10000000) only [R89_13, bindI, Option.bind_some, if_true_, and_self, ite_true, true_and, true_or, or_true])
set_option maxRecDepth 100000 in
theorem r240_47 (d : Nat) (x1 x2 x3 x4 x5 s1 s2 s3 : Int) : Ev prog clsT X d mc240 47 [(2, 89), (0, x1), (0, x2), (0, x3), (0, x4), (0, x5)] [(1, s3), (0, s2), (0, s1), (2, 89)] (mk E c s (hh g)) =
  ((Call prog clsT X d 191 [(2, 89), (0, s1), (0, s2), (1, s3), (0, x4)] ((mk E c s (hh g)))).bind fun r1 => if r1.1.1 = 4 then none else
  Ev prog clsT X d mc240 49 [(2, 89), (0, x1), (0, x2), (0, x3), (0, x4), (0, x5)] (pushR r1.1 []) r1.2) :=
  (evk_at (r := (if (2 : Nat) = 2 ∧ rcv ((mk E c s (hh g))) 89 13 = true then
  ((Call prog clsT X d 191 [(2, 89), (0, s1), (0, s2), (1, s3), (0, x4)] ((mk E c s (hh g)))).bind fun r1 => if r1.1.1 = 4 then none else
  Ev prog clsT X d mc240 49 [(2, 89), (0, x1), (0, x2), (0, x3), (0, x4), (0, x5)] (pushR r1.1 []) r1.2) else none)) X [0, 4, 9, 36, 39, 47, 49, 57, 70] 3 rfl).trans (by simp (maxSteps := 10000000) only [R89_13, bindI, Option.bind_some, if_true_, and_self, ite_true, true_and, true_or, or_true])
set_option maxRecDepth 100000 in
theorem r240_49 (d : Nat) (x1 x2 x3 x4 x5 : Int) : Ev prog clsT X d mc240 49 [(2, 89), (0, x1), (0, x2), (0, x3), (0, x4), (0, x5)] [] (mk E c s (hh g)) =
  ((Call prog clsT X d 192 [(2, 89), (0, x1)] ((mk E c s (hh g)))).bind fun r1 => if r1.1.1 = 4 then none else
  Ev prog clsT X d mc240 57 [(2, 89), (0, x1), (0, x2), (0, x3), (0, x4), (0, x5)] (pushR r1.1 [(0, (w32 (x3 + x5))), (2, 150)]) r1.2) :=
  (evk_at (r := ((fget 6458 ((mk E c s (hh g))) 89).bind fun v1 =>
  if (2 : Nat) = 2 ∧ rcv ((mk E c s (hh g))) 89 13 = true then
  ((Call prog clsT X d 192 [(2, 89), (0, x1)] ((mk E c s (hh g)))).bind fun r2 => if r2.1.1 = 4 then none else
  Ev prog clsT X d mc240 57 [(2, 89), (0, x1), (0, x2), (0, x3), (0, x4), (0, x5)] (pushR r2.1 [(0, (w32 (x3 + x5))), (2, v1)]) r2.2) else none)) X [0, 4, 9, 36, 39, 47, 49, 57, 70] 9 rfl).trans (by simp (maxSteps := 10000000) only [R89_13, ↓F6458_89, bindI, Option.bind_some, if_true_, and_self, ite_true, true_and, true_or, or_true])
set_option maxRecDepth 100000 in
theorem r240_57 (d : Nat) (x1 x2 x3 x4 x5 s1 s2 : Int) : Ev prog clsT X d mc240 57 [(2, 89), (0, x1), (0, x2), (0, x3), (0, x4), (0, x5)] [(0, s2), (0, s1), (2, 150)] (mk E c s (hh g)) =
  (if cmpI .ge s2 0 = true then
  (if inb s1 2048 = true then
    ((Call prog clsT X d 207 [(2, 89), (0, x1)] ((mk E c s (hh (up g 150 (Int.toNat s1) (bit1 (0))))))).bind fun r1 => if r1.1.1 = 4 then none else
    Ev prog clsT X d mc240 70 [(2, 89), (0, x1), (0, x2), (0, x3), (0, x4), (0, x5)] (pushR r1.1 [(0, (w32 (x3 + x5))), (2, 151)]) r1.2)
  else none)
else
  (if inb s1 2048 = true then
    ((Call prog clsT X d 207 [(2, 89), (0, x1)] ((mk E c s (hh (up g 150 (Int.toNat s1) (bit1 (1))))))).bind fun r2 => if r2.1.1 = 4 then none else
    Ev prog clsT X d mc240 70 [(2, 89), (0, x1), (0, x2), (0, x3), (0, x4), (0, x5)] (pushR r2.1 [(0, (w32 (x3 + x5))), (2, 151)]) r2.2)
  else none)) :=
  (evk_at (r := (if cmpI .ge s2 0 = true then
  ((aput 102 ((mk E c s (hh g))) 150 s1 (bit1 (0))).bind fun M1 =>
    (fget 6462 M1 89).bind fun v2 =>
    if (2 : Nat) = 2 ∧ rcv M1 89 13 = true then
    ((Call prog clsT X d 207 [(2, 89), (0, x1)] M1).bind fun r3 => if r3.1.1 = 4 then none else
    Ev prog clsT X d mc240 70 [(2, 89), (0, x1), (0, x2), (0, x3), (0, x4), (0, x5)] (pushR r3.1 [(0, (w32 (x3 + x5))), (2, v2)]) r3.2) else none)
else
  ((aput 102 ((mk E c s (hh g))) 150 s1 (bit1 (1))).bind fun M4 =>
    (fget 6462 M4 89).bind fun v5 =>
    if (2 : Nat) = 2 ∧ rcv M4 89 13 = true then
    ((Call prog clsT X d 207 [(2, 89), (0, x1)] M4).bind fun r6 => if r6.1.1 = 4 then none else
    Ev prog clsT X d mc240 70 [(2, 89), (0, x1), (0, x2), (0, x3), (0, x4), (0, x5)] (pushR r6.1 [(0, (w32 (x3 + x5))), (2, v5)]) r6.2) else none))) X [0, 4, 9, 36, 39, 47, 49, 57, 70] 13 rfl).trans (by simp (maxSteps := 10000000) only [R89_13, ↓F6462_89, ↓S150, bindI, Option.bind_some, if_true_, and_self, ite_true, true_and, true_or, or_true])
set_option maxRecDepth 100000 in
theorem r240_70 (d : Nat) (x1 x2 x3 x4 x5 s1 s2 : Int) : Ev prog clsT X d mc240 70 [(2, 89), (0, x1), (0, x2), (0, x3), (0, x4), (0, x5)] [(0, s2), (0, s1), (2, 151)] (mk E c s (hh g)) =
  (if inb s1 2048 = true then
  (Ev prog clsT X d mc240 9 [(2, 89), (0, x1), (0, x2), (0, x3), (0, x4), (0, (w32 (x5 + 1)))] [] (mk E c s (hh (up g 151 (Int.toNat s1) s2))))
else none) :=
  (evk_at (r := ((aput 100 ((mk E c s (hh g))) 151 s1 (s2)).bind fun M1 =>
  Ev prog clsT X d mc240 9 [(2, 89), (0, x1), (0, x2), (0, x3), (0, x4), (0, (w32 (x5 + 1)))] [] M1)) X [0, 4, 9, 36, 39, 47, 49, 57, 70] 5 rfl).trans (by simp (maxSteps := 10000000) only [↓S151, bindI, Option.bind_some, if_true_, and_self, ite_true, true_and, true_or, or_true])
set_option maxRecDepth 100000 in
theorem r241_0 (d : Nat) (x1 : Int) : Ev prog clsT X d mc241 0 [(2, 89), (0, x1), (3, 0), (3, 0), (3, 0)] [] (mk E c s (hh g)) =
  (Ev prog clsT X d mc241 4 [(2, 89), (0, x1), (1, 0), (3, 0), (0, 0)] [] (mk E c s (hh g))) :=
  evk_at X [0, 4] 6 rfl
set_option maxRecDepth 100000 in
theorem rc241_ (d : Nat) (x1 : Int) : Call prog clsT X (d + 1) 241 [(2, 89), (0, x1)] (mk E c s (hh g)) =
  (Ev prog clsT X d mc241 4 [(2, 89), (0, x1), (1, 0), (3, 0), (0, 0)] [] (mk E c s (hh g))) :=
  (show Call prog clsT X (d + 1) 241 [(2, 89), (0, x1)] (mk E c s (hh g)) = Ev prog clsT X d mc241 0 [(2, 89), (0, x1), (3, 0), (3, 0), (3, 0)] [] (mk E c s (hh g)) from rfl).trans (r241_0 X E c s g d x1 )
set_option maxRecDepth 100000 in
theorem r241_4 (d : Nat) (x1 x2 x4 : Int) (w3 : MV) : Ev prog clsT X d mc241 4 [(2, 89), (0, x1), (1, x2), w3, (0, x4)] [] (mk E c s (hh g)) =
  (if cmpI .ge x4 ((g 89 76)) = true then
  (some ((1, x2), ((mk E c s (hh g)))))
else
  (if cmpI .ne ((iand32 ((ishr32 x1 x4)) 1)) 1 = true then
    (Ev prog clsT X d mc241 4 [(2, 89), (0, x1), (1, (lor64 x2 0)), (3, 0), (0, (w32 (x4 + 1)))] [] (mk E c s (hh g)))
  else
    (if inb x4 10 = true then
      (Ev prog clsT X d mc241 4 [(2, 89), (0, x1), (1, (lor64 x2 ((lshl64 1 ((g 149 (Int.toNat x4))))))), (3, 0), (0, (w32 (x4 + 1)))] [] (mk E c s (hh g)))
    else none))) :=
  (evk_at (r := ((fget 6448 ((mk E c s (hh g))) 89).bind fun v1 =>
  if cmpI .ge x4 v1 = true then
  (some ((1, x2), (mk E c s (hh g))))
else
  (if cmpI .ne ((iand32 ((ishr32 x1 x4)) 1)) 1 = true then
    (Ev prog clsT X d mc241 4 [(2, 89), (0, x1), (1, (lor64 x2 0)), (3, 0), (0, (w32 (x4 + 1)))] [] (mk E c s (hh g)))
  else
    ((fget 6454 ((mk E c s (hh g))) 89).bind fun v2 =>
      (aget X 100 ((mk E c s (hh g))) v2 x4).bind fun v3 =>
      Ev prog clsT X d mc241 4 [(2, 89), (0, x1), (1, (lor64 x2 ((lshl64 1 v3)))), (3, 0), (0, (w32 (x4 + 1)))] [] (mk E c s (hh g)))))) X [0, 4] 25 rfl).trans (by simp (maxSteps := 10000000) only [↓A149, ↓F6448_89, ↓F6454_89, bindI, Option.bind_some, if_true_, and_self, ite_true, true_and, true_or, or_true])
set_option maxRecDepth 100000 in
theorem r242_0 (d : Nat) (x1 x2 x3 : Int) : Ev prog clsT X d mc242 0 [(2, 89), (0, x1), (0, x2), (0, x3)] [] (mk E c s (hh g)) =
  ((Call prog clsT X d 152 [(0, x1), (0, 0), (0, 9)] ((mk E c s (hh (up g 89 0 0))))).bind fun r1 => if r1.1.1 = 4 then none else
  Ev prog clsT X d mc242 7 [(2, 89), (0, x1), (0, x2), (0, x3)] (pushR r1.1 []) r1.2) :=
  (evk_at (r := ((fput 6144 ((mk E c s (hh g))) 89 0).bind fun M1 =>
  (Call prog clsT X d 152 [(0, x1), (0, 0), (0, 9)] M1).bind fun r2 => if r2.1.1 = 4 then none else
  Ev prog clsT X d mc242 7 [(2, 89), (0, x1), (0, x2), (0, x3)] (pushR r2.1 []) r2.2)) X [0, 7, 12, 17] 8 rfl).trans (by simp (maxSteps := 10000000) only [↓W6144_89, bindI, Option.bind_some, if_true_, and_self, ite_true, true_and, true_or, or_true])
set_option maxRecDepth 100000 in
theorem rc242_ (d : Nat) (x1 x2 x3 : Int) : Call prog clsT X (d + 1) 242 [(2, 89), (0, x1), (0, x2), (0, x3)] (mk E c s (hh g)) =
  ((Call prog clsT X d 152 [(0, x1), (0, 0), (0, 9)] ((mk E c s (hh (up g 89 0 0))))).bind fun r1 => if r1.1.1 = 4 then none else
  Ev prog clsT X d mc242 7 [(2, 89), (0, x1), (0, x2), (0, x3)] (pushR r1.1 []) r1.2) :=
  (show Call prog clsT X (d + 1) 242 [(2, 89), (0, x1), (0, x2), (0, x3)] (mk E c s (hh g)) = Ev prog clsT X d mc242 0 [(2, 89), (0, x1), (0, x2), (0, x3)] [] (mk E c s (hh g)) from rfl).trans (r242_0 X E c s g d x1 x2 x3 )
set_option maxRecDepth 100000 in
theorem r242_7 (d : Nat) (x1 x2 x3 s0 : Int) : Ev prog clsT X d mc242 7 [(2, 89), (0, x1), (0, x2), (0, x3)] [(0, s0)] (mk E c s (hh g)) =
  (if cmpI .eq s0 0 = true then
  (some ((0, 0), ((mk E c s (hh g)))))
else
  ((Call prog clsT X d 152 [(0, x2), (0, 0), (0, 4)] ((mk E c s (hh g)))).bind fun r1 => if r1.1.1 = 4 then none else
    Ev prog clsT X d mc242 12 [(2, 89), (0, x1), (0, x2), (0, x3)] (pushR r1.1 []) r1.2)) :=
  (evk_at (r := (if cmpI .eq s0 0 = true then
  (some ((0, 0), (mk E c s (hh g))))
else
  ((Call prog clsT X d 152 [(0, x2), (0, 0), (0, 4)] ((mk E c s (hh g)))).bind fun r1 => if r1.1.1 = 4 then none else
    Ev prog clsT X d mc242 12 [(2, 89), (0, x1), (0, x2), (0, x3)] (pushR r1.1 []) r1.2))) X [0, 7, 12, 17] 6 rfl).trans (by simp (maxSteps := 10000000) only [bindI, Option.bind_some, if_true_, and_self, ite_true, true_and, true_or, or_true])
set_option maxRecDepth 100000 in
theorem r242_12 (d : Nat) (x1 x2 x3 s0 : Int) : Ev prog clsT X d mc242 12 [(2, 89), (0, x1), (0, x2), (0, x3)] [(0, s0)] (mk E c s (hh g)) =
  (if cmpI .eq s0 0 = true then
  (some ((0, 0), ((mk E c s (hh g)))))
else
  ((Call prog clsT X d 152 [(0, x3), (0, (-1)), (0, 99)] ((mk E c s (hh g)))).bind fun r1 => if r1.1.1 = 4 then none else
    Ev prog clsT X d mc242 17 [(2, 89), (0, x1), (0, x2), (0, x3)] (pushR r1.1 []) r1.2)) :=
  (evk_at (r := (if cmpI .eq s0 0 = true then
  (some ((0, 0), (mk E c s (hh g))))
else
  ((Call prog clsT X d 152 [(0, x3), (0, (-1)), (0, 99)] ((mk E c s (hh g)))).bind fun r1 => if r1.1.1 = 4 then none else
    Ev prog clsT X d mc242 17 [(2, 89), (0, x1), (0, x2), (0, x3)] (pushR r1.1 []) r1.2))) X [0, 7, 12, 17] 6 rfl).trans (by simp (maxSteps := 10000000) only [bindI, Option.bind_some, if_true_, and_self, ite_true, true_and, true_or, or_true])
set_option maxRecDepth 100000 in
theorem r242_17 (d : Nat) (x1 x2 x3 s0 : Int) : Ev prog clsT X d mc242 17 [(2, 89), (0, x1), (0, x2), (0, x3)] [(0, s0)] (mk E c s (hh g)) =
  (if cmpI .ne s0 0 = true then
  (if inb ((w32 (((w32 (5 * x1))) + x2))) 50 = true then
    (some ((0, 1), ((mk E c s (hh (up g 152 (Int.toNat ((w32 (((w32 (5 * x1))) + x2)))) x3))))))
  else none)
else
  (some ((0, 0), ((mk E c s (hh g)))))) :=
  (evk_at (r := (if cmpI .ne s0 0 = true then
  ((fget 6466 ((mk E c s (hh g))) 89).bind fun v1 =>
    (aput 100 ((mk E c s (hh g))) v1 ((w32 (((w32 (5 * x1))) + x2))) (x3)).bind fun M2 =>
    some ((0, 1), M2))
else
  (some ((0, 0), (mk E c s (hh g)))))) X [0, 7, 12, 17] 13 rfl).trans (by simp (maxSteps := 10000000) only [↓F6466_89, ↓S152, bindI, Option.bind_some, if_true_, and_self, ite_true, true_and, true_or, or_true])
set_option maxRecDepth 100000 in
theorem r243_0 (d : Nat) (x1 x2 : Int) : Ev prog clsT X d mc243 0 [(2, 89), (0, x1), (0, x2), (3, 0)] [] (mk E c s (hh g)) =
  ((Call prog clsT X d 157 [(2, 89), (0, x1)] ((mk E c s (hh (up g 89 0 0))))).bind fun r1 => if r1.1.1 = 4 then none else
  Ev prog clsT X d mc243 6 [(2, 89), (0, x1), (0, x2), (3, 0)] (pushR r1.1 []) r1.2) :=
  (evk_at (r := ((fput 6144 ((mk E c s (hh g))) 89 0).bind fun M1 =>
  if (2 : Nat) = 2 ∧ rcv M1 89 13 = true then
  ((Call prog clsT X d 157 [(2, 89), (0, x1)] M1).bind fun r2 => if r2.1.1 = 4 then none else
  Ev prog clsT X d mc243 6 [(2, 89), (0, x1), (0, x2), (3, 0)] (pushR r2.1 []) r2.2) else none)) X [0, 6, 11, 17, 30] 7 rfl).trans (by simp (maxSteps := 10000000) only [R89_13, ↓W6144_89, bindI, Option.bind_some, if_true_, and_self, ite_true, true_and, true_or, or_true])
set_option maxRecDepth 100000 in
theorem rc243_ (d : Nat) (x1 x2 : Int) : Call prog clsT X (d + 1) 243 [(2, 89), (0, x1), (0, x2)] (mk E c s (hh g)) =
  ((Call prog clsT X d 157 [(2, 89), (0, x1)] ((mk E c s (hh (up g 89 0 0))))).bind fun r1 => if r1.1.1 = 4 then none else
  Ev prog clsT X d mc243 6 [(2, 89), (0, x1), (0, x2), (3, 0)] (pushR r1.1 []) r1.2) :=
  (show Call prog clsT X (d + 1) 243 [(2, 89), (0, x1), (0, x2)] (mk E c s (hh g)) = Ev prog clsT X d mc243 0 [(2, 89), (0, x1), (0, x2), (3, 0)] [] (mk E c s (hh g)) from rfl).trans (r243_0 X E c s g d x1 x2 )
set_option maxRecDepth 100000 in
theorem r243_6 (d : Nat) (x1 x2 s0 : Int) : Ev prog clsT X d mc243 6 [(2, 89), (0, x1), (0, x2), (3, 0)] [(0, s0)] (mk E c s (hh g)) =
  (if cmpI .eq s0 0 = true then
  (some ((0, (-1)), ((mk E c s (hh g)))))
else
  ((Call prog clsT X d 152 [(0, x2), (0, 0), (0, 1)] ((mk E c s (hh g)))).bind fun r1 => if r1.1.1 = 4 then none else
    Ev prog clsT X d mc243 11 [(2, 89), (0, x1), (0, x2), (3, 0)] (pushR r1.1 []) r1.2)) :=
  (evk_at (r := (if cmpI .eq s0 0 = true then
  (some ((0, (-1)), (mk E c s (hh g))))
else
  ((Call prog clsT X d 152 [(0, x2), (0, 0), (0, 1)] ((mk E c s (hh g)))).bind fun r1 => if r1.1.1 = 4 then none else
    Ev prog clsT X d mc243 11 [(2, 89), (0, x1), (0, x2), (3, 0)] (pushR r1.1 []) r1.2))) X [0, 6, 11, 17, 30] 6 rfl).trans (by simp (maxSteps := 10000000) only [bindI, Option.bind_some, if_true_, and_self, ite_true, true_and, true_or, or_true])
set_option maxRecDepth 100000 in
theorem r243_11 (d : Nat) (x1 x2 s0 : Int) : Ev prog clsT X d mc243 11 [(2, 89), (0, x1), (0, x2), (3, 0)] [(0, s0)] (mk E c s (hh g)) =
  (if cmpI .ne s0 0 = true then
  ((Call prog clsT X d 244 [(2, 89), (0, x1)] ((mk E c s (hh g)))).bind fun r1 => if r1.1.1 = 4 then none else
    Ev prog clsT X d mc243 17 [(2, 89), (0, x1), (0, x2), (3, 0)] (pushR r1.1 []) r1.2)
else
  (some ((0, (-1)), ((mk E c s (hh g)))))) :=
  (evk_at (r := (if cmpI .ne s0 0 = true then
  (if (2 : Nat) = 2 ∧ rcv ((mk E c s (hh g))) 89 13 = true then
    ((Call prog clsT X d 244 [(2, 89), (0, x1)] ((mk E c s (hh g)))).bind fun r1 => if r1.1.1 = 4 then none else
    Ev prog clsT X d mc243 17 [(2, 89), (0, x1), (0, x2), (3, 0)] (pushR r1.1 []) r1.2) else none)
else
  (some ((0, (-1)), (mk E c s (hh g)))))) X [0, 6, 11, 17, 30] 5 rfl).trans (by simp (maxSteps := 10000000) only [R89_13, bindI, Option.bind_some, if_true_, and_self, ite_true, true_and, true_or, or_true])
set_option maxRecDepth 100000 in
theorem r243_17 (d : Nat) (x1 x2 s0 : Int) : Ev prog clsT X d mc243 17 [(2, 89), (0, x1), (0, x2), (3, 0)] [(0, s0)] (mk E c s (hh g)) =
  (if cmpI .ne x2 0 = true then
  (if cmpI .eq s0 3 = true then
    ((Call prog clsT X d 245 [(2, 89), (0, x1)] ((mk E c s (hh g)))).bind fun r1 => if r1.1.1 = 4 then none else
      Ev prog clsT X d mc243 30 [(2, 89), (0, x1), (0, x2), (0, s0)] (pushR r1.1 []) r1.2)
  else
    (Ev prog clsT X d mc243 30 [(2, 89), (0, x1), (0, x2), (0, s0)] [(0, (-1))] (mk E c s (hh g))))
else
  (Ev prog clsT X d mc243 30 [(2, 89), (0, x1), (0, x2), (0, s0)] [(0, s0)] (mk E c s (hh g)))) :=
  (evk_at (r := (if cmpI .ne x2 0 = true then
  (if cmpI .eq s0 3 = true then
    (if (2 : Nat) = 2 ∧ rcv ((mk E c s (hh g))) 89 13 = true then
      ((Call prog clsT X d 245 [(2, 89), (0, x1)] ((mk E c s (hh g)))).bind fun r1 => if r1.1.1 = 4 then none else
      Ev prog clsT X d mc243 30 [(2, 89), (0, x1), (0, x2), (0, s0)] (pushR r1.1 []) r1.2) else none)
  else
    (Ev prog clsT X d mc243 30 [(2, 89), (0, x1), (0, x2), (0, s0)] [(0, (-1))] (mk E c s (hh g))))
else
  (Ev prog clsT X d mc243 30 [(2, 89), (0, x1), (0, x2), (0, s0)] [(0, s0)] (mk E c s (hh g))))) X [0, 6, 11, 17, 30] 10 rfl).trans (by simp (maxSteps := 10000000) only [R89_13, bindI, Option.bind_some, if_true_, and_self, ite_true, true_and, true_or, or_true])
set_option maxRecDepth 100000 in
theorem r243_30 (d : Nat) (x1 x2 x3 s0 : Int) : Ev prog clsT X d mc243 30 [(2, 89), (0, x1), (0, x2), (0, x3)] [(0, s0)] (mk E c s (hh g)) =
  (some ((0, s0), ((mk E c s (hh g))))) :=
  (evk_at (r := (some ((0, s0), (mk E c s (hh g))))) X [0, 6, 11, 17, 30] 2 rfl).trans (by simp (maxSteps := 10000000) only [bindI, Option.bind_some, if_true_, and_self, ite_true, true_and, true_or, or_true])
set_option maxRecDepth 100000 in
theorem r244_0 (d : Nat) (x1 : Int) : Ev prog clsT X d mc244 0 [(2, 89), (0, x1), (3, 0), (3, 0), (3, 0), (3, 0), (3, 0)] [] (mk E c s (hh g)) =
  (Ev prog clsT X d mc244 12 [(2, 89), (0, x1), (0, 0), (0, 0), (0, 0), (0, 0), (0, (w32 (5 * x1)))] [] (mk E c s (hh g))) :=
  evk_at X [0, 12, 70, 134, 149] 14 rfl
set_option maxRecDepth 100000 in
theorem rc244_ (d : Nat) (x1 : Int) : Call prog clsT X (d + 1) 244 [(2, 89), (0, x1)] (mk E c s (hh g)) =
  (Ev prog clsT X d mc244 12 [(2, 89), (0, x1), (0, 0), (0, 0), (0, 0), (0, 0), (0, (w32 (5 * x1)))] [] (mk E c s (hh g))) :=
  (show Call prog clsT X (d + 1) 244 [(2, 89), (0, x1)] (mk E c s (hh g)) = Ev prog clsT X d mc244 0 [(2, 89), (0, x1), (3, 0), (3, 0), (3, 0), (3, 0), (3, 0)] [] (mk E c s (hh g)) from rfl).trans (r244_0 X E c s g d x1 )
set_option maxRecDepth 100000 in
theorem r244_12 (d : Nat) (x1 x2 x3 x4 x5 x6 : Int) : Ev prog clsT X d mc244 12 [(2, 89), (0, x1), (0, x2), (0, x3), (0, x4), (0, x5), (0, x6)] [] (mk E c s (hh g)) =
  (if cmpI .ge x6 ((w32 (((w32 (5 * x1))) + 5))) = true then
  ((Call prog clsT X d 190 [(2, 89), (0, x1), (0, (-1))] ((mk E c s (hh g)))).bind fun r1 => if r1.1.1 = 4 then none else
    Ev prog clsT X d mc244 70 [(2, 89), (0, x1), (0, x2), (0, x3), (0, x4), (0, x5), (0, x6)] (pushR r1.1 [(0, 1), (2, 126)]) r1.2)
else
  (if inb x6 50 = true then
    (if cmpI .ge ((g 152 (Int.toNat x6))) 0 = true then
    (if cmpI .ne x5 0 = true then
      (if inb x6 50 = true then
        (if cmpI .ne x5 0 = true then
        (if inb x6 50 = true then
          (if inb x6 50 = true then
          (Ev prog clsT X d mc244 12 [(2, 89), (0, x1), (0, (if x2 < (g 152 (Int.toNat x6)) then (g 152 (Int.toNat x6)) else x2)), (0, (if (g 152 (Int.toNat x6)) < x3 then (g 152 (Int.toNat x6)) else x3)), (0, (w32 (x4 + ((g 152 (Int.toNat x6)))))), (0, (w32 (x5 + 1))), (0, (w32 (x6 + 1)))] [] (mk E c s (hh g)))
        else none)
        else none)
      else
        (if inb x6 50 = true then
          (if inb x6 50 = true then
          (Ev prog clsT X d mc244 12 [(2, 89), (0, x1), (0, (if x2 < (g 152 (Int.toNat x6)) then (g 152 (Int.toNat x6)) else x2)), (0, (g 152 (Int.toNat x6))), (0, (w32 (x4 + ((g 152 (Int.toNat x6)))))), (0, (w32 (x5 + 1))), (0, (w32 (x6 + 1)))] [] (mk E c s (hh g)))
        else none)
        else none))
      else none)
    else
      (if inb x6 50 = true then
        (if cmpI .ne x5 0 = true then
        (if inb x6 50 = true then
          (if inb x6 50 = true then
          (Ev prog clsT X d mc244 12 [(2, 89), (0, x1), (0, (g 152 (Int.toNat x6))), (0, (if (g 152 (Int.toNat x6)) < x3 then (g 152 (Int.toNat x6)) else x3)), (0, (w32 (x4 + ((g 152 (Int.toNat x6)))))), (0, (w32 (x5 + 1))), (0, (w32 (x6 + 1)))] [] (mk E c s (hh g)))
        else none)
        else none)
      else
        (if inb x6 50 = true then
          (if inb x6 50 = true then
          (Ev prog clsT X d mc244 12 [(2, 89), (0, x1), (0, (g 152 (Int.toNat x6))), (0, (g 152 (Int.toNat x6))), (0, (w32 (x4 + ((g 152 (Int.toNat x6)))))), (0, (w32 (x5 + 1))), (0, (w32 (x6 + 1)))] [] (mk E c s (hh g)))
        else none)
        else none))
      else none))
  else
    (Ev prog clsT X d mc244 12 [(2, 89), (0, x1), (0, x2), (0, x3), (0, x4), (0, x5), (0, (w32 (x6 + 1)))] [] (mk E c s (hh g))))
  else none)) :=
  (evk_at (r := (if cmpI .ge x6 ((w32 (((w32 (5 * x1))) + 5))) = true then
  ((fget 6338 ((mk E c s (hh g))) 89).bind fun v1 =>
    if (2 : Nat) = 2 ∧ rcv ((mk E c s (hh g))) 89 13 = true then
    ((Call prog clsT X d 190 [(2, 89), (0, x1), (0, (-1))] ((mk E c s (hh g)))).bind fun r2 => if r2.1.1 = 4 then none else
    Ev prog clsT X d mc244 70 [(2, 89), (0, x1), (0, x2), (0, x3), (0, x4), (0, x5), (0, x6)] (pushR r2.1 [(0, 1), (2, v1)]) r2.2) else none)
else
  ((fget 6466 ((mk E c s (hh g))) 89).bind fun v3 =>
    (aget X 100 ((mk E c s (hh g))) v3 x6).bind fun v4 =>
    if cmpI .ge v4 0 = true then
    (if cmpI .ne x5 0 = true then
      ((fget 6466 ((mk E c s (hh g))) 89).bind fun v5 =>
        (aget X 100 ((mk E c s (hh g))) v5 x6).bind fun v6 =>
        if cmpI .ne x5 0 = true then
        ((fget 6466 ((mk E c s (hh g))) 89).bind fun v7 =>
          (aget X 100 ((mk E c s (hh g))) v7 x6).bind fun v8 =>
          (fget 6466 ((mk E c s (hh g))) 89).bind fun v9 =>
          (aget X 100 ((mk E c s (hh g))) v9 x6).bind fun v10 =>
          Ev prog clsT X d mc244 12 [(2, 89), (0, x1), (0, (if x2 < v6 then v6 else x2)), (0, (if v8 < x3 then v8 else x3)), (0, (w32 (x4 + v10))), (0, (w32 (x5 + 1))), (0, (w32 (x6 + 1)))] [] (mk E c s (hh g)))
      else
        ((fget 6466 ((mk E c s (hh g))) 89).bind fun v11 =>
          (aget X 100 ((mk E c s (hh g))) v11 x6).bind fun v12 =>
          (fget 6466 ((mk E c s (hh g))) 89).bind fun v13 =>
          (aget X 100 ((mk E c s (hh g))) v13 x6).bind fun v14 =>
          Ev prog clsT X d mc244 12 [(2, 89), (0, x1), (0, (if x2 < v6 then v6 else x2)), (0, v12), (0, (w32 (x4 + v14))), (0, (w32 (x5 + 1))), (0, (w32 (x6 + 1)))] [] (mk E c s (hh g))))
    else
      ((fget 6466 ((mk E c s (hh g))) 89).bind fun v15 =>
        (aget X 100 ((mk E c s (hh g))) v15 x6).bind fun v16 =>
        if cmpI .ne x5 0 = true then
        ((fget 6466 ((mk E c s (hh g))) 89).bind fun v17 =>
          (aget X 100 ((mk E c s (hh g))) v17 x6).bind fun v18 =>
          (fget 6466 ((mk E c s (hh g))) 89).bind fun v19 =>
          (aget X 100 ((mk E c s (hh g))) v19 x6).bind fun v20 =>
          Ev prog clsT X d mc244 12 [(2, 89), (0, x1), (0, v16), (0, (if v18 < x3 then v18 else x3)), (0, (w32 (x4 + v20))), (0, (w32 (x5 + 1))), (0, (w32 (x6 + 1)))] [] (mk E c s (hh g)))
      else
        ((fget 6466 ((mk E c s (hh g))) 89).bind fun v21 =>
          (aget X 100 ((mk E c s (hh g))) v21 x6).bind fun v22 =>
          (fget 6466 ((mk E c s (hh g))) 89).bind fun v23 =>
          (aget X 100 ((mk E c s (hh g))) v23 x6).bind fun v24 =>
          Ev prog clsT X d mc244 12 [(2, 89), (0, x1), (0, v16), (0, v22), (0, (w32 (x4 + v24))), (0, (w32 (x5 + 1))), (0, (w32 (x6 + 1)))] [] (mk E c s (hh g)))))
  else
    (Ev prog clsT X d mc244 12 [(2, 89), (0, x1), (0, x2), (0, x3), (0, x4), (0, x5), (0, (w32 (x6 + 1)))] [] (mk E c s (hh g)))))) X [0, 12, 70, 134, 149] 42 rfl).trans (by simp (maxSteps := 10000000) only [R89_13, ↓A152, ↓F6338_89, ↓F6466_89, bindI, Option.bind_some, if_true_, and_self, ite_true, true_and, true_or, or_true])
set_option maxRecDepth 100000 in
theorem r244_70 (d : Nat) (x1 x2 x3 x4 x5 x6 s1 s2 : Int) : Ev prog clsT X d mc244 70 [(2, 89), (0, x1), (0, x2), (0, x3), (0, x4), (0, x5), (0, x6)] [(0, s2), (0, s1), (2, 126)] (mk E c s (hh g)) =
  (if inb s1 20 = true then
  (if inb ((w32 (5 * x1))) 50 = true then
  (if cmpI .ne x5 0 = true then
  (if x5 = 0 then none else
    if inb x1 13 = true then
      (if cmpI .le ((g 107 (Int.toNat x1))) 0 = true then
      (if inb x1 13 = true then
        (Ev prog clsT X d mc244 134 [(2, 89), (0, x1), (0, x2), (0, x3), (0, x4), (0, x5), (0, 0)] [] (mk E c s (hh (up (up (up (up (up (up (up (up g 126 (Int.toNat s1) s2) 126 2 ((if 0 < (g 152 (Int.toNat ((w32 (5 * x1))))) then (g 152 (Int.toNat ((w32 (5 * x1))))) else 0))) 126 3 x2) 126 4 x3) 126 5 ((tdv x4 x5))) 126 6 x5) 126 7 10) 126 8 ((g 107 (Int.toNat x1)))))))
      else none)
    else
      (if inb x1 13 = true then
        (if inb x1 13 = true then
        (Ev prog clsT X d mc244 134 [(2, 89), (0, x1), (0, x2), (0, x3), (0, x4), (0, x5), (0, 0)] [] (mk E c s (hh (up (up (up (up (up (up (up (up g 126 (Int.toNat s1) s2) 126 2 ((if 0 < (g 152 (Int.toNat ((w32 (5 * x1))))) then (g 152 (Int.toNat ((w32 (5 * x1))))) else 0))) 126 3 x2) 126 4 x3) 126 5 ((tdv x4 x5))) 126 6 x5) 126 7 ((g 108 (Int.toNat x1)))) 126 8 ((g 107 (Int.toNat x1)))))))
      else none)
      else none))
    else none)
else
  (if inb x1 13 = true then
    (if cmpI .le ((g 107 (Int.toNat x1))) 0 = true then
    (if inb x1 13 = true then
      (Ev prog clsT X d mc244 134 [(2, 89), (0, x1), (0, x2), (0, x3), (0, x4), (0, x5), (0, 0)] [] (mk E c s (hh (up (up (up (up (up (up (up (up g 126 (Int.toNat s1) s2) 126 2 ((if 0 < (g 152 (Int.toNat ((w32 (5 * x1))))) then (g 152 (Int.toNat ((w32 (5 * x1))))) else 0))) 126 3 x2) 126 4 x3) 126 5 0) 126 6 x5) 126 7 10) 126 8 ((g 107 (Int.toNat x1)))))))
    else none)
  else
    (if inb x1 13 = true then
      (if inb x1 13 = true then
      (Ev prog clsT X d mc244 134 [(2, 89), (0, x1), (0, x2), (0, x3), (0, x4), (0, x5), (0, 0)] [] (mk E c s (hh (up (up (up (up (up (up (up (up g 126 (Int.toNat s1) s2) 126 2 ((if 0 < (g 152 (Int.toNat ((w32 (5 * x1))))) then (g 152 (Int.toNat ((w32 (5 * x1))))) else 0))) 126 3 x2) 126 4 x3) 126 5 0) 126 6 x5) 126 7 ((g 108 (Int.toNat x1)))) 126 8 ((g 107 (Int.toNat x1)))))))
    else none)
    else none))
  else none))
else none)
else none) :=
  (evk_at (r := ((aput 100 ((mk E c s (hh g))) 126 s1 (s2)).bind fun M1 =>
  (fget 6338 M1 89).bind fun v2 =>
  (fget 6466 M1 89).bind fun v3 =>
  (aget X 100 M1 v3 ((w32 (5 * x1)))).bind fun v4 =>
  (aput 100 M1 v2 2 ((if 0 < v4 then v4 else 0))).bind fun M5 =>
  (fget 6338 M5 89).bind fun v6 =>
  (aput 100 M5 v6 3 (x2)).bind fun M7 =>
  (fget 6338 M7 89).bind fun v8 =>
  (aput 100 M7 v8 4 (x3)).bind fun M9 =>
  (fget 6338 M9 89).bind fun v10 =>
  if cmpI .ne x5 0 = true then
  (if x5 = 0 then none else
    (aput 100 M9 v10 5 ((tdv x4 x5))).bind fun M11 =>
      (fget 6338 M11 89).bind fun v12 =>
      (aput 100 M11 v12 6 (x5)).bind fun M13 =>
      (fget 6338 M13 89).bind fun v14 =>
      (fget 6254 M13 89).bind fun v15 =>
      (aget X 100 M13 v15 x1).bind fun v16 =>
      if cmpI .le v16 0 = true then
      ((aput 100 M13 v14 7 (10)).bind fun M17 =>
        (fget 6338 M17 89).bind fun v18 =>
        (fget 6254 M17 89).bind fun v19 =>
        (aget X 100 M17 v19 x1).bind fun v20 =>
        (aput 100 M17 v18 8 (v20)).bind fun M21 =>
        Ev prog clsT X d mc244 134 [(2, 89), (0, x1), (0, x2), (0, x3), (0, x4), (0, x5), (0, 0)] [] M21)
    else
      ((fget 6258 M13 89).bind fun v22 =>
        (aget X 100 M13 v22 x1).bind fun v23 =>
        (aput 100 M13 v14 7 (v23)).bind fun M24 =>
        (fget 6338 M24 89).bind fun v25 =>
        (fget 6254 M24 89).bind fun v26 =>
        (aget X 100 M24 v26 x1).bind fun v27 =>
        (aput 100 M24 v25 8 (v27)).bind fun M28 =>
        Ev prog clsT X d mc244 134 [(2, 89), (0, x1), (0, x2), (0, x3), (0, x4), (0, x5), (0, 0)] [] M28))
else
  ((aput 100 M9 v10 5 (0)).bind fun M29 =>
    (fget 6338 M29 89).bind fun v30 =>
    (aput 100 M29 v30 6 (x5)).bind fun M31 =>
    (fget 6338 M31 89).bind fun v32 =>
    (fget 6254 M31 89).bind fun v33 =>
    (aget X 100 M31 v33 x1).bind fun v34 =>
    if cmpI .le v34 0 = true then
    ((aput 100 M31 v32 7 (10)).bind fun M35 =>
      (fget 6338 M35 89).bind fun v36 =>
      (fget 6254 M35 89).bind fun v37 =>
      (aget X 100 M35 v37 x1).bind fun v38 =>
      (aput 100 M35 v36 8 (v38)).bind fun M39 =>
      Ev prog clsT X d mc244 134 [(2, 89), (0, x1), (0, x2), (0, x3), (0, x4), (0, x5), (0, 0)] [] M39)
  else
    ((fget 6258 M31 89).bind fun v40 =>
      (aget X 100 M31 v40 x1).bind fun v41 =>
      (aput 100 M31 v32 7 (v41)).bind fun M42 =>
      (fget 6338 M42 89).bind fun v43 =>
      (fget 6254 M42 89).bind fun v44 =>
      (aget X 100 M42 v44 x1).bind fun v45 =>
      (aput 100 M42 v43 8 (v45)).bind fun M46 =>
      Ev prog clsT X d mc244 134 [(2, 89), (0, x1), (0, x2), (0, x3), (0, x4), (0, x5), (0, 0)] [] M46)))) X [0, 12, 70, 134, 149] 63 rfl).trans (by simp (maxSteps := 10000000) only [inbL 2 20 rfl, inbL 3 20 rfl, inbL 4 20 rfl, inbL 5 20 rfl, inbL 6 20 rfl, inbL 7 20 rfl, inbL 8 20 rfl, tn2, tn3, tn4, tn5, tn6, tn7, tn8, uc_126_107, uc_126_108, uc_126_152, ↓A107, ↓A108, ↓A152, ↓F6254_89, ↓F6258_89, ↓F6338_89, ↓F6466_89, ↓S126, bindI, Option.bind_some, if_true_, and_self, ite_true, true_and, true_or, or_true])
set_option maxRecDepth 100000 in
theorem r244_134 (d : Nat) (x6 : Int) (w1 w2 w3 w4 w5 : MV) : Ev prog clsT X d mc244 134 [(2, 89), w1, w2, w3, w4, w5, (0, x6)] [] (mk E c s (hh g)) =
  (if cmpI .ge x6 3 = true then
  (some ((0, 0), ((mk E c s (hh g)))))
else
  (if inb ((w32 (99 + x6))) 117 = true then
    (if cmpI .eq ((g 110 (Int.toNat ((w32 (99 + x6)))))) 0 = true then
    (Ev prog clsT X d mc244 134 [(2, 89), (3, 0), (3, 0), (3, 0), (3, 0), (3, 0), (0, (w32 (x6 + 1)))] [] (mk E c s (hh g)))
  else
    ((Call prog clsT X d 194 [(2, 89), (0, (w32 (99 + x6)))] ((mk E c s (hh g)))).bind fun r1 => if r1.1.1 = 4 then none else
      Ev prog clsT X d mc244 149 [(2, 89), (3, 0), (3, 0), (3, 0), (3, 0), (3, 0), (0, x6)] (pushR r1.1 []) r1.2))
  else none)) :=
  (evk_at (r := (if cmpI .ge x6 3 = true then
  (some ((0, 0), (mk E c s (hh g))))
else
  ((fget 6266 ((mk E c s (hh g))) 89).bind fun v1 =>
    (aget X 102 ((mk E c s (hh g))) v1 ((w32 (99 + x6)))).bind fun v2 =>
    if cmpI .eq v2 0 = true then
    (Ev prog clsT X d mc244 134 [(2, 89), (3, 0), (3, 0), (3, 0), (3, 0), (3, 0), (0, (w32 (x6 + 1)))] [] (mk E c s (hh g)))
  else
    (if (2 : Nat) = 2 ∧ rcv ((mk E c s (hh g))) 89 13 = true then
      ((Call prog clsT X d 194 [(2, 89), (0, (w32 (99 + x6)))] ((mk E c s (hh g)))).bind fun r3 => if r3.1.1 = 4 then none else
      Ev prog clsT X d mc244 149 [(2, 89), (3, 0), (3, 0), (3, 0), (3, 0), (3, 0), (0, x6)] (pushR r3.1 []) r3.2) else none)))) X [0, 12, 70, 134, 149] 16 rfl).trans (by simp (maxSteps := 10000000) only [R89_13, ↓A110, ↓F6266_89, bindI, Option.bind_some, if_true_, and_self, ite_true, true_and, true_or, or_true])
set_option maxRecDepth 100000 in
theorem r244_149 (d : Nat) (x6 s0 : Int) : Ev prog clsT X d mc244 149 [(2, 89), (3, 0), (3, 0), (3, 0), (3, 0), (3, 0), (0, x6)] [(0, s0)] (mk E c s (hh g)) =
  (if cmpI .eq s0 0 = true then
  (Ev prog clsT X d mc244 134 [(2, 89), (3, 0), (3, 0), (3, 0), (3, 0), (3, 0), (0, (w32 (x6 + 1)))] [] (mk E c s (hh g)))
else
  (some ((0, (w32 (x6 + 1))), ((mk E c s (hh g)))))) :=
  (evk_at (r := (if cmpI .eq s0 0 = true then
  (Ev prog clsT X d mc244 134 [(2, 89), (3, 0), (3, 0), (3, 0), (3, 0), (3, 0), (0, (w32 (x6 + 1)))] [] (mk E c s (hh g)))
else
  (some ((0, (w32 (x6 + 1))), (mk E c s (hh g)))))) X [0, 12, 70, 134, 149] 6 rfl).trans (by simp (maxSteps := 10000000) only [bindI, Option.bind_some, if_true_, and_self, ite_true, true_and, true_or, or_true])
set_option maxRecDepth 100000 in
theorem r245_0 (d : Nat) (x1 : Int) : Ev prog clsT X d mc245 0 [(2, 89), (0, x1), (3, 0), (3, 0)] [] (mk E c s (hh g)) =
  (Ev prog clsT X d mc245 4 [(2, 89), (0, x1), (0, (-1)), (0, 0)] [] (mk E c s (hh g))) :=
  evk_at X [0, 4, 38] 6 rfl
set_option maxRecDepth 100000 in
theorem rc245_ (d : Nat) (x1 : Int) : Call prog clsT X (d + 1) 245 [(2, 89), (0, x1)] (mk E c s (hh g)) =
  (Ev prog clsT X d mc245 4 [(2, 89), (0, x1), (0, (-1)), (0, 0)] [] (mk E c s (hh g))) :=
  (show Call prog clsT X (d + 1) 245 [(2, 89), (0, x1)] (mk E c s (hh g)) = Ev prog clsT X d mc245 0 [(2, 89), (0, x1), (3, 0), (3, 0)] [] (mk E c s (hh g)) from rfl).trans (r245_0 X E c s g d x1 )
set_option maxRecDepth 100000 in
theorem r245_4 (d : Nat) (x1 x2 x3 : Int) : Ev prog clsT X d mc245 4 [(2, 89), (0, x1), (0, x2), (0, x3)] [] (mk E c s (hh g)) =
  (if cmpI .ge x3 10 = true then
  (some ((0, (-1)), ((mk E c s (hh g)))))
else
  (if inb x3 10 = true then
    (if cmpI .eq ((g 106 (Int.toNat x3))) 0 = true then
    (Ev prog clsT X d mc245 4 [(2, 89), (0, x1), (0, x2), (0, (w32 (x3 + 1)))] [] (mk E c s (hh g)))
  else
    (if inb x3 13 = true then
      (if cmpI .le ((g 107 (Int.toNat x3))) 0 = true then
      (if inb x1 13 = true then
        (if cmpI .le ((g 107 (Int.toNat x1))) 0 = true then
        (if cmpI .ne 10 10 = true then
          (Ev prog clsT X d mc245 4 [(2, 89), (0, x1), (0, x2), (0, (w32 (x3 + 1)))] [] (mk E c s (hh g)))
        else
          ((Call prog clsT X d 244 [(2, 89), (0, x3)] ((mk E c s (hh g)))).bind fun r1 => if r1.1.1 = 4 then none else
            Ev prog clsT X d mc245 38 [(2, 89), (0, x1), (0, x2), (0, x3)] (pushR r1.1 []) r1.2))
      else
        (if inb x1 13 = true then
          (if cmpI .ne 10 ((g 108 (Int.toNat x1))) = true then
          (Ev prog clsT X d mc245 4 [(2, 89), (0, x1), (0, x2), (0, (w32 (x3 + 1)))] [] (mk E c s (hh g)))
        else
          ((Call prog clsT X d 244 [(2, 89), (0, x3)] ((mk E c s (hh g)))).bind fun r2 => if r2.1.1 = 4 then none else
            Ev prog clsT X d mc245 38 [(2, 89), (0, x1), (0, x2), (0, x3)] (pushR r2.1 []) r2.2))
        else none))
      else none)
    else
      (if inb x3 13 = true then
        (if inb x1 13 = true then
        (if cmpI .le ((g 107 (Int.toNat x1))) 0 = true then
        (if cmpI .ne ((g 108 (Int.toNat x3))) 10 = true then
          (Ev prog clsT X d mc245 4 [(2, 89), (0, x1), (0, x2), (0, (w32 (x3 + 1)))] [] (mk E c s (hh g)))
        else
          ((Call prog clsT X d 244 [(2, 89), (0, x3)] ((mk E c s (hh g)))).bind fun r3 => if r3.1.1 = 4 then none else
            Ev prog clsT X d mc245 38 [(2, 89), (0, x1), (0, x2), (0, x3)] (pushR r3.1 []) r3.2))
      else
        (if inb x1 13 = true then
          (if cmpI .ne ((g 108 (Int.toNat x3))) ((g 108 (Int.toNat x1))) = true then
          (Ev prog clsT X d mc245 4 [(2, 89), (0, x1), (0, x2), (0, (w32 (x3 + 1)))] [] (mk E c s (hh g)))
        else
          ((Call prog clsT X d 244 [(2, 89), (0, x3)] ((mk E c s (hh g)))).bind fun r4 => if r4.1.1 = 4 then none else
            Ev prog clsT X d mc245 38 [(2, 89), (0, x1), (0, x2), (0, x3)] (pushR r4.1 []) r4.2))
        else none))
      else none)
      else none))
    else none))
  else none)) :=
  (evk_at (r := (if cmpI .ge x3 10 = true then
  (some ((0, (-1)), (mk E c s (hh g))))
else
  ((fget 6250 ((mk E c s (hh g))) 89).bind fun v1 =>
    (aget X 102 ((mk E c s (hh g))) v1 x3).bind fun v2 =>
    if cmpI .eq v2 0 = true then
    (Ev prog clsT X d mc245 4 [(2, 89), (0, x1), (0, x2), (0, (w32 (x3 + 1)))] [] (mk E c s (hh g)))
  else
    ((fget 6254 ((mk E c s (hh g))) 89).bind fun v3 =>
      (aget X 100 ((mk E c s (hh g))) v3 x3).bind fun v4 =>
      if cmpI .le v4 0 = true then
      ((fget 6254 ((mk E c s (hh g))) 89).bind fun v5 =>
        (aget X 100 ((mk E c s (hh g))) v5 x1).bind fun v6 =>
        if cmpI .le v6 0 = true then
        (if cmpI .ne 10 10 = true then
          (Ev prog clsT X d mc245 4 [(2, 89), (0, x1), (0, x2), (0, (w32 (x3 + 1)))] [] (mk E c s (hh g)))
        else
          (if (2 : Nat) = 2 ∧ rcv ((mk E c s (hh g))) 89 13 = true then
            ((Call prog clsT X d 244 [(2, 89), (0, x3)] ((mk E c s (hh g)))).bind fun r7 => if r7.1.1 = 4 then none else
            Ev prog clsT X d mc245 38 [(2, 89), (0, x1), (0, x2), (0, x3)] (pushR r7.1 []) r7.2) else none))
      else
        ((fget 6258 ((mk E c s (hh g))) 89).bind fun v8 =>
          (aget X 100 ((mk E c s (hh g))) v8 x1).bind fun v9 =>
          if cmpI .ne 10 v9 = true then
          (Ev prog clsT X d mc245 4 [(2, 89), (0, x1), (0, x2), (0, (w32 (x3 + 1)))] [] (mk E c s (hh g)))
        else
          (if (2 : Nat) = 2 ∧ rcv ((mk E c s (hh g))) 89 13 = true then
            ((Call prog clsT X d 244 [(2, 89), (0, x3)] ((mk E c s (hh g)))).bind fun r10 => if r10.1.1 = 4 then none else
            Ev prog clsT X d mc245 38 [(2, 89), (0, x1), (0, x2), (0, x3)] (pushR r10.1 []) r10.2) else none)))
    else
      ((fget 6258 ((mk E c s (hh g))) 89).bind fun v11 =>
        (aget X 100 ((mk E c s (hh g))) v11 x3).bind fun v12 =>
        (fget 6254 ((mk E c s (hh g))) 89).bind fun v13 =>
        (aget X 100 ((mk E c s (hh g))) v13 x1).bind fun v14 =>
        if cmpI .le v14 0 = true then
        (if cmpI .ne v12 10 = true then
          (Ev prog clsT X d mc245 4 [(2, 89), (0, x1), (0, x2), (0, (w32 (x3 + 1)))] [] (mk E c s (hh g)))
        else
          (if (2 : Nat) = 2 ∧ rcv ((mk E c s (hh g))) 89 13 = true then
            ((Call prog clsT X d 244 [(2, 89), (0, x3)] ((mk E c s (hh g)))).bind fun r15 => if r15.1.1 = 4 then none else
            Ev prog clsT X d mc245 38 [(2, 89), (0, x1), (0, x2), (0, x3)] (pushR r15.1 []) r15.2) else none))
      else
        ((fget 6258 ((mk E c s (hh g))) 89).bind fun v16 =>
          (aget X 100 ((mk E c s (hh g))) v16 x1).bind fun v17 =>
          if cmpI .ne v12 v17 = true then
          (Ev prog clsT X d mc245 4 [(2, 89), (0, x1), (0, x2), (0, (w32 (x3 + 1)))] [] (mk E c s (hh g)))
        else
          (if (2 : Nat) = 2 ∧ rcv ((mk E c s (hh g))) 89 13 = true then
            ((Call prog clsT X d 244 [(2, 89), (0, x3)] ((mk E c s (hh g)))).bind fun r18 => if r18.1.1 = 4 then none else
            Ev prog clsT X d mc245 38 [(2, 89), (0, x1), (0, x2), (0, x3)] (pushR r18.1 []) r18.2) else none))))))) X [0, 4, 38] 33 rfl).trans (by simp (maxSteps := 10000000) only [R89_13, ↓A106, ↓A107, ↓A108, ↓F6250_89, ↓F6254_89, ↓F6258_89, bindI, Option.bind_some, if_true_, and_self, ite_true, true_and, true_or, or_true])
set_option maxRecDepth 100000 in
theorem r245_38 (d : Nat) (x1 x2 x3 s0 : Int) : Ev prog clsT X d mc245 38 [(2, 89), (0, x1), (0, x2), (0, x3)] [(0, s0)] (mk E c s (hh g)) =
  (if cmpI .eq s0 3 = true then
  (if cmpI .ge x2 0 = true then
    (if cmpI .eq x2 x1 = true then
      (if cmpI .ne x2 x1 = true then
        (some ((0, x2), ((mk E c s (hh g)))))
      else
        (some ((0, x3), ((mk E c s (hh g))))))
    else
      (if cmpI .ne x3 x1 = true then
        (Ev prog clsT X d mc245 4 [(2, 89), (0, x1), (0, (-1)), (0, (w32 (x3 + 1)))] [] (mk E c s (hh g)))
      else
        (if cmpI .ne x2 x1 = true then
          (some ((0, x2), ((mk E c s (hh g)))))
        else
          (some ((0, x3), ((mk E c s (hh g))))))))
  else
    (Ev prog clsT X d mc245 4 [(2, 89), (0, x1), (0, x3), (0, (w32 (x3 + 1)))] [] (mk E c s (hh g))))
else
  (Ev prog clsT X d mc245 4 [(2, 89), (0, x1), (0, x2), (0, (w32 (x3 + 1)))] [] (mk E c s (hh g)))) :=
  (evk_at (r := (if cmpI .eq s0 3 = true then
  (if cmpI .ge x2 0 = true then
    (if cmpI .eq x2 x1 = true then
      (if cmpI .ne x2 x1 = true then
        (some ((0, x2), (mk E c s (hh g))))
      else
        (some ((0, x3), (mk E c s (hh g)))))
    else
      (if cmpI .ne x3 x1 = true then
        (Ev prog clsT X d mc245 4 [(2, 89), (0, x1), (0, (-1)), (0, (w32 (x3 + 1)))] [] (mk E c s (hh g)))
      else
        (if cmpI .ne x2 x1 = true then
          (some ((0, x2), (mk E c s (hh g))))
        else
          (some ((0, x3), (mk E c s (hh g)))))))
  else
    (Ev prog clsT X d mc245 4 [(2, 89), (0, x1), (0, x3), (0, (w32 (x3 + 1)))] [] (mk E c s (hh g))))
else
  (Ev prog clsT X d mc245 4 [(2, 89), (0, x1), (0, x2), (0, (w32 (x3 + 1)))] [] (mk E c s (hh g))))) X [0, 4, 38] 17 rfl).trans (by simp (maxSteps := 10000000) only [bindI, Option.bind_some, if_true_, and_self, ite_true, true_and, true_or, or_true])
set_option maxRecDepth 100000 in
theorem r246_0 (d : Nat) (x1 x2 : Int) : Ev prog clsT X d mc246 0 [(2, 89), (0, x1), (0, x2), (3, 0)] [] (mk E c s (hh g)) =
  ((Call prog clsT X d 152 [(0, x1), (0, 0), (0, 3)] ((mk E c s (hh (up g 89 0 0))))).bind fun r1 => if r1.1.1 = 4 then none else
  Ev prog clsT X d mc246 7 [(2, 89), (0, x1), (0, x2), (3, 0)] (pushR r1.1 []) r1.2) :=
  (evk_at (r := ((fput 6144 ((mk E c s (hh g))) 89 0).bind fun M1 =>
  (Call prog clsT X d 152 [(0, x1), (0, 0), (0, 3)] M1).bind fun r2 => if r2.1.1 = 4 then none else
  Ev prog clsT X d mc246 7 [(2, 89), (0, x1), (0, x2), (3, 0)] (pushR r2.1 []) r2.2)) X [0, 7, 17, 45, 103, 137] 8 rfl).trans (by simp (maxSteps := 10000000) only [↓W6144_89, bindI, Option.bind_some, if_true_, and_self, ite_true, true_and, true_or, or_true])
set_option maxRecDepth 100000 in
theorem rc246_ (d : Nat) (x1 x2 : Int) : Call prog clsT X (d + 1) 246 [(2, 89), (0, x1), (0, x2)] (mk E c s (hh g)) =
  ((Call prog clsT X d 152 [(0, x1), (0, 0), (0, 3)] ((mk E c s (hh (up g 89 0 0))))).bind fun r1 => if r1.1.1 = 4 then none else
  Ev prog clsT X d mc246 7 [(2, 89), (0, x1), (0, x2), (3, 0)] (pushR r1.1 []) r1.2) :=
  (show Call prog clsT X (d + 1) 246 [(2, 89), (0, x1), (0, x2)] (mk E c s (hh g)) = Ev prog clsT X d mc246 0 [(2, 89), (0, x1), (0, x2), (3, 0)] [] (mk E c s (hh g)) from rfl).trans (r246_0 X E c s g d x1 x2 )
set_option maxRecDepth 100000 in
theorem r246_7 (d : Nat) (x1 x2 s0 : Int) : Ev prog clsT X d mc246 7 [(2, 89), (0, x1), (0, x2), (3, 0)] [(0, s0)] (mk E c s (hh g)) =
  (if cmpI .eq s0 0 = true then
  (some ((0, 0), ((mk E c s (hh g)))))
else
  (if cmpI .eq x2 0 = true then
    (Ev prog clsT X d mc246 17 [(2, 89), (0, x1), (0, x2), (3, 0)] [] (mk E c s (hh g)))
  else
    (if inb x1 4 = true then
      (if cmpI .ne ((g 153 (Int.toNat x1))) 0 = true then
      (Ev prog clsT X d mc246 17 [(2, 89), (0, x1), (0, x2), (3, 0)] [] (mk E c s (hh g)))
    else
      (some ((0, 0), ((mk E c s (hh g))))))
    else none))) :=
  (evk_at (r := (if cmpI .eq s0 0 = true then
  (some ((0, 0), (mk E c s (hh g))))
else
  (if cmpI .eq x2 0 = true then
    (Ev prog clsT X d mc246 17 [(2, 89), (0, x1), (0, x2), (3, 0)] [] (mk E c s (hh g)))
  else
    ((fget 6474 ((mk E c s (hh g))) 89).bind fun v1 =>
      (aget X 100 ((mk E c s (hh g))) v1 x1).bind fun v2 =>
      if cmpI .ne v2 0 = true then
      (Ev prog clsT X d mc246 17 [(2, 89), (0, x1), (0, x2), (3, 0)] [] (mk E c s (hh g)))
    else
      (some ((0, 0), (mk E c s (hh g)))))))) X [0, 7, 17, 45, 103, 137] 11 rfl).trans (by simp (maxSteps := 10000000) only [↓A153, ↓F6474_89, bindI, Option.bind_some, if_true_, and_self, ite_true, true_and, true_or, or_true])
set_option maxRecDepth 100000 in
theorem r246_17 (d : Nat) (x1 x2 : Int) : Ev prog clsT X d mc246 17 [(2, 89), (0, x1), (0, x2), (3, 0)] [] (mk E c s (hh g)) =
  (if cmpI .ne x2 0 = true then
  (if inb x1 4 = true then
    (Ev prog clsT X d mc246 45 [(2, 89), (0, x1), (0, x2), (0, 0)] [] (mk E c s (hh (up g 89 10 ((g 154 (Int.toNat x1)))))))
  else none)
else
  (if inb x1 4 = true then
    (if inb x1 4 = true then
    (if inb x1 4 = true then
    (Ev prog clsT X d mc246 45 [(2, 89), (0, x1), (0, x2), (0, 0)] [] (mk E c s (hh (up (up (up (up g 89 81 ((w32 (((g 89 81)) + 1)))) 153 (Int.toNat x1) ((((w32 (((g 89 81)) + 1)))))) 154 (Int.toNat x1) ((g 89 10))) 89 10 ((((g 89 10))))))))
  else none)
  else none)
  else none)) :=
  (evk_at (r := (if cmpI .ne x2 0 = true then
  ((fget 6478 ((mk E c s (hh g))) 89).bind fun v1 =>
    (aget X 100 ((mk E c s (hh g))) v1 x1).bind fun v2 =>
    (fput 6184 ((mk E c s (hh g))) 89 v2).bind fun M3 =>
    Ev prog clsT X d mc246 45 [(2, 89), (0, x1), (0, x2), (0, 0)] [] M3)
else
  ((fget 6468 ((mk E c s (hh g))) 89).bind fun v4 =>
    (fput 6468 ((mk E c s (hh g))) 89 ((w32 (v4 + 1)))).bind fun M5 =>
    (fget 6474 M5 89).bind fun v6 =>
    (fget 6468 M5 89).bind fun v7 =>
    (aput 100 M5 v6 x1 (v7)).bind fun M8 =>
    (fget 6478 M8 89).bind fun v9 =>
    (fget 6184 M8 89).bind fun v10 =>
    (aput 100 M8 v9 x1 (v10)).bind fun M11 =>
    (fget 6478 M11 89).bind fun v12 =>
    (aget X 100 M11 v12 x1).bind fun v13 =>
    (fput 6184 M11 89 v13).bind fun M14 =>
    Ev prog clsT X d mc246 45 [(2, 89), (0, x1), (0, x2), (0, 0)] [] M14))) X [0, 7, 17, 45, 103, 137] 30 rfl).trans (by simp (maxSteps := 10000000) only [uc_153_89, up_same, uq_81_10, ↓A154, ↓F6184_89, ↓F6468_89, ↓F6474_89, ↓F6478_89, ↓S153, ↓S154, ↓W6184_89, ↓W6468_89, bindI, Option.bind_some, if_true_, and_self, ite_true, true_and, true_or, or_true])
set_option maxRecDepth 100000 in
theorem r246_45 (d : Nat) (x1 x2 x3 : Int) : Ev prog clsT X d mc246 45 [(2, 89), (0, x1), (0, x2), (0, x3)] [] (mk E c s (hh g)) =
  (if cmpI .ge x3 40 = true then
  (Ev prog clsT X d mc246 103 [(2, 89), (0, x1), (0, x2), (0, 0)] [] (mk E c s (hh g)))
else
  (if cmpI .eq x2 0 = true then
    (if inb x3 40 = true then
      (if inb ((w32 (((w32 (40 * x1))) + x3))) 160 = true then
      (if inb x3 40 = true then
      (if inb ((w32 (((w32 (40 * x1))) + x3))) 160 = true then
      (Ev prog clsT X d mc246 45 [(2, 89), (0, x1), (0, x2), (0, (w32 (x3 + 1)))] [] (mk E c s (hh (up (up g 155 (Int.toNat ((w32 (((w32 (40 * x1))) + x3)))) (bit1 ((g 104 (Int.toNat x3))))) 156 (Int.toNat ((w32 (((w32 (40 * x1))) + x3)))) ((g 103 (Int.toNat x3)))))))
    else none)
    else none)
    else none)
    else none)
  else
    (if inb ((w32 (((w32 (40 * x1))) + x3))) 160 = true then
      (if inb x3 40 = true then
      (if inb ((w32 (((w32 (40 * x1))) + x3))) 160 = true then
      (if inb x3 40 = true then
      (Ev prog clsT X d mc246 45 [(2, 89), (0, x1), (0, x2), (0, (w32 (x3 + 1)))] [] (mk E c s (hh (up (up g 104 (Int.toNat x3) (bit1 ((g 155 (Int.toNat ((w32 (((w32 (40 * x1))) + x3)))))))) 103 (Int.toNat x3) ((g 156 (Int.toNat ((w32 (((w32 (40 * x1))) + x3))))))))))
    else none)
    else none)
    else none)
    else none))) :=
  (evk_at (r := (if cmpI .ge x3 40 = true then
  (Ev prog clsT X d mc246 103 [(2, 89), (0, x1), (0, x2), (0, 0)] [] (mk E c s (hh g)))
else
  (if cmpI .eq x2 0 = true then
    ((fget 6482 ((mk E c s (hh g))) 89).bind fun v1 =>
      (fget 6210 ((mk E c s (hh g))) 89).bind fun v2 =>
      (aget X 102 ((mk E c s (hh g))) v2 x3).bind fun v3 =>
      (aput 102 ((mk E c s (hh g))) v1 ((w32 (((w32 (40 * x1))) + x3))) (bit1 (v3))).bind fun M4 =>
      (fget 6486 M4 89).bind fun v5 =>
      (fget 6206 M4 89).bind fun v6 =>
      (aget X 100 M4 v6 x3).bind fun v7 =>
      (aput 100 M4 v5 ((w32 (((w32 (40 * x1))) + x3))) (v7)).bind fun M8 =>
      Ev prog clsT X d mc246 45 [(2, 89), (0, x1), (0, x2), (0, (w32 (x3 + 1)))] [] M8)
  else
    ((fget 6210 ((mk E c s (hh g))) 89).bind fun v9 =>
      (fget 6482 ((mk E c s (hh g))) 89).bind fun v10 =>
      (aget X 102 ((mk E c s (hh g))) v10 ((w32 (((w32 (40 * x1))) + x3)))).bind fun v11 =>
      (aput 102 ((mk E c s (hh g))) v9 x3 (bit1 (v11))).bind fun M12 =>
      (fget 6206 M12 89).bind fun v13 =>
      (fget 6486 M12 89).bind fun v14 =>
      (aget X 100 M12 v14 ((w32 (((w32 (40 * x1))) + x3)))).bind fun v15 =>
      (aput 100 M12 v13 x3 (v15)).bind fun M16 =>
      Ev prog clsT X d mc246 45 [(2, 89), (0, x1), (0, x2), (0, (w32 (x3 + 1)))] [] M16)))) X [0, 7, 17, 45, 103, 137] 34 rfl).trans (by simp (maxSteps := 10000000) only [uc_104_156, uc_155_103, ↓A103, ↓A104, ↓A155, ↓A156, ↓F6206_89, ↓F6210_89, ↓F6482_89, ↓F6486_89, ↓S103, ↓S104, ↓S155, ↓S156, bindI, Option.bind_some, if_true_, and_self, ite_true, true_and, true_or, or_true])
set_option maxRecDepth 100000 in
theorem r246_103 (d : Nat) (x1 x2 x3 : Int) : Ev prog clsT X d mc246 103 [(2, 89), (0, x1), (0, x2), (0, x3)] [] (mk E c s (hh g)) =
  (if cmpI .ge x3 10 = true then
  (Ev prog clsT X d mc246 137 [(2, 89), (0, x1), (0, x2), (0, 0)] [] (mk E c s (hh g)))
else
  (if cmpI .eq x2 0 = true then
    (if inb x3 10 = true then
      (if inb ((w32 (((w32 (10 * x1))) + x3))) 40 = true then
      (Ev prog clsT X d mc246 103 [(2, 89), (0, x1), (0, x2), (0, (w32 (x3 + 1)))] [] (mk E c s (hh (up g 157 (Int.toNat ((w32 (((w32 (10 * x1))) + x3)))) ((g 130 (Int.toNat x3)))))))
    else none)
    else none)
  else
    (if inb ((w32 (((w32 (10 * x1))) + x3))) 40 = true then
      (if inb x3 10 = true then
      (Ev prog clsT X d mc246 103 [(2, 89), (0, x1), (0, x2), (0, (w32 (x3 + 1)))] [] (mk E c s (hh (up g 130 (Int.toNat x3) ((g 157 (Int.toNat ((w32 (((w32 (10 * x1))) + x3))))))))))
    else none)
    else none))) :=
  (evk_at (r := (if cmpI .ge x3 10 = true then
  (Ev prog clsT X d mc246 137 [(2, 89), (0, x1), (0, x2), (0, 0)] [] (mk E c s (hh g)))
else
  (if cmpI .eq x2 0 = true then
    ((fget 6490 ((mk E c s (hh g))) 89).bind fun v1 =>
      (fget 6354 ((mk E c s (hh g))) 89).bind fun v2 =>
      (aget X 100 ((mk E c s (hh g))) v2 x3).bind fun v3 =>
      (aput 100 ((mk E c s (hh g))) v1 ((w32 (((w32 (10 * x1))) + x3))) (v3)).bind fun M4 =>
      Ev prog clsT X d mc246 103 [(2, 89), (0, x1), (0, x2), (0, (w32 (x3 + 1)))] [] M4)
  else
    ((fget 6354 ((mk E c s (hh g))) 89).bind fun v5 =>
      (fget 6490 ((mk E c s (hh g))) 89).bind fun v6 =>
      (aget X 100 ((mk E c s (hh g))) v6 ((w32 (((w32 (10 * x1))) + x3)))).bind fun v7 =>
      (aput 100 ((mk E c s (hh g))) v5 x3 (v7)).bind fun M8 =>
      Ev prog clsT X d mc246 103 [(2, 89), (0, x1), (0, x2), (0, (w32 (x3 + 1)))] [] M8)))) X [0, 7, 17, 45, 103, 137] 22 rfl).trans (by simp (maxSteps := 10000000) only [↓A130, ↓A157, ↓F6354_89, ↓F6490_89, ↓S130, ↓S157, bindI, Option.bind_some, if_true_, and_self, ite_true, true_and, true_or, or_true])
set_option maxRecDepth 100000 in
theorem r246_137 (d : Nat) (x1 x2 x3 : Int) : Ev prog clsT X d mc246 137 [(2, 89), (0, x1), (0, x2), (0, x3)] [] (mk E c s (hh g)) =
  (if cmpI .ge x3 4 = true then
  (some ((0, 1), ((mk E c s (hh g)))))
else
  (if cmpI .eq x2 0 = true then
    (some ((0, 1), ((mk E c s (hh g)))))
  else
    (if inb x3 4 = true then
      (if inb x1 4 = true then
      (if cmpI .le ((g 153 (Int.toNat x3))) ((g 153 (Int.toNat x1))) = true then
      (Ev prog clsT X d mc246 137 [(2, 89), (0, x1), (0, x2), (0, (w32 (x3 + 1)))] [] (mk E c s (hh g)))
    else
      (if inb x3 4 = true then
        (Ev prog clsT X d mc246 137 [(2, 89), (0, x1), (0, x2), (0, (w32 (x3 + 1)))] [] (mk E c s (hh (up g 153 (Int.toNat x3) 0))))
      else none))
    else none)
    else none))) :=
  (evk_at (r := (if cmpI .ge x3 4 = true then
  (some ((0, 1), (mk E c s (hh g))))
else
  (if cmpI .eq x2 0 = true then
    (some ((0, 1), (mk E c s (hh g))))
  else
    ((fget 6474 ((mk E c s (hh g))) 89).bind fun v1 =>
      (aget X 100 ((mk E c s (hh g))) v1 x3).bind fun v2 =>
      (fget 6474 ((mk E c s (hh g))) 89).bind fun v3 =>
      (aget X 100 ((mk E c s (hh g))) v3 x1).bind fun v4 =>
      if cmpI .le v2 v4 = true then
      (Ev prog clsT X d mc246 137 [(2, 89), (0, x1), (0, x2), (0, (w32 (x3 + 1)))] [] (mk E c s (hh g)))
    else
      ((fget 6474 ((mk E c s (hh g))) 89).bind fun v5 =>
        (aput 100 ((mk E c s (hh g))) v5 x3 (0)).bind fun M6 =>
        Ev prog clsT X d mc246 137 [(2, 89), (0, x1), (0, x2), (0, (w32 (x3 + 1)))] [] M6))))) X [0, 7, 17, 45, 103, 137] 23 rfl).trans (by simp (maxSteps := 10000000) only [↓A153, ↓F6474_89, ↓S153, bindI, Option.bind_some, if_true_, and_self, ite_true, true_and, true_or, or_true])
set_option maxRecDepth 100000 in
theorem r247_0 (d : Nat) (x1 : Int) : Ev prog clsT X d mc247 0 [(2, 89), (0, x1), (3, 0), (3, 0)] [] (mk E c s (hh g)) =
  ((Call prog clsT X d 152 [(0, x1), (0, 0), (0, 10)] ((mk E c s (hh (up g 89 0 0))))).bind fun r1 => if r1.1.1 = 4 then none else
  Ev prog clsT X d mc247 7 [(2, 89), (0, x1), (3, 0), (3, 0)] (pushR r1.1 []) r1.2) :=
  (evk_at (r := ((fput 6144 ((mk E c s (hh g))) 89 0).bind fun M1 =>
  (Call prog clsT X d 152 [(0, x1), (0, 0), (0, 10)] M1).bind fun r2 => if r2.1.1 = 4 then none else
  Ev prog clsT X d mc247 7 [(2, 89), (0, x1), (3, 0), (3, 0)] (pushR r2.1 []) r2.2)) X [0, 7, 14, 33, 52, 54, 61, 82, 114] 8 rfl).trans (by simp (maxSteps := 10000000) only [↓W6144_89, bindI, Option.bind_some, if_true_, and_self, ite_true, true_and, true_or, or_true])
set_option maxRecDepth 100000 in
theorem rc247_ (d : Nat) (x1 : Int) : Call prog clsT X (d + 1) 247 [(2, 89), (0, x1)] (mk E c s (hh g)) =
  ((Call prog clsT X d 152 [(0, x1), (0, 0), (0, 10)] ((mk E c s (hh (up g 89 0 0))))).bind fun r1 => if r1.1.1 = 4 then none else
  Ev prog clsT X d mc247 7 [(2, 89), (0, x1), (3, 0), (3, 0)] (pushR r1.1 []) r1.2) :=
  (show Call prog clsT X (d + 1) 247 [(2, 89), (0, x1)] (mk E c s (hh g)) = Ev prog clsT X d mc247 0 [(2, 89), (0, x1), (3, 0), (3, 0)] [] (mk E c s (hh g)) from rfl).trans (r247_0 X E c s g d x1 )
set_option maxRecDepth 100000 in
theorem r247_7 (d : Nat) (x1 s0 : Int) : Ev prog clsT X d mc247 7 [(2, 89), (0, x1), (3, 0), (3, 0)] [(0, s0)] (mk E c s (hh g)) =
  (if cmpI .ne s0 0 = true then
  (Ev prog clsT X d mc247 14 [(2, 89), (0, x1), (0, 0), (0, 0)] [] (mk E c s (hh g)))
else
  (some ((0, (-1)), ((mk E c s (hh g)))))) :=
  (evk_at (r := (if cmpI .ne s0 0 = true then
  (Ev prog clsT X d mc247 14 [(2, 89), (0, x1), (0, 0), (0, 0)] [] (mk E c s (hh g)))
else
  (some ((0, (-1)), (mk E c s (hh g)))))) X [0, 7, 14, 33, 52, 54, 61, 82, 114] 7 rfl).trans (by simp (maxSteps := 10000000) only [bindI, Option.bind_some, if_true_, and_self, ite_true, true_and, true_or, or_true])
set_option maxRecDepth 100000 in
theorem r247_14 (d : Nat) (x1 x2 x3 : Int) : Ev prog clsT X d mc247 14 [(2, 89), (0, x1), (0, x2), (0, x3)] [] (mk E c s (hh g)) =
  (if cmpI .ge x3 10 = true then
  (Ev prog clsT X d mc247 61 [(2, 89), (0, x1), (0, x2), (0, 0)] [] (mk E c s (hh g)))
else
  (if cmpI .ne x1 0 = true then
    (if cmpI .ne x1 2 = true then
      (Ev prog clsT X d mc247 33 [(2, 89), (0, x1), (0, x2), (0, x3)] [(0, x2)] (mk E c s (hh g)))
    else
      (if inb x3 10 = true then
        (if cmpI .ne ((g 106 (Int.toNat x3))) 0 = true then
        (Ev prog clsT X d mc247 52 [(2, 89), (0, x1), (0, x2), (0, x3)] [(0, x2)] (mk E c s (hh g)))
      else
        (Ev prog clsT X d mc247 33 [(2, 89), (0, x1), (0, x2), (0, x3)] [(0, x2)] (mk E c s (hh g))))
      else none))
  else
    (if inb x3 10 = true then
      (if cmpI .ne ((g 90 (Int.toNat x3))) 0 = true then
      (Ev prog clsT X d mc247 52 [(2, 89), (0, x1), (0, x2), (0, x3)] [(0, x2)] (mk E c s (hh g)))
    else
      (if cmpI .ne x1 2 = true then
        (Ev prog clsT X d mc247 33 [(2, 89), (0, x1), (0, x2), (0, x3)] [(0, x2)] (mk E c s (hh g)))
      else
        (if inb x3 10 = true then
          (if cmpI .ne ((g 106 (Int.toNat x3))) 0 = true then
          (Ev prog clsT X d mc247 52 [(2, 89), (0, x1), (0, x2), (0, x3)] [(0, x2)] (mk E c s (hh g)))
        else
          (Ev prog clsT X d mc247 33 [(2, 89), (0, x1), (0, x2), (0, x3)] [(0, x2)] (mk E c s (hh g))))
        else none)))
    else none))) :=
  (evk_at (r := (if cmpI .ge x3 10 = true then
  (Ev prog clsT X d mc247 61 [(2, 89), (0, x1), (0, x2), (0, 0)] [] (mk E c s (hh g)))
else
  (if cmpI .ne x1 0 = true then
    (if cmpI .ne x1 2 = true then
      (Ev prog clsT X d mc247 33 [(2, 89), (0, x1), (0, x2), (0, x3)] [(0, x2)] (mk E c s (hh g)))
    else
      ((fget 6250 ((mk E c s (hh g))) 89).bind fun v1 =>
        (aget X 102 ((mk E c s (hh g))) v1 x3).bind fun v2 =>
        if cmpI .ne v2 0 = true then
        (Ev prog clsT X d mc247 52 [(2, 89), (0, x1), (0, x2), (0, x3)] [(0, x2)] (mk E c s (hh g)))
      else
        (Ev prog clsT X d mc247 33 [(2, 89), (0, x1), (0, x2), (0, x3)] [(0, x2)] (mk E c s (hh g)))))
  else
    ((fget 6150 ((mk E c s (hh g))) 89).bind fun v3 =>
      (aget X 102 ((mk E c s (hh g))) v3 x3).bind fun v4 =>
      if cmpI .ne v4 0 = true then
      (Ev prog clsT X d mc247 52 [(2, 89), (0, x1), (0, x2), (0, x3)] [(0, x2)] (mk E c s (hh g)))
    else
      (if cmpI .ne x1 2 = true then
        (Ev prog clsT X d mc247 33 [(2, 89), (0, x1), (0, x2), (0, x3)] [(0, x2)] (mk E c s (hh g)))
      else
        ((fget 6250 ((mk E c s (hh g))) 89).bind fun v5 =>
          (aget X 102 ((mk E c s (hh g))) v5 x3).bind fun v6 =>
          if cmpI .ne v6 0 = true then
          (Ev prog clsT X d mc247 52 [(2, 89), (0, x1), (0, x2), (0, x3)] [(0, x2)] (mk E c s (hh g)))
        else
          (Ev prog clsT X d mc247 33 [(2, 89), (0, x1), (0, x2), (0, x3)] [(0, x2)] (mk E c s (hh g))))))))) X [0, 7, 14, 33, 52, 54, 61, 82, 114] 21 rfl).trans (by simp (maxSteps := 10000000) only [↓A106, ↓A90, ↓F6150_89, ↓F6250_89, bindI, Option.bind_some, if_true_, and_self, ite_true, true_and, true_or, or_true])
set_option maxRecDepth 100000 in
theorem r247_33 (d : Nat) (x1 x2 x3 s0 : Int) : Ev prog clsT X d mc247 33 [(2, 89), (0, x1), (0, x2), (0, x3)] [(0, s0)] (mk E c s (hh g)) =
  (if cmpI .ne x1 6 = true then
  (if cmpI .ne x1 7 = true then
    (Ev prog clsT X d mc247 54 [(2, 89), (0, x1), (0, x2), (0, x3)] [(0, s0)] (mk E c s (hh g)))
  else
    (if cmpI .ge x3 4 = true then
      (Ev prog clsT X d mc247 54 [(2, 89), (0, x1), (0, x2), (0, x3)] [(0, s0)] (mk E c s (hh g)))
    else
      (if inb x3 4 = true then
        (if cmpI .eq ((g 127 (Int.toNat x3))) 0 = true then
        (Ev prog clsT X d mc247 54 [(2, 89), (0, x1), (0, x2), (0, x3)] [(0, s0)] (mk E c s (hh g)))
      else
        (Ev prog clsT X d mc247 52 [(2, 89), (0, x1), (0, x2), (0, x3)] [(0, s0)] (mk E c s (hh g))))
      else none)))
else
  (if inb x3 10 = true then
    (if cmpI .ge ((g 130 (Int.toNat x3))) 0 = true then
    (Ev prog clsT X d mc247 52 [(2, 89), (0, x1), (0, x2), (0, x3)] [(0, s0)] (mk E c s (hh g)))
  else
    (if cmpI .ne x1 7 = true then
      (Ev prog clsT X d mc247 54 [(2, 89), (0, x1), (0, x2), (0, x3)] [(0, s0)] (mk E c s (hh g)))
    else
      (if cmpI .ge x3 4 = true then
        (Ev prog clsT X d mc247 54 [(2, 89), (0, x1), (0, x2), (0, x3)] [(0, s0)] (mk E c s (hh g)))
      else
        (if inb x3 4 = true then
          (if cmpI .eq ((g 127 (Int.toNat x3))) 0 = true then
          (Ev prog clsT X d mc247 54 [(2, 89), (0, x1), (0, x2), (0, x3)] [(0, s0)] (mk E c s (hh g)))
        else
          (Ev prog clsT X d mc247 52 [(2, 89), (0, x1), (0, x2), (0, x3)] [(0, s0)] (mk E c s (hh g))))
        else none))))
  else none)) :=
  (evk_at (r := (if cmpI .ne x1 6 = true then
  (if cmpI .ne x1 7 = true then
    (Ev prog clsT X d mc247 54 [(2, 89), (0, x1), (0, x2), (0, x3)] [(0, s0)] (mk E c s (hh g)))
  else
    (if cmpI .ge x3 4 = true then
      (Ev prog clsT X d mc247 54 [(2, 89), (0, x1), (0, x2), (0, x3)] [(0, s0)] (mk E c s (hh g)))
    else
      ((fget 6342 ((mk E c s (hh g))) 89).bind fun v1 =>
        (aget X 102 ((mk E c s (hh g))) v1 x3).bind fun v2 =>
        if cmpI .eq v2 0 = true then
        (Ev prog clsT X d mc247 54 [(2, 89), (0, x1), (0, x2), (0, x3)] [(0, s0)] (mk E c s (hh g)))
      else
        (Ev prog clsT X d mc247 52 [(2, 89), (0, x1), (0, x2), (0, x3)] [(0, s0)] (mk E c s (hh g))))))
else
  ((fget 6354 ((mk E c s (hh g))) 89).bind fun v3 =>
    (aget X 100 ((mk E c s (hh g))) v3 x3).bind fun v4 =>
    if cmpI .ge v4 0 = true then
    (Ev prog clsT X d mc247 52 [(2, 89), (0, x1), (0, x2), (0, x3)] [(0, s0)] (mk E c s (hh g)))
  else
    (if cmpI .ne x1 7 = true then
      (Ev prog clsT X d mc247 54 [(2, 89), (0, x1), (0, x2), (0, x3)] [(0, s0)] (mk E c s (hh g)))
    else
      (if cmpI .ge x3 4 = true then
        (Ev prog clsT X d mc247 54 [(2, 89), (0, x1), (0, x2), (0, x3)] [(0, s0)] (mk E c s (hh g)))
      else
        ((fget 6342 ((mk E c s (hh g))) 89).bind fun v5 =>
          (aget X 102 ((mk E c s (hh g))) v5 x3).bind fun v6 =>
          if cmpI .eq v6 0 = true then
          (Ev prog clsT X d mc247 54 [(2, 89), (0, x1), (0, x2), (0, x3)] [(0, s0)] (mk E c s (hh g)))
        else
          (Ev prog clsT X d mc247 52 [(2, 89), (0, x1), (0, x2), (0, x3)] [(0, s0)] (mk E c s (hh g))))))))) X [0, 7, 14, 33, 52, 54, 61, 82, 114] 21 rfl).trans (by simp (maxSteps := 10000000) only [↓A127, ↓A130, ↓F6342_89, ↓F6354_89, bindI, Option.bind_some, if_true_, and_self, ite_true, true_and, true_or, or_true])
set_option maxRecDepth 100000 in
theorem r247_52 (d : Nat) (x1 x2 x3 s0 : Int) : Ev prog clsT X d mc247 52 [(2, 89), (0, x1), (0, x2), (0, x3)] [(0, s0)] (mk E c s (hh g)) =
  (Ev prog clsT X d mc247 14 [(2, 89), (0, x1), (0, (w32 (s0 + 1))), (0, (w32 (x3 + 1)))] [] (mk E c s (hh g))) :=
  evk_at X [0, 7, 14, 33, 52, 54, 61, 82, 114] 8 rfl
set_option maxRecDepth 100000 in
theorem r247_54 (d : Nat) (x1 x2 x3 s0 : Int) : Ev prog clsT X d mc247 54 [(2, 89), (0, x1), (0, x2), (0, x3)] [(0, s0)] (mk E c s (hh g)) =
  (Ev prog clsT X d mc247 14 [(2, 89), (0, x1), (0, (w32 (s0 + 0))), (0, (w32 (x3 + 1)))] [] (mk E c s (hh g))) :=
  evk_at X [0, 7, 14, 33, 52, 54, 61, 82, 114] 7 rfl
set_option maxRecDepth 100000 in
theorem r247_61 (d : Nat) (x1 x2 x3 : Int) : Ev prog clsT X d mc247 61 [(2, 89), (0, x1), (0, x2), (0, x3)] [] (mk E c s (hh g)) =
  (if cmpI .ge x3 40 = true then
  (Ev prog clsT X d mc247 82 [(2, 89), (0, x1), (0, x2), (0, 0)] [] (mk E c s (hh g)))
else
  (if cmpI .ne x1 1 = true then
    (Ev prog clsT X d mc247 82 [(2, 89), (0, x1), (0, x2), (0, 0)] [] (mk E c s (hh g)))
  else
    (if inb x3 40 = true then
      (if cmpI .eq ((g 94 (Int.toNat x3))) 0 = true then
      (Ev prog clsT X d mc247 61 [(2, 89), (0, x1), (0, (w32 (x2 + 0))), (0, (w32 (x3 + 1)))] [] (mk E c s (hh g)))
    else
      (Ev prog clsT X d mc247 61 [(2, 89), (0, x1), (0, (w32 (x2 + 1))), (0, (w32 (x3 + 1)))] [] (mk E c s (hh g))))
    else none))) :=
  (evk_at (r := (if cmpI .ge x3 40 = true then
  (Ev prog clsT X d mc247 82 [(2, 89), (0, x1), (0, x2), (0, 0)] [] (mk E c s (hh g)))
else
  (if cmpI .ne x1 1 = true then
    (Ev prog clsT X d mc247 82 [(2, 89), (0, x1), (0, x2), (0, 0)] [] (mk E c s (hh g)))
  else
    ((fget 6166 ((mk E c s (hh g))) 89).bind fun v1 =>
      (aget X 102 ((mk E c s (hh g))) v1 x3).bind fun v2 =>
      if cmpI .eq v2 0 = true then
      (Ev prog clsT X d mc247 61 [(2, 89), (0, x1), (0, (w32 (x2 + 0))), (0, (w32 (x3 + 1)))] [] (mk E c s (hh g)))
    else
      (Ev prog clsT X d mc247 61 [(2, 89), (0, x1), (0, (w32 (x2 + 1))), (0, (w32 (x3 + 1)))] [] (mk E c s (hh g))))))) X [0, 7, 14, 33, 52, 54, 61, 82, 114] 20 rfl).trans (by simp (maxSteps := 10000000) only [↓A94, ↓F6166_89, bindI, Option.bind_some, if_true_, and_self, ite_true, true_and, true_or, or_true])
set_option maxRecDepth 100000 in
theorem r247_82 (d : Nat) (x1 x2 x3 : Int) : Ev prog clsT X d mc247 82 [(2, 89), (0, x1), (0, x2), (0, x3)] [] (mk E c s (hh g)) =
  (if cmpI .ge x3 ((g 89 10)) = true then
  (if cmpI .ne x1 3 = true then
    (if cmpI .ne x1 8 = true then
      (if cmpI .ne x1 9 = true then
        (some ((0, x2), ((mk E c s (hh g)))))
      else
        (some ((0, (g 89 17)), ((mk E c s (hh g))))))
    else
      (some ((0, (g 109 10)), ((mk E c s (hh g))))))
  else
    (some ((0, (g 89 10)), ((mk E c s (hh g))))))
else
  (if cmpI .ne x1 10 = true then
    (if cmpI .ne x1 4 = true then
      (if cmpI .ne x1 5 = true then
        (Ev prog clsT X d mc247 82 [(2, 89), (0, x1), (0, (w32 (x2 + 0))), (0, (w32 (x3 + 1)))] [] (mk E c s (hh g)))
      else
        (if inb x3 40 = true then
          (if cmpI .ne ((g 104 (Int.toNat x3))) 0 = true then
          (Ev prog clsT X d mc247 82 [(2, 89), (0, x1), (0, (w32 (x2 + 0))), (0, (w32 (x3 + 1)))] [] (mk E c s (hh g)))
        else
          ((Call prog clsT X d 188 [(2, 89), (0, x3)] ((mk E c s (hh g)))).bind fun r1 => if r1.1.1 = 4 then none else
            Ev prog clsT X d mc247 114 [(2, 89), (0, x1), (0, x2), (0, x3)] (pushR r1.1 [(0, x2)]) r1.2))
        else none))
    else
      (if inb x3 40 = true then
        (if cmpI .eq ((g 104 (Int.toNat x3))) 0 = true then
        (Ev prog clsT X d mc247 82 [(2, 89), (0, x1), (0, (w32 (x2 + 1))), (0, (w32 (x3 + 1)))] [] (mk E c s (hh g)))
      else
        (if cmpI .ne x1 5 = true then
          (Ev prog clsT X d mc247 82 [(2, 89), (0, x1), (0, (w32 (x2 + 0))), (0, (w32 (x3 + 1)))] [] (mk E c s (hh g)))
        else
          (if inb x3 40 = true then
            (if cmpI .ne ((g 104 (Int.toNat x3))) 0 = true then
            (Ev prog clsT X d mc247 82 [(2, 89), (0, x1), (0, (w32 (x2 + 0))), (0, (w32 (x3 + 1)))] [] (mk E c s (hh g)))
          else
            ((Call prog clsT X d 188 [(2, 89), (0, x3)] ((mk E c s (hh g)))).bind fun r2 => if r2.1.1 = 4 then none else
              Ev prog clsT X d mc247 114 [(2, 89), (0, x1), (0, x2), (0, x3)] (pushR r2.1 [(0, x2)]) r2.2))
          else none)))
      else none))
  else
    (if inb x3 40 = true then
      (Ev prog clsT X d mc247 82 [(2, 89), (0, x1), (0, (w32 (x2 + ((g 103 (Int.toNat x3)))))), (0, (w32 (x3 + 1)))] [] (mk E c s (hh g)))
    else none))) :=
  (evk_at (r := ((fget 6184 ((mk E c s (hh g))) 89).bind fun v1 =>
  if cmpI .ge x3 v1 = true then
  (if cmpI .ne x1 3 = true then
    (if cmpI .ne x1 8 = true then
      (if cmpI .ne x1 9 = true then
        (some ((0, x2), (mk E c s (hh g))))
      else
        ((fget 6212 ((mk E c s (hh g))) 89).bind fun v2 =>
          some ((0, v2), (mk E c s (hh g)))))
    else
      ((fget 6262 ((mk E c s (hh g))) 89).bind fun v3 =>
        (aget X 100 ((mk E c s (hh g))) v3 10).bind fun v4 =>
        some ((0, v4), (mk E c s (hh g)))))
  else
    ((fget 6184 ((mk E c s (hh g))) 89).bind fun v5 =>
      some ((0, v5), (mk E c s (hh g)))))
else
  (if cmpI .ne x1 10 = true then
    (if cmpI .ne x1 4 = true then
      (if cmpI .ne x1 5 = true then
        (Ev prog clsT X d mc247 82 [(2, 89), (0, x1), (0, (w32 (x2 + 0))), (0, (w32 (x3 + 1)))] [] (mk E c s (hh g)))
      else
        ((fget 6210 ((mk E c s (hh g))) 89).bind fun v6 =>
          (aget X 102 ((mk E c s (hh g))) v6 x3).bind fun v7 =>
          if cmpI .ne v7 0 = true then
          (Ev prog clsT X d mc247 82 [(2, 89), (0, x1), (0, (w32 (x2 + 0))), (0, (w32 (x3 + 1)))] [] (mk E c s (hh g)))
        else
          (if (2 : Nat) = 2 ∧ rcv ((mk E c s (hh g))) 89 13 = true then
            ((Call prog clsT X d 188 [(2, 89), (0, x3)] ((mk E c s (hh g)))).bind fun r8 => if r8.1.1 = 4 then none else
            Ev prog clsT X d mc247 114 [(2, 89), (0, x1), (0, x2), (0, x3)] (pushR r8.1 [(0, x2)]) r8.2) else none)))
    else
      ((fget 6210 ((mk E c s (hh g))) 89).bind fun v9 =>
        (aget X 102 ((mk E c s (hh g))) v9 x3).bind fun v10 =>
        if cmpI .eq v10 0 = true then
        (Ev prog clsT X d mc247 82 [(2, 89), (0, x1), (0, (w32 (x2 + 1))), (0, (w32 (x3 + 1)))] [] (mk E c s (hh g)))
      else
        (if cmpI .ne x1 5 = true then
          (Ev prog clsT X d mc247 82 [(2, 89), (0, x1), (0, (w32 (x2 + 0))), (0, (w32 (x3 + 1)))] [] (mk E c s (hh g)))
        else
          ((fget 6210 ((mk E c s (hh g))) 89).bind fun v11 =>
            (aget X 102 ((mk E c s (hh g))) v11 x3).bind fun v12 =>
            if cmpI .ne v12 0 = true then
            (Ev prog clsT X d mc247 82 [(2, 89), (0, x1), (0, (w32 (x2 + 0))), (0, (w32 (x3 + 1)))] [] (mk E c s (hh g)))
          else
            (if (2 : Nat) = 2 ∧ rcv ((mk E c s (hh g))) 89 13 = true then
              ((Call prog clsT X d 188 [(2, 89), (0, x3)] ((mk E c s (hh g)))).bind fun r13 => if r13.1.1 = 4 then none else
              Ev prog clsT X d mc247 114 [(2, 89), (0, x1), (0, x2), (0, x3)] (pushR r13.1 [(0, x2)]) r13.2) else none)))))
  else
    ((fget 6206 ((mk E c s (hh g))) 89).bind fun v14 =>
      (aget X 100 ((mk E c s (hh g))) v14 x3).bind fun v15 =>
      Ev prog clsT X d mc247 82 [(2, 89), (0, x1), (0, (w32 (x2 + v15))), (0, (w32 (x3 + 1)))] [] (mk E c s (hh g)))))) X [0, 7, 14, 33, 52, 54, 61, 82, 114] 31 rfl).trans (by simp (maxSteps := 10000000) only [R89_13, inbL 10 13 rfl, tn10, ↓A103, ↓A104, ↓A109, ↓F6184_89, ↓F6206_89, ↓F6210_89, ↓F6212_89, ↓F6262_89, bindI, Option.bind_some, if_true_, and_self, ite_true, true_and, true_or, or_true])
set_option maxRecDepth 100000 in
theorem r247_114 (d : Nat) (x1 x2 x3 s0 s1 : Int) : Ev prog clsT X d mc247 114 [(2, 89), (0, x1), (0, x2), (0, x3)] [(0, s1), (0, s0)] (mk E c s (hh g)) =
  (if cmpI .lt s1 0 = true then
  (Ev prog clsT X d mc247 82 [(2, 89), (0, x1), (0, (w32 (s0 + 0))), (0, (w32 (x3 + 1)))] [] (mk E c s (hh g)))
else
  (Ev prog clsT X d mc247 82 [(2, 89), (0, x1), (0, (w32 (s0 + 1))), (0, (w32 (x3 + 1)))] [] (mk E c s (hh g)))) :=
  evk_at X [0, 7, 14, 33, 52, 54, 61, 82, 114] 9 rfl
set_option maxRecDepth 100000 in
theorem r248_0 (d : Nat) (x0 x1 : Int) : Ev prog clsT X d mc248 0 [(2, x0), (0, x1), (3, 0), (3, 0)] [] (mk E c s (hh g)) =
  ((alen X ((mk E c s (hh g))) x0).bind fun v1 =>
  Ev prog clsT X d mc248 5 [(2, x0), (0, x1), (0, 0), (0, v1)] [] (mk E c s (hh g))) :=
  evk_at X [0, 5] 7 rfl
set_option maxRecDepth 100000 in
theorem rc248_ (d : Nat) (x0 x1 : Int) : Call prog clsT X (d + 1) 248 [(2, x0), (0, x1)] (mk E c s (hh g)) =
  ((alen X ((mk E c s (hh g))) x0).bind fun v1 =>
  Ev prog clsT X d mc248 5 [(2, x0), (0, x1), (0, 0), (0, v1)] [] (mk E c s (hh g))) :=
  (show Call prog clsT X (d + 1) 248 [(2, x0), (0, x1)] (mk E c s (hh g)) = Ev prog clsT X d mc248 0 [(2, x0), (0, x1), (3, 0), (3, 0)] [] (mk E c s (hh g)) from rfl).trans (r248_0 X E c s g d x0 x1 )
set_option maxRecDepth 100000 in
theorem r248_5 (d : Nat) (x0 x1 x2 x3 : Int) : Ev prog clsT X d mc248 5 [(2, x0), (0, x1), (0, x2), (0, x3)] [] (mk E c s (hh g)) =
  (if cmpI .ge x2 x3 = true then
  (some ((3, 0), ((mk E c s (hh g)))))
else
  ((aput 100 ((mk E c s (hh g))) x0 x2 (x1)).bind fun M1 =>
    Ev prog clsT X d mc248 5 [(2, x0), (0, x1), (0, (w32 (x2 + 1))), (0, x3)] [] M1)) :=
  (evk_at (r := (if cmpI .ge x2 x3 = true then
  (some ((3, 0), (mk E c s (hh g))))
else
  ((aput 100 ((mk E c s (hh g))) x0 x2 (x1)).bind fun M1 =>
    Ev prog clsT X d mc248 5 [(2, x0), (0, x1), (0, (w32 (x2 + 1))), (0, x3)] [] M1))) X [0, 5] 11 rfl).trans (by simp (maxSteps := 10000000) only [bindI, Option.bind_some, if_true_, and_self, ite_true, true_and, true_or, or_true])
set_option maxRecDepth 100000 in
theorem r249_0 (d : Nat) (x0 x1 : Int) : Ev prog clsT X d mc249 0 [(2, x0), (0, x1)] [] (mk E c s (hh g)) =
  (if (2 : Nat) = 2 ∧ rcv ((mk E c s (hh g))) x0 14 = true then
  ((Call prog clsT X d 250 [(2, x0), (0, x1), (0, 0)] ((mk E c s (hh g)))).bind fun r1 => if r1.1.1 = 4 then none else
  Ev prog clsT X d mc249 4 [(2, x0), (0, x1)] (pushR r1.1 []) r1.2) else none) :=
  evk_at X [0, 4] 5 rfl
set_option maxRecDepth 100000 in
theorem rc249_ (d : Nat) (x0 x1 : Int) : Call prog clsT X (d + 1) 249 [(2, x0), (0, x1)] (mk E c s (hh g)) =
  (if (2 : Nat) = 2 ∧ rcv ((mk E c s (hh g))) x0 14 = true then
  ((Call prog clsT X d 250 [(2, x0), (0, x1), (0, 0)] ((mk E c s (hh g)))).bind fun r1 => if r1.1.1 = 4 then none else
  Ev prog clsT X d mc249 4 [(2, x0), (0, x1)] (pushR r1.1 []) r1.2) else none) :=
  (show Call prog clsT X (d + 1) 249 [(2, x0), (0, x1)] (mk E c s (hh g)) = Ev prog clsT X d mc249 0 [(2, x0), (0, x1)] [] (mk E c s (hh g)) from rfl).trans (r249_0 X E c s g d x0 x1 )
set_option maxRecDepth 100000 in
theorem r249_4 (d : Nat) (x0 x1 s0 : Int) : Ev prog clsT X d mc249 4 [(2, x0), (0, x1)] [(0, s0)] (mk E c s (hh g)) =
  (some ((0, s0), ((mk E c s (hh g))))) :=
  (evk_at (r := (some ((0, s0), (mk E c s (hh g))))) X [0, 4] 2 rfl).trans (by simp (maxSteps := 10000000) only [bindI, Option.bind_some, if_true_, and_self, ite_true, true_and, true_or, or_true])
set_option maxRecDepth 100000 in
theorem r250_0 (d : Nat) (x0 x1 x2 : Int) : Ev prog clsT X d mc250 0 [(2, x0), (0, x1), (0, x2)] [] (mk E c s (hh g)) =
  (if (2 : Nat) = 2 ∧ rcv ((mk E c s (hh g))) x0 14 = true then
  ((Call prog clsT X d 251 [(2, x0)] ((mk E c s (hh g)))).bind fun r1 => if r1.1.1 = 4 then none else
  Ev prog clsT X d mc250 2 [(2, x0), (0, x1), (0, x2)] (pushR r1.1 []) r1.2) else none) :=
  evk_at X [0, 2, 9, 10, 17] 3 rfl
set_option maxRecDepth 100000 in
theorem rc250_ (d : Nat) (x0 x1 x2 : Int) : Call prog clsT X (d + 1) 250 [(2, x0), (0, x1), (0, x2)] (mk E c s (hh g)) =
  (if (2 : Nat) = 2 ∧ rcv ((mk E c s (hh g))) x0 14 = true then
  ((Call prog clsT X d 251 [(2, x0)] ((mk E c s (hh g)))).bind fun r1 => if r1.1.1 = 4 then none else
  Ev prog clsT X d mc250 2 [(2, x0), (0, x1), (0, x2)] (pushR r1.1 []) r1.2) else none) :=
  (show Call prog clsT X (d + 1) 250 [(2, x0), (0, x1), (0, x2)] (mk E c s (hh g)) = Ev prog clsT X d mc250 0 [(2, x0), (0, x1), (0, x2)] [] (mk E c s (hh g)) from rfl).trans (r250_0 X E c s g d x0 x1 x2 )
set_option maxRecDepth 100000 in
theorem r250_2 (d : Nat) (x0 x1 x2 s0 : Int) : Ev prog clsT X d mc250 2 [(2, x0), (0, x1), (0, x2)] [(0, s0)] (mk E c s (hh g)) =
  (if cmpI .eq s0 0 = true then
  ((fget 10000 ((mk E c s (hh g))) x0).bind fun v1 =>
    if (2 : Nat) = 2 ∧ rcv ((mk E c s (hh g))) x0 14 = true then
    ((Call prog clsT X d 252 [(2, x0)] ((mk E c s (hh g)))).bind fun r2 => if r2.1.1 = 4 then none else
    Ev prog clsT X d mc250 17 [(2, x0), (0, x1), (0, x2)] (pushR r2.1 [(0, x2), (0, x1), (2, v1)]) r2.2) else none)
else
  ((fget 10000 ((mk E c s (hh g))) x0).bind fun v3 =>
    if (2 : Nat) = 2 ∧ rcv ((mk E c s (hh g))) x0 14 = true then
    ((Call prog clsT X d 252 [(2, x0)] ((mk E c s (hh g)))).bind fun r4 => if r4.1.1 = 4 then none else
    Ev prog clsT X d mc250 9 [(2, x0), (0, x1), (0, x2)] (pushR r4.1 [(0, x2), (0, x1), (2, v3)]) r4.2) else none)) :=
  evk_at X [0, 2, 9, 10, 17] 8 rfl
set_option maxRecDepth 100000 in
theorem r250_9 (d : Nat) (x0 x1 x2 s0 s1 s2 s3 : Int) : Ev prog clsT X d mc250 9 [(2, x0), (0, x1), (0, x2)] [(0, s3), (0, s2), (0, s1), (2, s0)] (mk E c s (hh g)) =
  ((Call prog clsT X d 256 [(2, s0), (0, s1), (0, s2), (0, s3)] ((mk E c s (hh g)))).bind fun r1 => if r1.1.1 = 4 then none else
  Ev prog clsT X d mc250 10 [(2, x0), (0, x1), (0, x2)] (pushR r1.1 []) r1.2) :=
  evk_at X [0, 2, 9, 10, 17] 2 rfl
set_option maxRecDepth 100000 in
theorem r250_10 (d : Nat) (x0 x1 x2 s0 : Int) : Ev prog clsT X d mc250 10 [(2, x0), (0, x1), (0, x2)] [(0, s0)] (mk E c s (hh g)) =
  (some ((0, s0), ((mk E c s (hh g))))) :=
  (evk_at (r := (some ((0, s0), (mk E c s (hh g))))) X [0, 2, 9, 10, 17] 3 rfl).trans (by simp (maxSteps := 10000000) only [bindI, Option.bind_some, if_true_, and_self, ite_true, true_and, true_or, or_true])
set_option maxRecDepth 100000 in
theorem r250_17 (d : Nat) (x0 x1 x2 s0 s1 s2 s3 : Int) : Ev prog clsT X d mc250 17 [(2, x0), (0, x1), (0, x2)] [(0, s3), (0, s2), (0, s1), (2, s0)] (mk E c s (hh g)) =
  (none) :=
  evk_at X [0, 2, 9, 10, 17] 2 rfl
set_option maxRecDepth 100000 in
theorem r251_0 (d : Nat) (x0 : Int) : Ev prog clsT X d mc251 0 [(2, x0)] [] (mk E c s (hh g)) =
  (if cmpI .eq 1 0 = true then
  (some ((0, 0), ((mk E c s (hh g)))))
else
  ((fget 10001 ((mk E c s (hh g))) x0).bind fun v1 =>
    if cmpI .ne v1 0 = true then
    (some ((0, 0), ((mk E c s (hh g)))))
  else
    (some ((0, 1), ((mk E c s (hh g))))))) :=
  (evk_at (r := (if cmpI .eq 1 0 = true then
  (some ((0, 0), (mk E c s (hh g))))
else
  ((fget 10001 ((mk E c s (hh g))) x0).bind fun v1 =>
    if cmpI .ne v1 0 = true then
    (some ((0, 0), (mk E c s (hh g))))
  else
    (some ((0, 1), (mk E c s (hh g))))))) X [0] 9 rfl).trans (by simp (maxSteps := 10000000) only [bindI, Option.bind_some, if_true_, and_self, ite_true, true_and, true_or, or_true])
set_option maxRecDepth 100000 in
theorem rc251_ (d : Nat) (x0 : Int) : Call prog clsT X (d + 1) 251 [(2, x0)] (mk E c s (hh g)) =
  (if cmpI .eq 1 0 = true then
  (some ((0, 0), ((mk E c s (hh g)))))
else
  ((fget 10001 ((mk E c s (hh g))) x0).bind fun v1 =>
    if cmpI .ne v1 0 = true then
    (some ((0, 0), ((mk E c s (hh g)))))
  else
    (some ((0, 1), ((mk E c s (hh g))))))) :=
  (show Call prog clsT X (d + 1) 251 [(2, x0)] (mk E c s (hh g)) = Ev prog clsT X d mc251 0 [(2, x0)] [] (mk E c s (hh g)) from rfl).trans (r251_0 X E c s g d x0 )
set_option maxRecDepth 100000 in
theorem r252_0 (d : Nat) (x0 : Int) : Ev prog clsT X d mc252 0 [(2, x0)] [] (mk E c s (hh g)) =
  ((fget 10000 ((mk E c s (hh g))) x0).bind fun v1 =>
  (alen X ((mk E c s (hh g))) v1).bind fun v2 =>
  if (2 : Nat) = 2 ∧ rcv ((mk E c s (hh g))) x0 14 = true then
  ((Call prog clsT X d 253 [(2, x0)] ((mk E c s (hh g)))).bind fun r3 => if r3.1.1 = 4 then none else
  Ev prog clsT X d mc252 5 [(2, x0)] (pushR r3.1 [(0, v2)]) r3.2) else none) :=
  evk_at X [0, 5] 6 rfl
set_option maxRecDepth 100000 in
theorem rc252_ (d : Nat) (x0 : Int) : Call prog clsT X (d + 1) 252 [(2, x0)] (mk E c s (hh g)) =
  ((fget 10000 ((mk E c s (hh g))) x0).bind fun v1 =>
  (alen X ((mk E c s (hh g))) v1).bind fun v2 =>
  if (2 : Nat) = 2 ∧ rcv ((mk E c s (hh g))) x0 14 = true then
  ((Call prog clsT X d 253 [(2, x0)] ((mk E c s (hh g)))).bind fun r3 => if r3.1.1 = 4 then none else
  Ev prog clsT X d mc252 5 [(2, x0)] (pushR r3.1 [(0, v2)]) r3.2) else none) :=
  (show Call prog clsT X (d + 1) 252 [(2, x0)] (mk E c s (hh g)) = Ev prog clsT X d mc252 0 [(2, x0)] [] (mk E c s (hh g)) from rfl).trans (r252_0 X E c s g d x0 )
set_option maxRecDepth 100000 in
theorem r252_5 (d : Nat) (x0 s0 s1 : Int) : Ev prog clsT X d mc252 5 [(2, x0)] [(0, s1), (0, s0)] (mk E c s (hh g)) =
  (some ((0, (ishr32 s0 s1)), ((mk E c s (hh g))))) :=
  (evk_at (r := (some ((0, (ishr32 s0 s1)), (mk E c s (hh g))))) X [0, 5] 3 rfl).trans (by simp (maxSteps := 10000000) only [bindI, Option.bind_some, if_true_, and_self, ite_true, true_and, true_or, or_true])
end
