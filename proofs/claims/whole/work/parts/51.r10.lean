/-! Part 51.r10: printed by wip/whole/emit6.py: equations with the fixed cells put in. -/
section
variable (X : MExt) (E : List (Nat × Nat)) (c s : Nat) (g : Nat → Nat → Int)
set_option maxRecDepth 100000 in
theorem r253_0 (d : Nat) (x0 : Int) : Ev prog clsT X d mc253 0 [(2, x0)] [] (mk E c s (hh g)) =
  (if cmpI .eq 1 0 = true then
  (if (0 : Nat) = 0 ∧ is8 1 = true then some ((0, 1), ((mk E c s (hh g)))) else none)
else
  ((fget 10001 ((mk E c s (hh g))) x0).bind fun v1 =>
    if (0 : Nat) = 0 ∧ is8 v1 = true then some ((0, v1), ((mk E c s (hh g)))) else none)) :=
  (evk_at (r := (if cmpI .eq 1 0 = true then
  (if (0 : Nat) = 0 ∧ is8 1 = true then some ((0, 1), (mk E c s (hh g))) else none)
else
  ((fget 10001 ((mk E c s (hh g))) x0).bind fun v1 =>
    if (0 : Nat) = 0 ∧ is8 v1 = true then some ((0, v1), (mk E c s (hh g))) else none))) X [0] 7 rfl).trans (by simp (maxSteps := 10000000) only [bindI, Option.bind_some, if_true_, and_self, ite_true, true_and, true_or, or_true])
set_option maxRecDepth 100000 in
theorem rc253_ (d : Nat) (x0 : Int) : Call prog clsT X (d + 1) 253 [(2, x0)] (mk E c s (hh g)) =
  (if cmpI .eq 1 0 = true then
  (if (0 : Nat) = 0 ∧ is8 1 = true then some ((0, 1), ((mk E c s (hh g)))) else none)
else
  ((fget 10001 ((mk E c s (hh g))) x0).bind fun v1 =>
    if (0 : Nat) = 0 ∧ is8 v1 = true then some ((0, v1), ((mk E c s (hh g)))) else none)) :=
  (show Call prog clsT X (d + 1) 253 [(2, x0)] (mk E c s (hh g)) = Ev prog clsT X d mc253 0 [(2, x0)] [] (mk E c s (hh g)) from rfl).trans (r253_0 X E c s g d x0 )
set_option maxRecDepth 100000 in
theorem r254_0 (d : Nat) (x0 x1 : Int) : Ev prog clsT X d mc254 0 [(2, x0), (0, x1)] [] (mk E c s (hh g)) =
  (if (2 : Nat) = 2 ∧ rcv ((mk E c s (hh g))) x0 14 = true then
  ((Call prog clsT X d 251 [(2, x0)] ((mk E c s (hh g)))).bind fun r1 => if r1.1.1 = 4 then none else
  Ev prog clsT X d mc254 2 [(2, x0), (0, x1)] (pushR r1.1 []) r1.2) else none) :=
  evk_at X [0, 2, 7] 3 rfl
set_option maxRecDepth 100000 in
theorem rc254_ (d : Nat) (x0 x1 : Int) : Call prog clsT X (d + 1) 254 [(2, x0), (0, x1)] (mk E c s (hh g)) =
  (if (2 : Nat) = 2 ∧ rcv ((mk E c s (hh g))) x0 14 = true then
  ((Call prog clsT X d 251 [(2, x0)] ((mk E c s (hh g)))).bind fun r1 => if r1.1.1 = 4 then none else
  Ev prog clsT X d mc254 2 [(2, x0), (0, x1)] (pushR r1.1 []) r1.2) else none) :=
  (show Call prog clsT X (d + 1) 254 [(2, x0), (0, x1)] (mk E c s (hh g)) = Ev prog clsT X d mc254 0 [(2, x0), (0, x1)] [] (mk E c s (hh g)) from rfl).trans (r254_0 X E c s g d x0 x1 )
set_option maxRecDepth 100000 in
theorem r254_2 (d : Nat) (x0 x1 s0 : Int) : Ev prog clsT X d mc254 2 [(2, x0), (0, x1)] [(0, s0)] (mk E c s (hh g)) =
  (if cmpI .eq s0 0 = true then
  ((fget 10000 ((mk E c s (hh g))) x0).bind fun v1 =>
    none)
else
  ((fget 10000 ((mk E c s (hh g))) x0).bind fun v2 =>
    (Call prog clsT X d 259 [(2, v2), (0, x1)] ((mk E c s (hh g)))).bind fun r3 => if r3.1.1 = 4 then none else
    Ev prog clsT X d mc254 7 [(2, x0), (0, x1)] (pushR r3.1 []) r3.2)) :=
  evk_at X [0, 2, 7] 6 rfl
set_option maxRecDepth 100000 in
theorem r254_7 (d : Nat) (x0 x1 s0 : Int) : Ev prog clsT X d mc254 7 [(2, x0), (0, x1)] [(0, s0)] (mk E c s (hh g)) =
  (if (0 : Nat) = 0 ∧ is16 s0 = true then some ((0, s0), ((mk E c s (hh g)))) else none) :=
  (evk_at (r := (if (0 : Nat) = 0 ∧ is16 s0 = true then some ((0, s0), (mk E c s (hh g))) else none)) X [0, 2, 7] 2 rfl).trans (by simp (maxSteps := 10000000) only [bindI, Option.bind_some, if_true_, and_self, ite_true, true_and, true_or, or_true])
set_option maxRecDepth 100000 in
theorem r255_0 (d : Nat) (x0 x1 : Int) : Ev prog clsT X d mc255 0 [(0, x0), (0, x1)] [] (mk E c s (hh g)) =
  ((Call prog clsT X d 265 [(0, x0), (0, x1), (2, (-5))] ((mk E c s (hh g)))).bind fun r1 => if r1.1.1 = 4 then none else
  Ev prog clsT X d mc255 4 [(0, x0), (0, x1)] (pushR r1.1 []) r1.2) :=
  evk_at X [0, 4] 5 rfl
set_option maxRecDepth 100000 in
theorem rc255_ (d : Nat) (x0 x1 : Int) : Call prog clsT X (d + 1) 255 [(0, x0), (0, x1)] (mk E c s (hh g)) =
  ((Call prog clsT X d 265 [(0, x0), (0, x1), (2, (-5))] ((mk E c s (hh g)))).bind fun r1 => if r1.1.1 = 4 then none else
  Ev prog clsT X d mc255 4 [(0, x0), (0, x1)] (pushR r1.1 []) r1.2) :=
  (show Call prog clsT X (d + 1) 255 [(0, x0), (0, x1)] (mk E c s (hh g)) = Ev prog clsT X d mc255 0 [(0, x0), (0, x1)] [] (mk E c s (hh g)) from rfl).trans (r255_0 X E c s g d x0 x1 )
set_option maxRecDepth 100000 in
theorem r255_4 (d : Nat) (x0 x1 s0 : Int) : Ev prog clsT X d mc255 4 [(0, x0), (0, x1)] [(0, s0)] (mk E c s (hh g)) =
  (some ((3, 0), ((mk E c s (hh g))))) :=
  (evk_at (r := (some ((3, 0), (mk E c s (hh g))))) X [0, 4] 3 rfl).trans (by simp (maxSteps := 10000000) only [bindI, Option.bind_some, if_true_, and_self, ite_true, true_and, true_or, or_true])
set_option maxRecDepth 100000 in
theorem r256_0 (d : Nat) (x0 x1 x2 x3 : Int) : Ev prog clsT X d mc256 0 [(2, x0), (0, x1), (0, x2), (0, x3)] [] (mk E c s (hh g)) =
  ((Call prog clsT X d 257 [(0, x1)] ((mk E c s (hh g)))).bind fun r1 => if r1.1.1 = 4 then none else
  Ev prog clsT X d mc256 2 [(2, x0), (0, x1), (0, x2), (0, x3)] (pushR r1.1 []) r1.2) :=
  evk_at X [0, 2, 24] 3 rfl
set_option maxRecDepth 100000 in
theorem rc256_ (d : Nat) (x0 x1 x2 x3 : Int) : Call prog clsT X (d + 1) 256 [(2, x0), (0, x1), (0, x2), (0, x3)] (mk E c s (hh g)) =
  ((Call prog clsT X d 257 [(0, x1)] ((mk E c s (hh g)))).bind fun r1 => if r1.1.1 = 4 then none else
  Ev prog clsT X d mc256 2 [(2, x0), (0, x1), (0, x2), (0, x3)] (pushR r1.1 []) r1.2) :=
  (show Call prog clsT X (d + 1) 256 [(2, x0), (0, x1), (0, x2), (0, x3)] (mk E c s (hh g)) = Ev prog clsT X d mc256 0 [(2, x0), (0, x1), (0, x2), (0, x3)] [] (mk E c s (hh g)) from rfl).trans (r256_0 X E c s g d x0 x1 x2 x3 )
set_option maxRecDepth 100000 in
theorem r256_2 (d : Nat) (x0 x1 x2 x3 s0 : Int) : Ev prog clsT X d mc256 2 [(2, x0), (0, x1), (0, x2), (0, x3)] [(0, s0)] (mk E c s (hh g)) =
  (if cmpI .ne s0 0 = true then
  ((alen X ((mk E c s (hh g))) x0).bind fun v1 =>
    if cmpI .lt ((if x2 < 0 then 0 else x2)) ((if v1 < x3 then v1 else x3)) = true then
    ((Call prog clsT X d 258 [(2, x0), (0, x1), (0, (if x2 < 0 then 0 else x2)), (0, (if v1 < x3 then v1 else x3))] ((mk E c s (hh g)))).bind fun r2 => if r2.1.1 = 4 then none else
      Ev prog clsT X d mc256 24 [(2, x0), (0, x1), (0, (if x2 < 0 then 0 else x2)), (0, (if v1 < x3 then v1 else x3))] (pushR r2.1 []) r2.2)
  else
    (some ((0, (-1)), ((mk E c s (hh g))))))
else
  (some ((0, (-1)), ((mk E c s (hh g)))))) :=
  (evk_at (r := (if cmpI .ne s0 0 = true then
  ((alen X ((mk E c s (hh g))) x0).bind fun v1 =>
    if cmpI .lt ((if x2 < 0 then 0 else x2)) ((if v1 < x3 then v1 else x3)) = true then
    ((Call prog clsT X d 258 [(2, x0), (0, x1), (0, (if x2 < 0 then 0 else x2)), (0, (if v1 < x3 then v1 else x3))] ((mk E c s (hh g)))).bind fun r2 => if r2.1.1 = 4 then none else
      Ev prog clsT X d mc256 24 [(2, x0), (0, x1), (0, (if x2 < 0 then 0 else x2)), (0, (if v1 < x3 then v1 else x3))] (pushR r2.1 []) r2.2)
  else
    (some ((0, (-1)), (mk E c s (hh g)))))
else
  (some ((0, (-1)), (mk E c s (hh g)))))) X [0, 2, 24] 19 rfl).trans (by simp (maxSteps := 10000000) only [bindI, Option.bind_some, if_true_, and_self, ite_true, true_and, true_or, or_true])
set_option maxRecDepth 100000 in
theorem r256_24 (d : Nat) (x0 x1 x2 x3 s0 : Int) : Ev prog clsT X d mc256 24 [(2, x0), (0, x1), (0, x2), (0, x3)] [(0, s0)] (mk E c s (hh g)) =
  (some ((0, s0), ((mk E c s (hh g))))) :=
  (evk_at (r := (some ((0, s0), (mk E c s (hh g))))) X [0, 2, 24] 2 rfl).trans (by simp (maxSteps := 10000000) only [bindI, Option.bind_some, if_true_, and_self, ite_true, true_and, true_or, or_true])
set_option maxRecDepth 100000 in
theorem r257_0 (d : Nat) (x0 : Int) : Ev prog clsT X d mc257 0 [(0, x0)] [] (mk E c s (hh g)) =
  (if cmpI .lt x0 0 = true then
  (some ((0, 0), ((mk E c s (hh g)))))
else
  (if cmpI .gt x0 255 = true then
    (some ((0, 0), ((mk E c s (hh g)))))
  else
    (some ((0, 1), ((mk E c s (hh g))))))) :=
  (evk_at (r := (if cmpI .lt x0 0 = true then
  (some ((0, 0), (mk E c s (hh g))))
else
  (if cmpI .gt x0 255 = true then
    (some ((0, 0), (mk E c s (hh g))))
  else
    (some ((0, 1), (mk E c s (hh g))))))) X [0] 9 rfl).trans (by simp (maxSteps := 10000000) only [bindI, Option.bind_some, if_true_, and_self, ite_true, true_and, true_or, or_true])
set_option maxRecDepth 100000 in
theorem rc257_ (d : Nat) (x0 : Int) : Call prog clsT X (d + 1) 257 [(0, x0)] (mk E c s (hh g)) =
  (if cmpI .lt x0 0 = true then
  (some ((0, 0), ((mk E c s (hh g)))))
else
  (if cmpI .gt x0 255 = true then
    (some ((0, 0), ((mk E c s (hh g)))))
  else
    (some ((0, 1), ((mk E c s (hh g))))))) :=
  (show Call prog clsT X (d + 1) 257 [(0, x0)] (mk E c s (hh g)) = Ev prog clsT X d mc257 0 [(0, x0)] [] (mk E c s (hh g)) from rfl).trans (r257_0 X E c s g d x0 )
set_option maxRecDepth 100000 in
theorem r258_0 (d : Nat) (x0 x1 x2 x3 : Int) : Ev prog clsT X d mc258 0 [(2, x0), (0, x1), (0, x2), (0, x3), (3, 0), (3, 0)] [] (mk E c s (hh g)) =
  (Ev prog clsT X d mc258 5 [(2, x0), (0, x1), (0, x2), (0, x3), (0, (sx8 x1)), (0, x2)] [] (mk E c s (hh g))) :=
  evk_at X [0, 5] 7 rfl
set_option maxRecDepth 100000 in
theorem rc258_ (d : Nat) (x0 x1 x2 x3 : Int) : Call prog clsT X (d + 1) 258 [(2, x0), (0, x1), (0, x2), (0, x3)] (mk E c s (hh g)) =
  (Ev prog clsT X d mc258 5 [(2, x0), (0, x1), (0, x2), (0, x3), (0, (sx8 x1)), (0, x2)] [] (mk E c s (hh g))) :=
  (show Call prog clsT X (d + 1) 258 [(2, x0), (0, x1), (0, x2), (0, x3)] (mk E c s (hh g)) = Ev prog clsT X d mc258 0 [(2, x0), (0, x1), (0, x2), (0, x3), (3, 0), (3, 0)] [] (mk E c s (hh g)) from rfl).trans (r258_0 X E c s g d x0 x1 x2 x3 )
set_option maxRecDepth 100000 in
theorem r258_5 (d : Nat) (x0 x3 x4 x5 : Int) (w1 w2 : MV) : Ev prog clsT X d mc258 5 [(2, x0), w1, w2, (0, x3), (0, x4), (0, x5)] [] (mk E c s (hh g)) =
  (if cmpI .ge x5 x3 = true then
  (some ((0, (-1)), ((mk E c s (hh g)))))
else
  ((aget X 103 ((mk E c s (hh g))) x0 x5).bind fun v1 =>
    if cmpI .ne v1 x4 = true then
    (Ev prog clsT X d mc258 5 [(2, x0), (3, 0), (3, 0), (0, x3), (0, x4), (0, (w32 (x5 + 1)))] [] (mk E c s (hh g)))
  else
    (some ((0, x5), ((mk E c s (hh g))))))) :=
  (evk_at (r := (if cmpI .ge x5 x3 = true then
  (some ((0, (-1)), (mk E c s (hh g))))
else
  ((aget X 103 ((mk E c s (hh g))) x0 x5).bind fun v1 =>
    if cmpI .ne v1 x4 = true then
    (Ev prog clsT X d mc258 5 [(2, x0), (3, 0), (3, 0), (0, x3), (0, x4), (0, (w32 (x5 + 1)))] [] (mk E c s (hh g)))
  else
    (some ((0, x5), (mk E c s (hh g))))))) X [0, 5] 12 rfl).trans (by simp (maxSteps := 10000000) only [bindI, Option.bind_some, if_true_, and_self, ite_true, true_and, true_or, or_true])
set_option maxRecDepth 100000 in
theorem r259_0 (d : Nat) (x0 x1 : Int) : Ev prog clsT X d mc259 0 [(2, x0), (0, x1)] [] (mk E c s (hh g)) =
  ((alen X ((mk E c s (hh g))) x0).bind fun v1 =>
  (Call prog clsT X d 255 [(0, x1), (0, v1)] ((mk E c s (hh g)))).bind fun r2 => if r2.1.1 = 4 then none else
  Ev prog clsT X d mc259 4 [(2, x0), (0, x1)] (pushR r2.1 []) r2.2) :=
  evk_at X [0, 4] 5 rfl
set_option maxRecDepth 100000 in
theorem rc259_ (d : Nat) (x0 x1 : Int) : Call prog clsT X (d + 1) 259 [(2, x0), (0, x1)] (mk E c s (hh g)) =
  ((alen X ((mk E c s (hh g))) x0).bind fun v1 =>
  (Call prog clsT X d 255 [(0, x1), (0, v1)] ((mk E c s (hh g)))).bind fun r2 => if r2.1.1 = 4 then none else
  Ev prog clsT X d mc259 4 [(2, x0), (0, x1)] (pushR r2.1 []) r2.2) :=
  (show Call prog clsT X (d + 1) 259 [(2, x0), (0, x1)] (mk E c s (hh g)) = Ev prog clsT X d mc259 0 [(2, x0), (0, x1)] [] (mk E c s (hh g)) from rfl).trans (r259_0 X E c s g d x0 x1 )
set_option maxRecDepth 100000 in
theorem r259_4 (d : Nat) (x0 x1 : Int) : Ev prog clsT X d mc259 4 [(2, x0), (0, x1)] [] (mk E c s (hh g)) =
  ((aget X 103 ((mk E c s (hh g))) x0 x1).bind fun v1 =>
  if (0 : Nat) = 0 ∧ is16 ((c16 ((iand32 v1 255)))) = true then some ((0, (c16 ((iand32 v1 255)))), ((mk E c s (hh g)))) else none) :=
  (evk_at (r := ((aget X 103 ((mk E c s (hh g))) x0 x1).bind fun v1 =>
  if (0 : Nat) = 0 ∧ is16 ((c16 ((iand32 v1 255)))) = true then some ((0, (c16 ((iand32 v1 255)))), (mk E c s (hh g))) else none)) X [0, 4] 8 rfl).trans (by simp (maxSteps := 10000000) only [bindI, Option.bind_some, if_true_, and_self, ite_true, true_and, true_or, or_true])
set_option maxRecDepth 100000 in
theorem r260_0 (d : Nat) (x0 x1 : Int) : Ev prog clsT X d mc260 0 [(0, x0), (0, x1)] [] (mk E c s (hh g)) =
  (if cmpI .lt x0 x1 = true then
  (some ((0, x1), ((mk E c s (hh g)))))
else
  (some ((0, x0), ((mk E c s (hh g)))))) :=
  (evk_at (r := (if cmpI .lt x0 x1 = true then
  (some ((0, x1), (mk E c s (hh g))))
else
  (some ((0, x0), (mk E c s (hh g)))))) X [0] 7 rfl).trans (by simp (maxSteps := 10000000) only [bindI, Option.bind_some, if_true_, and_self, ite_true, true_and, true_or, or_true])
set_option maxRecDepth 100000 in
theorem rc260_ (d : Nat) (x0 x1 : Int) : Call prog clsT X (d + 1) 260 [(0, x0), (0, x1)] (mk E c s (hh g)) =
  (if cmpI .lt x0 x1 = true then
  (some ((0, x1), ((mk E c s (hh g)))))
else
  (some ((0, x0), ((mk E c s (hh g)))))) :=
  (show Call prog clsT X (d + 1) 260 [(0, x0), (0, x1)] (mk E c s (hh g)) = Ev prog clsT X d mc260 0 [(0, x0), (0, x1)] [] (mk E c s (hh g)) from rfl).trans (r260_0 X E c s g d x0 x1 )
set_option maxRecDepth 100000 in
theorem r261_0 (d : Nat) (x0 x1 : Int) : Ev prog clsT X d mc261 0 [(0, x0), (0, x1)] [] (mk E c s (hh g)) =
  (if cmpI .gt x0 x1 = true then
  (some ((0, x1), ((mk E c s (hh g)))))
else
  (some ((0, x0), ((mk E c s (hh g)))))) :=
  (evk_at (r := (if cmpI .gt x0 x1 = true then
  (some ((0, x1), (mk E c s (hh g))))
else
  (some ((0, x0), (mk E c s (hh g)))))) X [0] 7 rfl).trans (by simp (maxSteps := 10000000) only [bindI, Option.bind_some, if_true_, and_self, ite_true, true_and, true_or, or_true])
set_option maxRecDepth 100000 in
theorem rc261_ (d : Nat) (x0 x1 : Int) : Call prog clsT X (d + 1) 261 [(0, x0), (0, x1)] (mk E c s (hh g)) =
  (if cmpI .gt x0 x1 = true then
  (some ((0, x1), ((mk E c s (hh g)))))
else
  (some ((0, x0), ((mk E c s (hh g)))))) :=
  (show Call prog clsT X (d + 1) 261 [(0, x0), (0, x1)] (mk E c s (hh g)) = Ev prog clsT X d mc261 0 [(0, x0), (0, x1)] [] (mk E c s (hh g)) from rfl).trans (r261_0 X E c s g d x0 x1 )
set_option maxRecDepth 100000 in
theorem r262_0 (d : Nat) (x0 : Int) : Ev prog clsT X d mc262 0 [(0, x0)] [] (mk E c s (hh g)) =
  (some ((0, (iand32 ((w32 (((w32 (((iand32 ((w32 (((w32 (((iand32 ((w32 (x0 - ((iand32 ((iushr32 x0 1)) 1431655765))))) 858993459)) + ((iand32 ((iushr32 ((w32 (x0 - ((iand32 ((iushr32 x0 1)) 1431655765))))) 2)) 858993459))))) + ((iushr32 ((w32 (((iand32 ((w32 (x0 - ((iand32 ((iushr32 x0 1)) 1431655765))))) 858993459)) + ((iand32 ((iushr32 ((w32 (x0 - ((iand32 ((iushr32 x0 1)) 1431655765))))) 2)) 858993459))))) 4))))) 252645135)) + ((iushr32 ((iand32 ((w32 (((w32 (((iand32 ((w32 (x0 - ((iand32 ((iushr32 x0 1)) 1431655765))))) 858993459)) + ((iand32 ((iushr32 ((w32 (x0 - ((iand32 ((iushr32 x0 1)) 1431655765))))) 2)) 858993459))))) + ((iushr32 ((w32 (((iand32 ((w32 (x0 - ((iand32 ((iushr32 x0 1)) 1431655765))))) 858993459)) + ((iand32 ((iushr32 ((w32 (x0 - ((iand32 ((iushr32 x0 1)) 1431655765))))) 2)) 858993459))))) 4))))) 252645135)) 8))))) + ((iushr32 ((w32 (((iand32 ((w32 (((w32 (((iand32 ((w32 (x0 - ((iand32 ((iushr32 x0 1)) 1431655765))))) 858993459)) + ((iand32 ((iushr32 ((w32 (x0 - ((iand32 ((iushr32 x0 1)) 1431655765))))) 2)) 858993459))))) + ((iushr32 ((w32 (((iand32 ((w32 (x0 - ((iand32 ((iushr32 x0 1)) 1431655765))))) 858993459)) + ((iand32 ((iushr32 ((w32 (x0 - ((iand32 ((iushr32 x0 1)) 1431655765))))) 2)) 858993459))))) 4))))) 252645135)) + ((iushr32 ((iand32 ((w32 (((w32 (((iand32 ((w32 (x0 - ((iand32 ((iushr32 x0 1)) 1431655765))))) 858993459)) + ((iand32 ((iushr32 ((w32 (x0 - ((iand32 ((iushr32 x0 1)) 1431655765))))) 2)) 858993459))))) + ((iushr32 ((w32 (((iand32 ((w32 (x0 - ((iand32 ((iushr32 x0 1)) 1431655765))))) 858993459)) + ((iand32 ((iushr32 ((w32 (x0 - ((iand32 ((iushr32 x0 1)) 1431655765))))) 2)) 858993459))))) 4))))) 252645135)) 8))))) 16))))) 63)), ((mk E c s (hh g))))) :=
  (evk_at (r := (some ((0, (iand32 ((w32 (((w32 (((iand32 ((w32 (((w32 (((iand32 ((w32 (x0 - ((iand32 ((iushr32 x0 1)) 1431655765))))) 858993459)) + ((iand32 ((iushr32 ((w32 (x0 - ((iand32 ((iushr32 x0 1)) 1431655765))))) 2)) 858993459))))) + ((iushr32 ((w32 (((iand32 ((w32 (x0 - ((iand32 ((iushr32 x0 1)) 1431655765))))) 858993459)) + ((iand32 ((iushr32 ((w32 (x0 - ((iand32 ((iushr32 x0 1)) 1431655765))))) 2)) 858993459))))) 4))))) 252645135)) + ((iushr32 ((iand32 ((w32 (((w32 (((iand32 ((w32 (x0 - ((iand32 ((iushr32 x0 1)) 1431655765))))) 858993459)) + ((iand32 ((iushr32 ((w32 (x0 - ((iand32 ((iushr32 x0 1)) 1431655765))))) 2)) 858993459))))) + ((iushr32 ((w32 (((iand32 ((w32 (x0 - ((iand32 ((iushr32 x0 1)) 1431655765))))) 858993459)) + ((iand32 ((iushr32 ((w32 (x0 - ((iand32 ((iushr32 x0 1)) 1431655765))))) 2)) 858993459))))) 4))))) 252645135)) 8))))) + ((iushr32 ((w32 (((iand32 ((w32 (((w32 (((iand32 ((w32 (x0 - ((iand32 ((iushr32 x0 1)) 1431655765))))) 858993459)) + ((iand32 ((iushr32 ((w32 (x0 - ((iand32 ((iushr32 x0 1)) 1431655765))))) 2)) 858993459))))) + ((iushr32 ((w32 (((iand32 ((w32 (x0 - ((iand32 ((iushr32 x0 1)) 1431655765))))) 858993459)) + ((iand32 ((iushr32 ((w32 (x0 - ((iand32 ((iushr32 x0 1)) 1431655765))))) 2)) 858993459))))) 4))))) 252645135)) + ((iushr32 ((iand32 ((w32 (((w32 (((iand32 ((w32 (x0 - ((iand32 ((iushr32 x0 1)) 1431655765))))) 858993459)) + ((iand32 ((iushr32 ((w32 (x0 - ((iand32 ((iushr32 x0 1)) 1431655765))))) 2)) 858993459))))) + ((iushr32 ((w32 (((iand32 ((w32 (x0 - ((iand32 ((iushr32 x0 1)) 1431655765))))) 858993459)) + ((iand32 ((iushr32 ((w32 (x0 - ((iand32 ((iushr32 x0 1)) 1431655765))))) 2)) 858993459))))) 4))))) 252645135)) 8))))) 16))))) 63)), (mk E c s (hh g))))) X [0] 43 rfl).trans (by simp (maxSteps := 10000000) only [bindI, Option.bind_some, if_true_, and_self, ite_true, true_and, true_or, or_true])
set_option maxRecDepth 100000 in
theorem rc262_ (d : Nat) (x0 : Int) : Call prog clsT X (d + 1) 262 [(0, x0)] (mk E c s (hh g)) =
  (some ((0, (iand32 ((w32 (((w32 (((iand32 ((w32 (((w32 (((iand32 ((w32 (x0 - ((iand32 ((iushr32 x0 1)) 1431655765))))) 858993459)) + ((iand32 ((iushr32 ((w32 (x0 - ((iand32 ((iushr32 x0 1)) 1431655765))))) 2)) 858993459))))) + ((iushr32 ((w32 (((iand32 ((w32 (x0 - ((iand32 ((iushr32 x0 1)) 1431655765))))) 858993459)) + ((iand32 ((iushr32 ((w32 (x0 - ((iand32 ((iushr32 x0 1)) 1431655765))))) 2)) 858993459))))) 4))))) 252645135)) + ((iushr32 ((iand32 ((w32 (((w32 (((iand32 ((w32 (x0 - ((iand32 ((iushr32 x0 1)) 1431655765))))) 858993459)) + ((iand32 ((iushr32 ((w32 (x0 - ((iand32 ((iushr32 x0 1)) 1431655765))))) 2)) 858993459))))) + ((iushr32 ((w32 (((iand32 ((w32 (x0 - ((iand32 ((iushr32 x0 1)) 1431655765))))) 858993459)) + ((iand32 ((iushr32 ((w32 (x0 - ((iand32 ((iushr32 x0 1)) 1431655765))))) 2)) 858993459))))) 4))))) 252645135)) 8))))) + ((iushr32 ((w32 (((iand32 ((w32 (((w32 (((iand32 ((w32 (x0 - ((iand32 ((iushr32 x0 1)) 1431655765))))) 858993459)) + ((iand32 ((iushr32 ((w32 (x0 - ((iand32 ((iushr32 x0 1)) 1431655765))))) 2)) 858993459))))) + ((iushr32 ((w32 (((iand32 ((w32 (x0 - ((iand32 ((iushr32 x0 1)) 1431655765))))) 858993459)) + ((iand32 ((iushr32 ((w32 (x0 - ((iand32 ((iushr32 x0 1)) 1431655765))))) 2)) 858993459))))) 4))))) 252645135)) + ((iushr32 ((iand32 ((w32 (((w32 (((iand32 ((w32 (x0 - ((iand32 ((iushr32 x0 1)) 1431655765))))) 858993459)) + ((iand32 ((iushr32 ((w32 (x0 - ((iand32 ((iushr32 x0 1)) 1431655765))))) 2)) 858993459))))) + ((iushr32 ((w32 (((iand32 ((w32 (x0 - ((iand32 ((iushr32 x0 1)) 1431655765))))) 858993459)) + ((iand32 ((iushr32 ((w32 (x0 - ((iand32 ((iushr32 x0 1)) 1431655765))))) 2)) 858993459))))) 4))))) 252645135)) 8))))) 16))))) 63)), ((mk E c s (hh g))))) :=
  (show Call prog clsT X (d + 1) 262 [(0, x0)] (mk E c s (hh g)) = Ev prog clsT X d mc262 0 [(0, x0)] [] (mk E c s (hh g)) from rfl).trans (r262_0 X E c s g d x0 )
set_option maxRecDepth 100000 in
theorem r263_0 (d : Nat) (x0 x1 : Int) : Ev prog clsT X d mc263 0 [(0, x0), (0, x1)] [] (mk E c s (hh g)) =
  (if cmpI .ge x0 x1 = true then
  (if cmpI .ne x0 x1 = true then
    (some ((0, 1), ((mk E c s (hh g)))))
  else
    (some ((0, 0), ((mk E c s (hh g))))))
else
  (some ((0, (-1)), ((mk E c s (hh g)))))) :=
  (evk_at (r := (if cmpI .ge x0 x1 = true then
  (if cmpI .ne x0 x1 = true then
    (some ((0, 1), (mk E c s (hh g))))
  else
    (some ((0, 0), (mk E c s (hh g)))))
else
  (some ((0, (-1)), (mk E c s (hh g)))))) X [0] 10 rfl).trans (by simp (maxSteps := 10000000) only [bindI, Option.bind_some, if_true_, and_self, ite_true, true_and, true_or, or_true])
set_option maxRecDepth 100000 in
theorem rc263_ (d : Nat) (x0 x1 : Int) : Call prog clsT X (d + 1) 263 [(0, x0), (0, x1)] (mk E c s (hh g)) =
  (if cmpI .ge x0 x1 = true then
  (if cmpI .ne x0 x1 = true then
    (some ((0, 1), ((mk E c s (hh g)))))
  else
    (some ((0, 0), ((mk E c s (hh g))))))
else
  (some ((0, (-1)), ((mk E c s (hh g)))))) :=
  (show Call prog clsT X (d + 1) 263 [(0, x0), (0, x1)] (mk E c s (hh g)) = Ev prog clsT X d mc263 0 [(0, x0), (0, x1)] [] (mk E c s (hh g)) from rfl).trans (r263_0 X E c s g d x0 x1 )
set_option maxRecDepth 100000 in
theorem r264_0 (d : Nat) (x0 : Int) : Ev prog clsT X d mc264 0 [(1, x0), (3, 0)] [] (mk E c s (hh g)) =
  (some ((0, (iand32 ((w32 ((w64 (((w64 (((w64 (((land64 ((w64 (((w64 (((land64 ((w64 (x0 - ((land64 ((lushr64 x0 1)) 6148914691236517205))))) 3689348814741910323)) + ((land64 ((lushr64 ((w64 (x0 - ((land64 ((lushr64 x0 1)) 6148914691236517205))))) 2)) 3689348814741910323))))) + ((lushr64 ((w64 (((land64 ((w64 (x0 - ((land64 ((lushr64 x0 1)) 6148914691236517205))))) 3689348814741910323)) + ((land64 ((lushr64 ((w64 (x0 - ((land64 ((lushr64 x0 1)) 6148914691236517205))))) 2)) 3689348814741910323))))) 4))))) 1085102592571150095)) + ((lushr64 ((land64 ((w64 (((w64 (((land64 ((w64 (x0 - ((land64 ((lushr64 x0 1)) 6148914691236517205))))) 3689348814741910323)) + ((land64 ((lushr64 ((w64 (x0 - ((land64 ((lushr64 x0 1)) 6148914691236517205))))) 2)) 3689348814741910323))))) + ((lushr64 ((w64 (((land64 ((w64 (x0 - ((land64 ((lushr64 x0 1)) 6148914691236517205))))) 3689348814741910323)) + ((land64 ((lushr64 ((w64 (x0 - ((land64 ((lushr64 x0 1)) 6148914691236517205))))) 2)) 3689348814741910323))))) 4))))) 1085102592571150095)) 8))))) + ((lushr64 ((w64 (((land64 ((w64 (((w64 (((land64 ((w64 (x0 - ((land64 ((lushr64 x0 1)) 6148914691236517205))))) 3689348814741910323)) + ((land64 ((lushr64 ((w64 (x0 - ((land64 ((lushr64 x0 1)) 6148914691236517205))))) 2)) 3689348814741910323))))) + ((lushr64 ((w64 (((land64 ((w64 (x0 - ((land64 ((lushr64 x0 1)) 6148914691236517205))))) 3689348814741910323)) + ((land64 ((lushr64 ((w64 (x0 - ((land64 ((lushr64 x0 1)) 6148914691236517205))))) 2)) 3689348814741910323))))) 4))))) 1085102592571150095)) + ((lushr64 ((land64 ((w64 (((w64 (((land64 ((w64 (x0 - ((land64 ((lushr64 x0 1)) 6148914691236517205))))) 3689348814741910323)) + ((land64 ((lushr64 ((w64 (x0 - ((land64 ((lushr64 x0 1)) 6148914691236517205))))) 2)) 3689348814741910323))))) + ((lushr64 ((w64 (((land64 ((w64 (x0 - ((land64 ((lushr64 x0 1)) 6148914691236517205))))) 3689348814741910323)) + ((land64 ((lushr64 ((w64 (x0 - ((land64 ((lushr64 x0 1)) 6148914691236517205))))) 2)) 3689348814741910323))))) 4))))) 1085102592571150095)) 8))))) 16))))) + ((lushr64 ((w64 (((w64 (((land64 ((w64 (((w64 (((land64 ((w64 (x0 - ((land64 ((lushr64 x0 1)) 6148914691236517205))))) 3689348814741910323)) + ((land64 ((lushr64 ((w64 (x0 - ((land64 ((lushr64 x0 1)) 6148914691236517205))))) 2)) 3689348814741910323))))) + ((lushr64 ((w64 (((land64 ((w64 (x0 - ((land64 ((lushr64 x0 1)) 6148914691236517205))))) 3689348814741910323)) + ((land64 ((lushr64 ((w64 (x0 - ((land64 ((lushr64 x0 1)) 6148914691236517205))))) 2)) 3689348814741910323))))) 4))))) 1085102592571150095)) + ((lushr64 ((land64 ((w64 (((w64 (((land64 ((w64 (x0 - ((land64 ((lushr64 x0 1)) 6148914691236517205))))) 3689348814741910323)) + ((land64 ((lushr64 ((w64 (x0 - ((land64 ((lushr64 x0 1)) 6148914691236517205))))) 2)) 3689348814741910323))))) + ((lushr64 ((w64 (((land64 ((w64 (x0 - ((land64 ((lushr64 x0 1)) 6148914691236517205))))) 3689348814741910323)) + ((land64 ((lushr64 ((w64 (x0 - ((land64 ((lushr64 x0 1)) 6148914691236517205))))) 2)) 3689348814741910323))))) 4))))) 1085102592571150095)) 8))))) + ((lushr64 ((w64 (((land64 ((w64 (((w64 (((land64 ((w64 (x0 - ((land64 ((lushr64 x0 1)) 6148914691236517205))))) 3689348814741910323)) + ((land64 ((lushr64 ((w64 (x0 - ((land64 ((lushr64 x0 1)) 6148914691236517205))))) 2)) 3689348814741910323))))) + ((lushr64 ((w64 (((land64 ((w64 (x0 - ((land64 ((lushr64 x0 1)) 6148914691236517205))))) 3689348814741910323)) + ((land64 ((lushr64 ((w64 (x0 - ((land64 ((lushr64 x0 1)) 6148914691236517205))))) 2)) 3689348814741910323))))) 4))))) 1085102592571150095)) + ((lushr64 ((land64 ((w64 (((w64 (((land64 ((w64 (x0 - ((land64 ((lushr64 x0 1)) 6148914691236517205))))) 3689348814741910323)) + ((land64 ((lushr64 ((w64 (x0 - ((land64 ((lushr64 x0 1)) 6148914691236517205))))) 2)) 3689348814741910323))))) + ((lushr64 ((w64 (((land64 ((w64 (x0 - ((land64 ((lushr64 x0 1)) 6148914691236517205))))) 3689348814741910323)) + ((land64 ((lushr64 ((w64 (x0 - ((land64 ((lushr64 x0 1)) 6148914691236517205))))) 2)) 3689348814741910323))))) 4))))) 1085102592571150095)) 8))))) 16))))) 32))))))) 127)), ((mk E c s (hh g))))) :=
  (evk_at (r := (some ((0, (iand32 ((w32 ((w64 (((w64 (((w64 (((land64 ((w64 (((w64 (((land64 ((w64 (x0 - ((land64 ((lushr64 x0 1)) 6148914691236517205))))) 3689348814741910323)) + ((land64 ((lushr64 ((w64 (x0 - ((land64 ((lushr64 x0 1)) 6148914691236517205))))) 2)) 3689348814741910323))))) + ((lushr64 ((w64 (((land64 ((w64 (x0 - ((land64 ((lushr64 x0 1)) 6148914691236517205))))) 3689348814741910323)) + ((land64 ((lushr64 ((w64 (x0 - ((land64 ((lushr64 x0 1)) 6148914691236517205))))) 2)) 3689348814741910323))))) 4))))) 1085102592571150095)) + ((lushr64 ((land64 ((w64 (((w64 (((land64 ((w64 (x0 - ((land64 ((lushr64 x0 1)) 6148914691236517205))))) 3689348814741910323)) + ((land64 ((lushr64 ((w64 (x0 - ((land64 ((lushr64 x0 1)) 6148914691236517205))))) 2)) 3689348814741910323))))) + ((lushr64 ((w64 (((land64 ((w64 (x0 - ((land64 ((lushr64 x0 1)) 6148914691236517205))))) 3689348814741910323)) + ((land64 ((lushr64 ((w64 (x0 - ((land64 ((lushr64 x0 1)) 6148914691236517205))))) 2)) 3689348814741910323))))) 4))))) 1085102592571150095)) 8))))) + ((lushr64 ((w64 (((land64 ((w64 (((w64 (((land64 ((w64 (x0 - ((land64 ((lushr64 x0 1)) 6148914691236517205))))) 3689348814741910323)) + ((land64 ((lushr64 ((w64 (x0 - ((land64 ((lushr64 x0 1)) 6148914691236517205))))) 2)) 3689348814741910323))))) + ((lushr64 ((w64 (((land64 ((w64 (x0 - ((land64 ((lushr64 x0 1)) 6148914691236517205))))) 3689348814741910323)) + ((land64 ((lushr64 ((w64 (x0 - ((land64 ((lushr64 x0 1)) 6148914691236517205))))) 2)) 3689348814741910323))))) 4))))) 1085102592571150095)) + ((lushr64 ((land64 ((w64 (((w64 (((land64 ((w64 (x0 - ((land64 ((lushr64 x0 1)) 6148914691236517205))))) 3689348814741910323)) + ((land64 ((lushr64 ((w64 (x0 - ((land64 ((lushr64 x0 1)) 6148914691236517205))))) 2)) 3689348814741910323))))) + ((lushr64 ((w64 (((land64 ((w64 (x0 - ((land64 ((lushr64 x0 1)) 6148914691236517205))))) 3689348814741910323)) + ((land64 ((lushr64 ((w64 (x0 - ((land64 ((lushr64 x0 1)) 6148914691236517205))))) 2)) 3689348814741910323))))) 4))))) 1085102592571150095)) 8))))) 16))))) + ((lushr64 ((w64 (((w64 (((land64 ((w64 (((w64 (((land64 ((w64 (x0 - ((land64 ((lushr64 x0 1)) 6148914691236517205))))) 3689348814741910323)) + ((land64 ((lushr64 ((w64 (x0 - ((land64 ((lushr64 x0 1)) 6148914691236517205))))) 2)) 3689348814741910323))))) + ((lushr64 ((w64 (((land64 ((w64 (x0 - ((land64 ((lushr64 x0 1)) 6148914691236517205))))) 3689348814741910323)) + ((land64 ((lushr64 ((w64 (x0 - ((land64 ((lushr64 x0 1)) 6148914691236517205))))) 2)) 3689348814741910323))))) 4))))) 1085102592571150095)) + ((lushr64 ((land64 ((w64 (((w64 (((land64 ((w64 (x0 - ((land64 ((lushr64 x0 1)) 6148914691236517205))))) 3689348814741910323)) + ((land64 ((lushr64 ((w64 (x0 - ((land64 ((lushr64 x0 1)) 6148914691236517205))))) 2)) 3689348814741910323))))) + ((lushr64 ((w64 (((land64 ((w64 (x0 - ((land64 ((lushr64 x0 1)) 6148914691236517205))))) 3689348814741910323)) + ((land64 ((lushr64 ((w64 (x0 - ((land64 ((lushr64 x0 1)) 6148914691236517205))))) 2)) 3689348814741910323))))) 4))))) 1085102592571150095)) 8))))) + ((lushr64 ((w64 (((land64 ((w64 (((w64 (((land64 ((w64 (x0 - ((land64 ((lushr64 x0 1)) 6148914691236517205))))) 3689348814741910323)) + ((land64 ((lushr64 ((w64 (x0 - ((land64 ((lushr64 x0 1)) 6148914691236517205))))) 2)) 3689348814741910323))))) + ((lushr64 ((w64 (((land64 ((w64 (x0 - ((land64 ((lushr64 x0 1)) 6148914691236517205))))) 3689348814741910323)) + ((land64 ((lushr64 ((w64 (x0 - ((land64 ((lushr64 x0 1)) 6148914691236517205))))) 2)) 3689348814741910323))))) 4))))) 1085102592571150095)) + ((lushr64 ((land64 ((w64 (((w64 (((land64 ((w64 (x0 - ((land64 ((lushr64 x0 1)) 6148914691236517205))))) 3689348814741910323)) + ((land64 ((lushr64 ((w64 (x0 - ((land64 ((lushr64 x0 1)) 6148914691236517205))))) 2)) 3689348814741910323))))) + ((lushr64 ((w64 (((land64 ((w64 (x0 - ((land64 ((lushr64 x0 1)) 6148914691236517205))))) 3689348814741910323)) + ((land64 ((lushr64 ((w64 (x0 - ((land64 ((lushr64 x0 1)) 6148914691236517205))))) 2)) 3689348814741910323))))) 4))))) 1085102592571150095)) 8))))) 16))))) 32))))))) 127)), (mk E c s (hh g))))) X [0] 50 rfl).trans (by simp (maxSteps := 10000000) only [bindI, Option.bind_some, if_true_, and_self, ite_true, true_and, true_or, or_true])
set_option maxRecDepth 100000 in
theorem rc264_ (d : Nat) (x0 : Int) : Call prog clsT X (d + 1) 264 [(1, x0)] (mk E c s (hh g)) =
  (some ((0, (iand32 ((w32 ((w64 (((w64 (((w64 (((land64 ((w64 (((w64 (((land64 ((w64 (x0 - ((land64 ((lushr64 x0 1)) 6148914691236517205))))) 3689348814741910323)) + ((land64 ((lushr64 ((w64 (x0 - ((land64 ((lushr64 x0 1)) 6148914691236517205))))) 2)) 3689348814741910323))))) + ((lushr64 ((w64 (((land64 ((w64 (x0 - ((land64 ((lushr64 x0 1)) 6148914691236517205))))) 3689348814741910323)) + ((land64 ((lushr64 ((w64 (x0 - ((land64 ((lushr64 x0 1)) 6148914691236517205))))) 2)) 3689348814741910323))))) 4))))) 1085102592571150095)) + ((lushr64 ((land64 ((w64 (((w64 (((land64 ((w64 (x0 - ((land64 ((lushr64 x0 1)) 6148914691236517205))))) 3689348814741910323)) + ((land64 ((lushr64 ((w64 (x0 - ((land64 ((lushr64 x0 1)) 6148914691236517205))))) 2)) 3689348814741910323))))) + ((lushr64 ((w64 (((land64 ((w64 (x0 - ((land64 ((lushr64 x0 1)) 6148914691236517205))))) 3689348814741910323)) + ((land64 ((lushr64 ((w64 (x0 - ((land64 ((lushr64 x0 1)) 6148914691236517205))))) 2)) 3689348814741910323))))) 4))))) 1085102592571150095)) 8))))) + ((lushr64 ((w64 (((land64 ((w64 (((w64 (((land64 ((w64 (x0 - ((land64 ((lushr64 x0 1)) 6148914691236517205))))) 3689348814741910323)) + ((land64 ((lushr64 ((w64 (x0 - ((land64 ((lushr64 x0 1)) 6148914691236517205))))) 2)) 3689348814741910323))))) + ((lushr64 ((w64 (((land64 ((w64 (x0 - ((land64 ((lushr64 x0 1)) 6148914691236517205))))) 3689348814741910323)) + ((land64 ((lushr64 ((w64 (x0 - ((land64 ((lushr64 x0 1)) 6148914691236517205))))) 2)) 3689348814741910323))))) 4))))) 1085102592571150095)) + ((lushr64 ((land64 ((w64 (((w64 (((land64 ((w64 (x0 - ((land64 ((lushr64 x0 1)) 6148914691236517205))))) 3689348814741910323)) + ((land64 ((lushr64 ((w64 (x0 - ((land64 ((lushr64 x0 1)) 6148914691236517205))))) 2)) 3689348814741910323))))) + ((lushr64 ((w64 (((land64 ((w64 (x0 - ((land64 ((lushr64 x0 1)) 6148914691236517205))))) 3689348814741910323)) + ((land64 ((lushr64 ((w64 (x0 - ((land64 ((lushr64 x0 1)) 6148914691236517205))))) 2)) 3689348814741910323))))) 4))))) 1085102592571150095)) 8))))) 16))))) + ((lushr64 ((w64 (((w64 (((land64 ((w64 (((w64 (((land64 ((w64 (x0 - ((land64 ((lushr64 x0 1)) 6148914691236517205))))) 3689348814741910323)) + ((land64 ((lushr64 ((w64 (x0 - ((land64 ((lushr64 x0 1)) 6148914691236517205))))) 2)) 3689348814741910323))))) + ((lushr64 ((w64 (((land64 ((w64 (x0 - ((land64 ((lushr64 x0 1)) 6148914691236517205))))) 3689348814741910323)) + ((land64 ((lushr64 ((w64 (x0 - ((land64 ((lushr64 x0 1)) 6148914691236517205))))) 2)) 3689348814741910323))))) 4))))) 1085102592571150095)) + ((lushr64 ((land64 ((w64 (((w64 (((land64 ((w64 (x0 - ((land64 ((lushr64 x0 1)) 6148914691236517205))))) 3689348814741910323)) + ((land64 ((lushr64 ((w64 (x0 - ((land64 ((lushr64 x0 1)) 6148914691236517205))))) 2)) 3689348814741910323))))) + ((lushr64 ((w64 (((land64 ((w64 (x0 - ((land64 ((lushr64 x0 1)) 6148914691236517205))))) 3689348814741910323)) + ((land64 ((lushr64 ((w64 (x0 - ((land64 ((lushr64 x0 1)) 6148914691236517205))))) 2)) 3689348814741910323))))) 4))))) 1085102592571150095)) 8))))) + ((lushr64 ((w64 (((land64 ((w64 (((w64 (((land64 ((w64 (x0 - ((land64 ((lushr64 x0 1)) 6148914691236517205))))) 3689348814741910323)) + ((land64 ((lushr64 ((w64 (x0 - ((land64 ((lushr64 x0 1)) 6148914691236517205))))) 2)) 3689348814741910323))))) + ((lushr64 ((w64 (((land64 ((w64 (x0 - ((land64 ((lushr64 x0 1)) 6148914691236517205))))) 3689348814741910323)) + ((land64 ((lushr64 ((w64 (x0 - ((land64 ((lushr64 x0 1)) 6148914691236517205))))) 2)) 3689348814741910323))))) 4))))) 1085102592571150095)) + ((lushr64 ((land64 ((w64 (((w64 (((land64 ((w64 (x0 - ((land64 ((lushr64 x0 1)) 6148914691236517205))))) 3689348814741910323)) + ((land64 ((lushr64 ((w64 (x0 - ((land64 ((lushr64 x0 1)) 6148914691236517205))))) 2)) 3689348814741910323))))) + ((lushr64 ((w64 (((land64 ((w64 (x0 - ((land64 ((lushr64 x0 1)) 6148914691236517205))))) 3689348814741910323)) + ((land64 ((lushr64 ((w64 (x0 - ((land64 ((lushr64 x0 1)) 6148914691236517205))))) 2)) 3689348814741910323))))) 4))))) 1085102592571150095)) 8))))) 16))))) 32))))))) 127)), ((mk E c s (hh g))))) :=
  (show Call prog clsT X (d + 1) 264 [(1, x0)] (mk E c s (hh g)) = Ev prog clsT X d mc264 0 [(1, x0), (3, 0)] [] (mk E c s (hh g)) from rfl).trans (r264_0 X E c s g d x0 )
set_option maxRecDepth 100000 in
theorem r265_0 (d : Nat) (x0 x1 x2 : Int) : Ev prog clsT X d mc265 0 [(0, x0), (0, x1), (2, x2)] [] (mk E c s (hh g)) =
  (if cmpI .lt x0 0 = true then
  (none)
else
  (if cmpI .lt x0 x1 = true then
    (some ((0, x0), ((mk E c s (hh g)))))
  else
    (none))) :=
  (evk_at (r := (if cmpI .lt x0 0 = true then
  (none)
else
  (if cmpI .lt x0 x1 = true then
    (some ((0, x0), (mk E c s (hh g))))
  else
    (none)))) X [0] 10 rfl).trans (by simp (maxSteps := 10000000) only [bindI, Option.bind_some, if_true_, and_self, ite_true, true_and, true_or, or_true])
set_option maxRecDepth 100000 in
theorem rc265_ (d : Nat) (x0 x1 x2 : Int) : Call prog clsT X (d + 1) 265 [(0, x0), (0, x1), (2, x2)] (mk E c s (hh g)) =
  (if cmpI .lt x0 0 = true then
  (none)
else
  (if cmpI .lt x0 x1 = true then
    (some ((0, x0), ((mk E c s (hh g)))))
  else
    (none))) :=
  (show Call prog clsT X (d + 1) 265 [(0, x0), (0, x1), (2, x2)] (mk E c s (hh g)) = Ev prog clsT X d mc265 0 [(0, x0), (0, x1), (2, x2)] [] (mk E c s (hh g)) from rfl).trans (r265_0 X E c s g d x0 x1 x2 )
set_option maxRecDepth 100000 in
theorem r266_0 (d : Nat) (x1 : Int) : Ev prog clsT X d mc266 0 [(2, 0), (0, x1), (2, 158), (3, 0)] [] (mk E c s (hh g)) =
  ((Call prog clsT X d 140 [(2, 0), (0, x1)] ((mk E c s (hh g)))).bind fun r1 => if r1.1.1 = 4 then Ev prog clsT X d mc266 9 [(3, 0), (3, 0), (3, 0), (3, 0)] [] r1.2 else
  Ev prog clsT X d mc266 5 [(2, 0), (0, x1), (2, 158), (3, 0)] (pushR r1.1 [(0, 0), (2, 158)]) r1.2) :=
  (evk_at (r := (if (2 : Nat) = 2 ∧ rcv ((mk E c s (hh g))) 0 12 = true then
  ((Call prog clsT X d 140 [(2, 0), (0, x1)] ((mk E c s (hh g)))).bind fun r1 => if r1.1.1 = 4 then Ev prog clsT X d mc266 9 [(3, 0), (3, 0), (3, 0), (3, 0)] [] r1.2 else
  Ev prog clsT X d mc266 5 [(2, 0), (0, x1), (2, 158), (3, 0)] (pushR r1.1 [(0, 0), (2, 158)]) r1.2) else none)) X [0, 5, 9] 6 rfl).trans (by simp (maxSteps := 10000000) only [R0_12, bindI, Option.bind_some, if_true_, and_self, ite_true, true_and, true_or, or_true])
set_option maxRecDepth 100000 in
theorem rc266_ (d : Nat) (x1 : Int) : Call prog clsT X (d + 1) 266 [(2, 0), (0, x1), (2, 158)] (mk E c s (hh g)) =
  ((Call prog clsT X d 140 [(2, 0), (0, x1)] ((mk E c s (hh g)))).bind fun r1 => if r1.1.1 = 4 then Ev prog clsT X d mc266 9 [(3, 0), (3, 0), (3, 0), (3, 0)] [] r1.2 else
  Ev prog clsT X d mc266 5 [(2, 0), (0, x1), (2, 158), (3, 0)] (pushR r1.1 [(0, 0), (2, 158)]) r1.2) :=
  (show Call prog clsT X (d + 1) 266 [(2, 0), (0, x1), (2, 158)] (mk E c s (hh g)) = Ev prog clsT X d mc266 0 [(2, 0), (0, x1), (2, 158), (3, 0)] [] (mk E c s (hh g)) from rfl).trans (r266_0 X E c s g d x1 )
set_option maxRecDepth 100000 in
theorem r266_5 (d : Nat) (x1 s1 s2 : Int) : Ev prog clsT X d mc266 5 [(2, 0), (0, x1), (2, 158), (3, 0)] [(0, s2), (0, s1), (2, 158)] (mk E c s (hh g)) =
  (if inb s1 1 = true then
  (some ((0, 0), ((mk E c s (hh (up g 158 (Int.toNat s1) s2))))))
else none) :=
  (evk_at (r := ((aput 101 ((mk E c s (hh g))) 158 s1 (s2)).bind fun M1 =>
  some ((0, 0), M1))) X [0, 5, 9] 6 rfl).trans (by simp (maxSteps := 10000000) only [↓S158, bindI, Option.bind_some, if_true_, and_self, ite_true, true_and, true_or, or_true])
set_option maxRecDepth 100000 in
theorem r266_9 (d : Nat) : Ev prog clsT X d mc266 9 [(3, 0), (3, 0), (3, 0), (3, 0)] [] (mk E c s (hh g)) =
  (some ((0, 1), ((mk E c s (hh g))))) :=
  (evk_at (r := (some ((0, 1), (mk E c s (hh g))))) X [0, 5, 9] 3 rfl).trans (by simp (maxSteps := 10000000) only [bindI, Option.bind_some, if_true_, and_self, ite_true, true_and, true_or, or_true])
set_option maxRecDepth 100000 in
theorem r267_0 (d : Nat) (x1 x2 : Int) : Ev prog clsT X d mc267 0 [(2, 0), (0, x1), (0, x2), (2, 158), (3, 0)] [] (mk E c s (hh g)) =
  ((Call prog clsT X d 141 [(2, 0), (0, x1), (0, x2)] ((mk E c s (hh g)))).bind fun r1 => if r1.1.1 = 4 then Ev prog clsT X d mc267 10 [(3, 0), (3, 0), (3, 0), (3, 0), (3, 0)] [] r1.2 else
  Ev prog clsT X d mc267 6 [(2, 0), (0, x1), (0, x2), (2, 158), (3, 0)] (pushR r1.1 [(0, 0), (2, 158)]) r1.2) :=
  (evk_at (r := (if (2 : Nat) = 2 ∧ rcv ((mk E c s (hh g))) 0 12 = true then
  ((Call prog clsT X d 141 [(2, 0), (0, x1), (0, x2)] ((mk E c s (hh g)))).bind fun r1 => if r1.1.1 = 4 then Ev prog clsT X d mc267 10 [(3, 0), (3, 0), (3, 0), (3, 0), (3, 0)] [] r1.2 else
  Ev prog clsT X d mc267 6 [(2, 0), (0, x1), (0, x2), (2, 158), (3, 0)] (pushR r1.1 [(0, 0), (2, 158)]) r1.2) else none)) X [0, 6, 10] 7 rfl).trans (by simp (maxSteps := 10000000) only [R0_12, bindI, Option.bind_some, if_true_, and_self, ite_true, true_and, true_or, or_true])
set_option maxRecDepth 100000 in
theorem rc267_ (d : Nat) (x1 x2 : Int) : Call prog clsT X (d + 1) 267 [(2, 0), (0, x1), (0, x2), (2, 158)] (mk E c s (hh g)) =
  ((Call prog clsT X d 141 [(2, 0), (0, x1), (0, x2)] ((mk E c s (hh g)))).bind fun r1 => if r1.1.1 = 4 then Ev prog clsT X d mc267 10 [(3, 0), (3, 0), (3, 0), (3, 0), (3, 0)] [] r1.2 else
  Ev prog clsT X d mc267 6 [(2, 0), (0, x1), (0, x2), (2, 158), (3, 0)] (pushR r1.1 [(0, 0), (2, 158)]) r1.2) :=
  (show Call prog clsT X (d + 1) 267 [(2, 0), (0, x1), (0, x2), (2, 158)] (mk E c s (hh g)) = Ev prog clsT X d mc267 0 [(2, 0), (0, x1), (0, x2), (2, 158), (3, 0)] [] (mk E c s (hh g)) from rfl).trans (r267_0 X E c s g d x1 x2 )
set_option maxRecDepth 100000 in
theorem r267_6 (d : Nat) (x1 x2 s1 s2 : Int) : Ev prog clsT X d mc267 6 [(2, 0), (0, x1), (0, x2), (2, 158), (3, 0)] [(0, s2), (0, s1), (2, 158)] (mk E c s (hh g)) =
  (if inb s1 1 = true then
  (some ((0, 0), ((mk E c s (hh (up g 158 (Int.toNat s1) s2))))))
else none) :=
  (evk_at (r := ((aput 101 ((mk E c s (hh g))) 158 s1 (s2)).bind fun M1 =>
  some ((0, 0), M1))) X [0, 6, 10] 6 rfl).trans (by simp (maxSteps := 10000000) only [↓S158, bindI, Option.bind_some, if_true_, and_self, ite_true, true_and, true_or, or_true])
set_option maxRecDepth 100000 in
theorem r267_10 (d : Nat) : Ev prog clsT X d mc267 10 [(3, 0), (3, 0), (3, 0), (3, 0), (3, 0)] [] (mk E c s (hh g)) =
  (some ((0, 1), ((mk E c s (hh g))))) :=
  (evk_at (r := (some ((0, 1), (mk E c s (hh g))))) X [0, 6, 10] 3 rfl).trans (by simp (maxSteps := 10000000) only [bindI, Option.bind_some, if_true_, and_self, ite_true, true_and, true_or, or_true])
set_option maxRecDepth 100000 in
theorem r268_0 (d : Nat) (x1 x2 : Int) : Ev prog clsT X d mc268 0 [(2, 0), (0, x1), (0, x2), (2, 158), (3, 0)] [] (mk E c s (hh g)) =
  ((Call prog clsT X d 142 [(2, 0), (0, x1), (0, x2)] ((mk E c s (hh g)))).bind fun r1 => if r1.1.1 = 4 then Ev prog clsT X d mc268 10 [(3, 0), (3, 0), (3, 0), (3, 0), (3, 0)] [] r1.2 else
  Ev prog clsT X d mc268 6 [(2, 0), (0, x1), (0, x2), (2, 158), (3, 0)] (pushR r1.1 [(0, 0), (2, 158)]) r1.2) :=
  (evk_at (r := (if (2 : Nat) = 2 ∧ rcv ((mk E c s (hh g))) 0 12 = true then
  ((Call prog clsT X d 142 [(2, 0), (0, x1), (0, x2)] ((mk E c s (hh g)))).bind fun r1 => if r1.1.1 = 4 then Ev prog clsT X d mc268 10 [(3, 0), (3, 0), (3, 0), (3, 0), (3, 0)] [] r1.2 else
  Ev prog clsT X d mc268 6 [(2, 0), (0, x1), (0, x2), (2, 158), (3, 0)] (pushR r1.1 [(0, 0), (2, 158)]) r1.2) else none)) X [0, 6, 10] 7 rfl).trans (by simp (maxSteps := 10000000) only [R0_12, bindI, Option.bind_some, if_true_, and_self, ite_true, true_and, true_or, or_true])
set_option maxRecDepth 100000 in
theorem rc268_ (d : Nat) (x1 x2 : Int) : Call prog clsT X (d + 1) 268 [(2, 0), (0, x1), (0, x2), (2, 158)] (mk E c s (hh g)) =
  ((Call prog clsT X d 142 [(2, 0), (0, x1), (0, x2)] ((mk E c s (hh g)))).bind fun r1 => if r1.1.1 = 4 then Ev prog clsT X d mc268 10 [(3, 0), (3, 0), (3, 0), (3, 0), (3, 0)] [] r1.2 else
  Ev prog clsT X d mc268 6 [(2, 0), (0, x1), (0, x2), (2, 158), (3, 0)] (pushR r1.1 [(0, 0), (2, 158)]) r1.2) :=
  (show Call prog clsT X (d + 1) 268 [(2, 0), (0, x1), (0, x2), (2, 158)] (mk E c s (hh g)) = Ev prog clsT X d mc268 0 [(2, 0), (0, x1), (0, x2), (2, 158), (3, 0)] [] (mk E c s (hh g)) from rfl).trans (r268_0 X E c s g d x1 x2 )
set_option maxRecDepth 100000 in
theorem r268_6 (d : Nat) (x1 x2 s1 s2 : Int) : Ev prog clsT X d mc268 6 [(2, 0), (0, x1), (0, x2), (2, 158), (3, 0)] [(0, s2), (0, s1), (2, 158)] (mk E c s (hh g)) =
  (if inb s1 1 = true then
  (some ((0, 0), ((mk E c s (hh (up g 158 (Int.toNat s1) s2))))))
else none) :=
  (evk_at (r := ((aput 101 ((mk E c s (hh g))) 158 s1 (s2)).bind fun M1 =>
  some ((0, 0), M1))) X [0, 6, 10] 6 rfl).trans (by simp (maxSteps := 10000000) only [↓S158, bindI, Option.bind_some, if_true_, and_self, ite_true, true_and, true_or, or_true])
set_option maxRecDepth 100000 in
theorem r268_10 (d : Nat) : Ev prog clsT X d mc268 10 [(3, 0), (3, 0), (3, 0), (3, 0), (3, 0)] [] (mk E c s (hh g)) =
  (some ((0, 1), ((mk E c s (hh g))))) :=
  (evk_at (r := (some ((0, 1), (mk E c s (hh g))))) X [0, 6, 10] 3 rfl).trans (by simp (maxSteps := 10000000) only [bindI, Option.bind_some, if_true_, and_self, ite_true, true_and, true_or, or_true])
set_option maxRecDepth 100000 in
theorem r269_0 (d : Nat) (x1 : Int) : Ev prog clsT X d mc269 0 [(2, 0), (0, x1), (2, 158), (3, 0)] [] (mk E c s (hh g)) =
  ((Call prog clsT X d 143 [(2, 0), (0, x1)] ((mk E c s (hh g)))).bind fun r1 => if r1.1.1 = 4 then Ev prog clsT X d mc269 9 [(3, 0), (3, 0), (3, 0), (3, 0)] [] r1.2 else
  Ev prog clsT X d mc269 5 [(2, 0), (0, x1), (2, 158), (3, 0)] (pushR r1.1 [(0, 0), (2, 158)]) r1.2) :=
  (evk_at (r := (if (2 : Nat) = 2 ∧ rcv ((mk E c s (hh g))) 0 12 = true then
  ((Call prog clsT X d 143 [(2, 0), (0, x1)] ((mk E c s (hh g)))).bind fun r1 => if r1.1.1 = 4 then Ev prog clsT X d mc269 9 [(3, 0), (3, 0), (3, 0), (3, 0)] [] r1.2 else
  Ev prog clsT X d mc269 5 [(2, 0), (0, x1), (2, 158), (3, 0)] (pushR r1.1 [(0, 0), (2, 158)]) r1.2) else none)) X [0, 5, 9] 6 rfl).trans (by simp (maxSteps := 10000000) only [R0_12, bindI, Option.bind_some, if_true_, and_self, ite_true, true_and, true_or, or_true])
set_option maxRecDepth 100000 in
theorem rc269_ (d : Nat) (x1 : Int) : Call prog clsT X (d + 1) 269 [(2, 0), (0, x1), (2, 158)] (mk E c s (hh g)) =
  ((Call prog clsT X d 143 [(2, 0), (0, x1)] ((mk E c s (hh g)))).bind fun r1 => if r1.1.1 = 4 then Ev prog clsT X d mc269 9 [(3, 0), (3, 0), (3, 0), (3, 0)] [] r1.2 else
  Ev prog clsT X d mc269 5 [(2, 0), (0, x1), (2, 158), (3, 0)] (pushR r1.1 [(0, 0), (2, 158)]) r1.2) :=
  (show Call prog clsT X (d + 1) 269 [(2, 0), (0, x1), (2, 158)] (mk E c s (hh g)) = Ev prog clsT X d mc269 0 [(2, 0), (0, x1), (2, 158), (3, 0)] [] (mk E c s (hh g)) from rfl).trans (r269_0 X E c s g d x1 )
set_option maxRecDepth 100000 in
theorem r269_5 (d : Nat) (x1 s1 s2 : Int) : Ev prog clsT X d mc269 5 [(2, 0), (0, x1), (2, 158), (3, 0)] [(0, s2), (0, s1), (2, 158)] (mk E c s (hh g)) =
  (if inb s1 1 = true then
  (some ((0, 0), ((mk E c s (hh (up g 158 (Int.toNat s1) s2))))))
else none) :=
  (evk_at (r := ((aput 101 ((mk E c s (hh g))) 158 s1 (s2)).bind fun M1 =>
  some ((0, 0), M1))) X [0, 5, 9] 6 rfl).trans (by simp (maxSteps := 10000000) only [↓S158, bindI, Option.bind_some, if_true_, and_self, ite_true, true_and, true_or, or_true])
set_option maxRecDepth 100000 in
theorem r269_9 (d : Nat) : Ev prog clsT X d mc269 9 [(3, 0), (3, 0), (3, 0), (3, 0)] [] (mk E c s (hh g)) =
  (some ((0, 1), ((mk E c s (hh g))))) :=
  (evk_at (r := (some ((0, 1), (mk E c s (hh g))))) X [0, 5, 9] 3 rfl).trans (by simp (maxSteps := 10000000) only [bindI, Option.bind_some, if_true_, and_self, ite_true, true_and, true_or, or_true])
set_option maxRecDepth 100000 in
theorem r270_0 (d : Nat) (x1 x2 x3 x4 : Int) : Ev prog clsT X d mc270 0 [(2, 0), (0, x1), (0, x2), (0, x3), (0, x4), (2, 158), (3, 0)] [] (mk E c s (hh g)) =
  ((Call prog clsT X d 144 [(2, 0), (0, x1), (0, x2), (0, x3), (0, x4)] ((mk E c s (hh g)))).bind fun r1 => if r1.1.1 = 4 then Ev prog clsT X d mc270 11 [(3, 0), (3, 0), (3, 0), (3, 0), (3, 0), (3, 0), (3, 0)] [] r1.2 else
  Ev prog clsT X d mc270 8 [(2, 0), (0, x1), (0, x2), (0, x3), (0, x4), (2, 158), (3, 0)] (pushR r1.1 [(0, 0), (2, 158)]) r1.2) :=
  (evk_at (r := (if (2 : Nat) = 2 ∧ rcv ((mk E c s (hh g))) 0 12 = true then
  ((Call prog clsT X d 144 [(2, 0), (0, x1), (0, x2), (0, x3), (0, x4)] ((mk E c s (hh g)))).bind fun r1 => if r1.1.1 = 4 then Ev prog clsT X d mc270 11 [(3, 0), (3, 0), (3, 0), (3, 0), (3, 0), (3, 0), (3, 0)] [] r1.2 else
  Ev prog clsT X d mc270 8 [(2, 0), (0, x1), (0, x2), (0, x3), (0, x4), (2, 158), (3, 0)] (pushR r1.1 [(0, 0), (2, 158)]) r1.2) else none)) X [0, 8, 11] 9 rfl).trans (by simp (maxSteps := 10000000) only [R0_12, bindI, Option.bind_some, if_true_, and_self, ite_true, true_and, true_or, or_true])
set_option maxRecDepth 100000 in
theorem rc270_ (d : Nat) (x1 x2 x3 x4 : Int) : Call prog clsT X (d + 1) 270 [(2, 0), (0, x1), (0, x2), (0, x3), (0, x4), (2, 158)] (mk E c s (hh g)) =
  ((Call prog clsT X d 144 [(2, 0), (0, x1), (0, x2), (0, x3), (0, x4)] ((mk E c s (hh g)))).bind fun r1 => if r1.1.1 = 4 then Ev prog clsT X d mc270 11 [(3, 0), (3, 0), (3, 0), (3, 0), (3, 0), (3, 0), (3, 0)] [] r1.2 else
  Ev prog clsT X d mc270 8 [(2, 0), (0, x1), (0, x2), (0, x3), (0, x4), (2, 158), (3, 0)] (pushR r1.1 [(0, 0), (2, 158)]) r1.2) :=
  (show Call prog clsT X (d + 1) 270 [(2, 0), (0, x1), (0, x2), (0, x3), (0, x4), (2, 158)] (mk E c s (hh g)) = Ev prog clsT X d mc270 0 [(2, 0), (0, x1), (0, x2), (0, x3), (0, x4), (2, 158), (3, 0)] [] (mk E c s (hh g)) from rfl).trans (r270_0 X E c s g d x1 x2 x3 x4 )
set_option maxRecDepth 100000 in
theorem r270_8 (d : Nat) (x1 x2 x3 x4 s1 s2 : Int) : Ev prog clsT X d mc270 8 [(2, 0), (0, x1), (0, x2), (0, x3), (0, x4), (2, 158), (3, 0)] [(1, s2), (0, s1), (2, 158)] (mk E c s (hh g)) =
  (if inb s1 1 = true then
  (some ((0, 0), ((mk E c s (hh (up g 158 (Int.toNat s1) s2))))))
else none) :=
  (evk_at (r := ((aput 101 ((mk E c s (hh g))) 158 s1 (s2)).bind fun M1 =>
  some ((0, 0), M1))) X [0, 8, 11] 5 rfl).trans (by simp (maxSteps := 10000000) only [↓S158, bindI, Option.bind_some, if_true_, and_self, ite_true, true_and, true_or, or_true])
set_option maxRecDepth 100000 in
theorem r270_11 (d : Nat) : Ev prog clsT X d mc270 11 [(3, 0), (3, 0), (3, 0), (3, 0), (3, 0), (3, 0), (3, 0)] [] (mk E c s (hh g)) =
  (some ((0, 1), ((mk E c s (hh g))))) :=
  (evk_at (r := (some ((0, 1), (mk E c s (hh g))))) X [0, 8, 11] 3 rfl).trans (by simp (maxSteps := 10000000) only [bindI, Option.bind_some, if_true_, and_self, ite_true, true_and, true_or, or_true])
set_option maxRecDepth 100000 in
theorem r271_13 (d : Nat) (x0 x4 : Int) (w5 w6 w7 : MV) : Ev prog clsT X d mc271 13 [(2, x0), (2, 0), (2, 89), (2, 158), (0, x4), w5, w6, w7] [] (mk E c s (hh g)) =
  ((alen X ((mk E c s (hh g))) x0).bind fun v1 =>
  if cmpI .gt x4 ((w32 (v1 - 7))) = true then
  (some ((0, 1), ((mk E c s (hh g)))))
else
  ((aget X 100 ((mk E c s (hh g))) x0 x4).bind fun v2 =>
    Ev prog clsT X d mc271 24 [(2, x0), (2, 0), (2, 89), (2, 158), (0, x4), (3, 0), (3, 0), (3, 0)] [(0, (iand32 v2 63))] (mk E c s (hh g)))) :=
  (evk_at (r := ((alen X ((mk E c s (hh g))) x0).bind fun v1 =>
  if cmpI .gt x4 ((w32 (v1 - 7))) = true then
  (some ((0, 1), (mk E c s (hh g))))
else
  ((aget X 100 ((mk E c s (hh g))) x0 x4).bind fun v2 =>
    Ev prog clsT X d mc271 24 [(2, x0), (2, 0), (2, 89), (2, 158), (0, x4), (3, 0), (3, 0), (3, 0)] [(0, (iand32 v2 63))] (mk E c s (hh g))))) X [0, 3, 7, 13, 24, 25, 51, 77, 80, 107, 134, 137, 190, 243, 246, 253, 260, 263, 265, 267, 270, 272, 274, 277, 311, 345, 348, 356, 364, 367, 383, 396, 409, 412, 428, 440, 452, 455, 462, 469, 472, 484, 496, 499, 511, 523, 526, 543, 560, 563, 575, 587, 590, 603, 616, 619, 635, 647, 659, 662, 674, 686, 689, 701, 713, 716, 728, 740, 743, 760, 777, 780, 796, 812, 815, 831, 847, 850, 857, 864, 867, 874, 881, 884, 901, 918, 921, 933, 945, 948, 964, 980, 983, 985, 987, 990, 997, 1004, 1007, 1019, 1031, 1034, 1042, 1050, 1053, 1069, 1092, 1115, 1118, 1133, 1150, 1167, 1170, 1182, 1194, 1197, 1213, 1229, 1232, 1239, 1246, 1249] 13 rfl).trans (by simp (maxSteps := 10000000) only [bindI, Option.bind_some, if_true_, and_self, ite_true, true_and, true_or, or_true])
set_option maxRecDepth 100000 in
theorem r271_24 (d : Nat) (x0 x4 s0 : Int) : Ev prog clsT X d mc271 24 [(2, x0), (2, 0), (2, 89), (2, 158), (0, x4), (3, 0), (3, 0), (3, 0)] [(0, s0)] (mk E c s (hh g)) =
  (if s0 < 0 ∨ 36 < s0 then Ev prog clsT X d mc271 1249 [(2, x0), (2, 0), (2, 89), (2, 158), (0, x4), (3, 0), (3, 0), (3, 0)] [] ((mk E c s (hh g))) else ((#[25, 80, 137, 246, 263, 270, 277, 348, 383, 428, 455, 472, 499, 526, 563, 590, 635, 662, 689, 716, 743, 780, 815, 850, 867, 884, 921, 948, 983, 990, 1007, 1034, 1069, 1133, 1170, 1197, 1232] : Array Int)[(Int.toNat (s0 - 0))]?).bind fun t1 => Ev prog clsT X d mc271 (Int.toNat t1) [(2, x0), (2, 0), (2, 89), (2, 158), (0, x4), (3, 0), (3, 0), (3, 0)] [] ((mk E c s (hh g)))) :=
  (evk_at (r := (if s0 < 0 ∨ 36 < s0 then Ev prog clsT X d mc271 1249 [(2, x0), (2, 0), (2, 89), (2, 158), (0, x4), (3, 0), (3, 0), (3, 0)] [] (mk E c s (hh g)) else ((#[25, 80, 137, 246, 263, 270, 277, 348, 383, 428, 455, 472, 499, 526, 563, 590, 635, 662, 689, 716, 743, 780, 815, 850, 867, 884, 921, 948, 983, 990, 1007, 1034, 1069, 1133, 1170, 1197, 1232] : Array Int)[(Int.toNat (s0 - 0))]?).bind fun t1 => Ev prog clsT X d mc271 (Int.toNat t1) [(2, x0), (2, 0), (2, 89), (2, 158), (0, x4), (3, 0), (3, 0), (3, 0)] [] (mk E c s (hh g)))) X [] 1 rfl).trans (by simp (maxSteps := 10000000) only [bindI, Option.bind_some, if_true_, and_self, ite_true, true_and, true_or, or_true])
set_option maxRecDepth 100000 in
theorem r271_25 (d : Nat) (x0 x4 : Int) : Ev prog clsT X d mc271 25 [(2, x0), (2, 0), (2, 89), (2, 158), (0, x4), (3, 0), (3, 0), (3, 0)] [] (mk E c s (hh g)) =
  ((aget X 100 ((mk E c s (hh g))) x0 ((w32 (x4 + 1)))).bind fun v1 =>
  (aget X 100 ((mk E c s (hh g))) x0 ((w32 (x4 + 2)))).bind fun v2 =>
  (aget X 100 ((mk E c s (hh g))) x0 ((w32 (x4 + 3)))).bind fun v3 =>
  (aget X 100 ((mk E c s (hh g))) x0 ((w32 (x4 + 4)))).bind fun v4 =>
  if cmpI .eq v4 0 = true then
  ((Call prog clsT X d 89 [(2, 0), (0, v1), (0, v2), (0, v3), (0, 0)] ((mk E c s (hh g)))).bind fun r5 => if r5.1.1 = 4 then none else
    Ev prog clsT X d mc271 51 [(2, x0), (2, 0), (2, 89), (2, 158), (0, x4), (3, 0), (3, 0), (3, 0)] (pushR r5.1 []) r5.2)
else
  ((Call prog clsT X d 89 [(2, 0), (0, v1), (0, v2), (0, v3), (0, 1)] ((mk E c s (hh g)))).bind fun r6 => if r6.1.1 = 4 then none else
    Ev prog clsT X d mc271 51 [(2, x0), (2, 0), (2, 89), (2, 158), (0, x4), (3, 0), (3, 0), (3, 0)] (pushR r6.1 []) r6.2)) :=
  (evk_at (r := ((aget X 100 ((mk E c s (hh g))) x0 ((w32 (x4 + 1)))).bind fun v1 =>
  (aget X 100 ((mk E c s (hh g))) x0 ((w32 (x4 + 2)))).bind fun v2 =>
  (aget X 100 ((mk E c s (hh g))) x0 ((w32 (x4 + 3)))).bind fun v3 =>
  (aget X 100 ((mk E c s (hh g))) x0 ((w32 (x4 + 4)))).bind fun v4 =>
  if cmpI .eq v4 0 = true then
  (if (2 : Nat) = 2 ∧ rcv ((mk E c s (hh g))) 0 12 = true then
    ((Call prog clsT X d 89 [(2, 0), (0, v1), (0, v2), (0, v3), (0, 0)] ((mk E c s (hh g)))).bind fun r5 => if r5.1.1 = 4 then none else
    Ev prog clsT X d mc271 51 [(2, x0), (2, 0), (2, 89), (2, 158), (0, x4), (3, 0), (3, 0), (3, 0)] (pushR r5.1 []) r5.2) else none)
else
  (if (2 : Nat) = 2 ∧ rcv ((mk E c s (hh g))) 0 12 = true then
    ((Call prog clsT X d 89 [(2, 0), (0, v1), (0, v2), (0, v3), (0, 1)] ((mk E c s (hh g)))).bind fun r6 => if r6.1.1 = 4 then none else
    Ev prog clsT X d mc271 51 [(2, x0), (2, 0), (2, 89), (2, 158), (0, x4), (3, 0), (3, 0), (3, 0)] (pushR r6.1 []) r6.2) else none))) X [0, 3, 7, 13, 24, 25, 51, 77, 80, 107, 134, 137, 190, 243, 246, 253, 260, 263, 265, 267, 270, 272, 274, 277, 311, 345, 348, 356, 364, 367, 383, 396, 409, 412, 428, 440, 452, 455, 462, 469, 472, 484, 496, 499, 511, 523, 526, 543, 560, 563, 575, 587, 590, 603, 616, 619, 635, 647, 659, 662, 674, 686, 689, 701, 713, 716, 728, 740, 743, 760, 777, 780, 796, 812, 815, 831, 847, 850, 857, 864, 867, 874, 881, 884, 901, 918, 921, 933, 945, 948, 964, 980, 983, 985, 987, 990, 997, 1004, 1007, 1019, 1031, 1034, 1042, 1050, 1053, 1069, 1092, 1115, 1118, 1133, 1150, 1167, 1170, 1182, 1194, 1197, 1213, 1229, 1232, 1239, 1246, 1249] 26 rfl).trans (by simp (maxSteps := 10000000) only [R0_12, bindI, Option.bind_some, if_true_, and_self, ite_true, true_and, true_or, or_true])
set_option maxRecDepth 100000 in
theorem r271_51 (d : Nat) (x0 x4 s0 : Int) : Ev prog clsT X d mc271 51 [(2, x0), (2, 0), (2, 89), (2, 158), (0, x4), (3, 0), (3, 0), (3, 0)] [(0, s0)] (mk E c s (hh g)) =
  ((aget X 100 ((mk E c s (hh g))) x0 ((w32 (x4 + 1)))).bind fun v1 =>
  (aget X 100 ((mk E c s (hh g))) x0 ((w32 (x4 + 2)))).bind fun v2 =>
  (aget X 100 ((mk E c s (hh g))) x0 ((w32 (x4 + 3)))).bind fun v3 =>
  (aget X 100 ((mk E c s (hh g))) x0 ((w32 (x4 + 4)))).bind fun v4 =>
  if cmpI .eq v4 0 = true then
  ((Call prog clsT X d 151 [(2, 89), (0, v1), (0, v2), (0, v3), (0, 0)] ((mk E c s (hh g)))).bind fun r5 => if r5.1.1 = 4 then none else
    Ev prog clsT X d mc271 77 [(2, x0), (2, 0), (2, 89), (2, 158), (0, x4), (3, 0), (3, 0), (3, 0)] (pushR r5.1 [(0, s0)]) r5.2)
else
  ((Call prog clsT X d 151 [(2, 89), (0, v1), (0, v2), (0, v3), (0, 1)] ((mk E c s (hh g)))).bind fun r6 => if r6.1.1 = 4 then none else
    Ev prog clsT X d mc271 77 [(2, x0), (2, 0), (2, 89), (2, 158), (0, x4), (3, 0), (3, 0), (3, 0)] (pushR r6.1 [(0, s0)]) r6.2)) :=
  (evk_at (r := ((aget X 100 ((mk E c s (hh g))) x0 ((w32 (x4 + 1)))).bind fun v1 =>
  (aget X 100 ((mk E c s (hh g))) x0 ((w32 (x4 + 2)))).bind fun v2 =>
  (aget X 100 ((mk E c s (hh g))) x0 ((w32 (x4 + 3)))).bind fun v3 =>
  (aget X 100 ((mk E c s (hh g))) x0 ((w32 (x4 + 4)))).bind fun v4 =>
  if cmpI .eq v4 0 = true then
  (if (2 : Nat) = 2 ∧ rcv ((mk E c s (hh g))) 89 13 = true then
    ((Call prog clsT X d 151 [(2, 89), (0, v1), (0, v2), (0, v3), (0, 0)] ((mk E c s (hh g)))).bind fun r5 => if r5.1.1 = 4 then none else
    Ev prog clsT X d mc271 77 [(2, x0), (2, 0), (2, 89), (2, 158), (0, x4), (3, 0), (3, 0), (3, 0)] (pushR r5.1 [(0, s0)]) r5.2) else none)
else
  (if (2 : Nat) = 2 ∧ rcv ((mk E c s (hh g))) 89 13 = true then
    ((Call prog clsT X d 151 [(2, 89), (0, v1), (0, v2), (0, v3), (0, 1)] ((mk E c s (hh g)))).bind fun r6 => if r6.1.1 = 4 then none else
    Ev prog clsT X d mc271 77 [(2, x0), (2, 0), (2, 89), (2, 158), (0, x4), (3, 0), (3, 0), (3, 0)] (pushR r6.1 [(0, s0)]) r6.2) else none))) X [0, 3, 7, 13, 24, 25, 51, 77, 80, 107, 134, 137, 190, 243, 246, 253, 260, 263, 265, 267, 270, 272, 274, 277, 311, 345, 348, 356, 364, 367, 383, 396, 409, 412, 428, 440, 452, 455, 462, 469, 472, 484, 496, 499, 511, 523, 526, 543, 560, 563, 575, 587, 590, 603, 616, 619, 635, 647, 659, 662, 674, 686, 689, 701, 713, 716, 728, 740, 743, 760, 777, 780, 796, 812, 815, 831, 847, 850, 857, 864, 867, 874, 881, 884, 901, 918, 921, 933, 945, 948, 964, 980, 983, 985, 987, 990, 997, 1004, 1007, 1019, 1031, 1034, 1042, 1050, 1053, 1069, 1092, 1115, 1118, 1133, 1150, 1167, 1170, 1182, 1194, 1197, 1213, 1229, 1232, 1239, 1246, 1249] 26 rfl).trans (by simp (maxSteps := 10000000) only [R89_13, bindI, Option.bind_some, if_true_, and_self, ite_true, true_and, true_or, or_true])
set_option maxRecDepth 100000 in
theorem r271_77 (d : Nat) (x0 x4 s0 s1 : Int) : Ev prog clsT X d mc271 77 [(2, x0), (2, 0), (2, 89), (2, 158), (0, x4), (3, 0), (3, 0), (3, 0)] [(0, s1), (0, s0)] (mk E c s (hh g)) =
  (if cmpI .eq s0 s1 = true then
  (Ev prog clsT X d mc271 1249 [(2, x0), (2, 0), (2, 89), (2, 158), (0, x4), (3, 0), (3, 0), (3, 0)] [] (mk E c s (hh g)))
else
  (some ((0, 0), ((mk E c s (hh g)))))) :=
  (evk_at (r := (if cmpI .eq s0 s1 = true then
  (Ev prog clsT X d mc271 1249 [(2, x0), (2, 0), (2, 89), (2, 158), (0, x4), (3, 0), (3, 0), (3, 0)] [] (mk E c s (hh g)))
else
  (some ((0, 0), (mk E c s (hh g)))))) X [0, 3, 7, 13, 24, 25, 51, 77, 80, 107, 134, 137, 190, 243, 246, 253, 260, 263, 265, 267, 270, 272, 274, 277, 311, 345, 348, 356, 364, 367, 383, 396, 409, 412, 428, 440, 452, 455, 462, 469, 472, 484, 496, 499, 511, 523, 526, 543, 560, 563, 575, 587, 590, 603, 616, 619, 635, 647, 659, 662, 674, 686, 689, 701, 713, 716, 728, 740, 743, 760, 777, 780, 796, 812, 815, 831, 847, 850, 857, 864, 867, 874, 881, 884, 901, 918, 921, 933, 945, 948, 964, 980, 983, 985, 987, 990, 997, 1004, 1007, 1019, 1031, 1034, 1042, 1050, 1053, 1069, 1092, 1115, 1118, 1133, 1150, 1167, 1170, 1182, 1194, 1197, 1213, 1229, 1232, 1239, 1246, 1249] 4 rfl).trans (by simp (maxSteps := 10000000) only [bindI, Option.bind_some, if_true_, and_self, ite_true, true_and, true_or, or_true])
set_option maxRecDepth 100000 in
theorem r271_80 (d : Nat) (x0 x4 : Int) : Ev prog clsT X d mc271 80 [(2, x0), (2, 0), (2, 89), (2, 158), (0, x4), (3, 0), (3, 0), (3, 0)] [] (mk E c s (hh g)) =
  ((aget X 100 ((mk E c s (hh g))) x0 ((w32 (x4 + 1)))).bind fun v1 =>
  (aget X 100 ((mk E c s (hh g))) x0 ((w32 (x4 + 2)))).bind fun v2 =>
  (aget X 100 ((mk E c s (hh g))) x0 ((w32 (x4 + 3)))).bind fun v3 =>
  (aget X 100 ((mk E c s (hh g))) x0 ((w32 (x4 + 4)))).bind fun v4 =>
  (aget X 100 ((mk E c s (hh g))) x0 ((w32 (x4 + 5)))).bind fun v5 =>
  (Call prog clsT X d 91 [(2, 0), (0, v1), (0, v2), (0, v3), (0, v4), (0, v5)] ((mk E c s (hh g)))).bind fun r6 => if r6.1.1 = 4 then none else
  Ev prog clsT X d mc271 107 [(2, x0), (2, 0), (2, 89), (2, 158), (0, x4), (3, 0), (3, 0), (3, 0)] (pushR r6.1 []) r6.2) :=
  (evk_at (r := ((aget X 100 ((mk E c s (hh g))) x0 ((w32 (x4 + 1)))).bind fun v1 =>
  (aget X 100 ((mk E c s (hh g))) x0 ((w32 (x4 + 2)))).bind fun v2 =>
  (aget X 100 ((mk E c s (hh g))) x0 ((w32 (x4 + 3)))).bind fun v3 =>
  (aget X 100 ((mk E c s (hh g))) x0 ((w32 (x4 + 4)))).bind fun v4 =>
  (aget X 100 ((mk E c s (hh g))) x0 ((w32 (x4 + 5)))).bind fun v5 =>
  if (2 : Nat) = 2 ∧ rcv ((mk E c s (hh g))) 0 12 = true then
  ((Call prog clsT X d 91 [(2, 0), (0, v1), (0, v2), (0, v3), (0, v4), (0, v5)] ((mk E c s (hh g)))).bind fun r6 => if r6.1.1 = 4 then none else
  Ev prog clsT X d mc271 107 [(2, x0), (2, 0), (2, 89), (2, 158), (0, x4), (3, 0), (3, 0), (3, 0)] (pushR r6.1 []) r6.2) else none)) X [0, 3, 7, 13, 24, 25, 51, 77, 80, 107, 134, 137, 190, 243, 246, 253, 260, 263, 265, 267, 270, 272, 274, 277, 311, 345, 348, 356, 364, 367, 383, 396, 409, 412, 428, 440, 452, 455, 462, 469, 472, 484, 496, 499, 511, 523, 526, 543, 560, 563, 575, 587, 590, 603, 616, 619, 635, 647, 659, 662, 674, 686, 689, 701, 713, 716, 728, 740, 743, 760, 777, 780, 796, 812, 815, 831, 847, 850, 857, 864, 867, 874, 881, 884, 901, 918, 921, 933, 945, 948, 964, 980, 983, 985, 987, 990, 997, 1004, 1007, 1019, 1031, 1034, 1042, 1050, 1053, 1069, 1092, 1115, 1118, 1133, 1150, 1167, 1170, 1182, 1194, 1197, 1213, 1229, 1232, 1239, 1246, 1249] 28 rfl).trans (by simp (maxSteps := 10000000) only [R0_12, bindI, Option.bind_some, if_true_, and_self, ite_true, true_and, true_or, or_true])
set_option maxRecDepth 100000 in
theorem r271_107 (d : Nat) (x0 x4 s0 : Int) : Ev prog clsT X d mc271 107 [(2, x0), (2, 0), (2, 89), (2, 158), (0, x4), (3, 0), (3, 0), (3, 0)] [(0, s0)] (mk E c s (hh g)) =
  ((aget X 100 ((mk E c s (hh g))) x0 ((w32 (x4 + 1)))).bind fun v1 =>
  (aget X 100 ((mk E c s (hh g))) x0 ((w32 (x4 + 2)))).bind fun v2 =>
  (aget X 100 ((mk E c s (hh g))) x0 ((w32 (x4 + 3)))).bind fun v3 =>
  (aget X 100 ((mk E c s (hh g))) x0 ((w32 (x4 + 4)))).bind fun v4 =>
  (aget X 100 ((mk E c s (hh g))) x0 ((w32 (x4 + 5)))).bind fun v5 =>
  (Call prog clsT X d 153 [(2, 89), (0, v1), (0, v2), (0, v3), (0, v4), (0, v5)] ((mk E c s (hh g)))).bind fun r6 => if r6.1.1 = 4 then none else
  Ev prog clsT X d mc271 134 [(2, x0), (2, 0), (2, 89), (2, 158), (0, x4), (3, 0), (3, 0), (3, 0)] (pushR r6.1 [(0, s0)]) r6.2) :=
  (evk_at (r := ((aget X 100 ((mk E c s (hh g))) x0 ((w32 (x4 + 1)))).bind fun v1 =>
  (aget X 100 ((mk E c s (hh g))) x0 ((w32 (x4 + 2)))).bind fun v2 =>
  (aget X 100 ((mk E c s (hh g))) x0 ((w32 (x4 + 3)))).bind fun v3 =>
  (aget X 100 ((mk E c s (hh g))) x0 ((w32 (x4 + 4)))).bind fun v4 =>
  (aget X 100 ((mk E c s (hh g))) x0 ((w32 (x4 + 5)))).bind fun v5 =>
  if (2 : Nat) = 2 ∧ rcv ((mk E c s (hh g))) 89 13 = true then
  ((Call prog clsT X d 153 [(2, 89), (0, v1), (0, v2), (0, v3), (0, v4), (0, v5)] ((mk E c s (hh g)))).bind fun r6 => if r6.1.1 = 4 then none else
  Ev prog clsT X d mc271 134 [(2, x0), (2, 0), (2, 89), (2, 158), (0, x4), (3, 0), (3, 0), (3, 0)] (pushR r6.1 [(0, s0)]) r6.2) else none)) X [0, 3, 7, 13, 24, 25, 51, 77, 80, 107, 134, 137, 190, 243, 246, 253, 260, 263, 265, 267, 270, 272, 274, 277, 311, 345, 348, 356, 364, 367, 383, 396, 409, 412, 428, 440, 452, 455, 462, 469, 472, 484, 496, 499, 511, 523, 526, 543, 560, 563, 575, 587, 590, 603, 616, 619, 635, 647, 659, 662, 674, 686, 689, 701, 713, 716, 728, 740, 743, 760, 777, 780, 796, 812, 815, 831, 847, 850, 857, 864, 867, 874, 881, 884, 901, 918, 921, 933, 945, 948, 964, 980, 983, 985, 987, 990, 997, 1004, 1007, 1019, 1031, 1034, 1042, 1050, 1053, 1069, 1092, 1115, 1118, 1133, 1150, 1167, 1170, 1182, 1194, 1197, 1213, 1229, 1232, 1239, 1246, 1249] 28 rfl).trans (by simp (maxSteps := 10000000) only [R89_13, bindI, Option.bind_some, if_true_, and_self, ite_true, true_and, true_or, or_true])
set_option maxRecDepth 100000 in
theorem r271_134 (d : Nat) (x0 x4 s0 s1 : Int) : Ev prog clsT X d mc271 134 [(2, x0), (2, 0), (2, 89), (2, 158), (0, x4), (3, 0), (3, 0), (3, 0)] [(0, s1), (0, s0)] (mk E c s (hh g)) =
  (if cmpI .eq s0 s1 = true then
  (Ev prog clsT X d mc271 1249 [(2, x0), (2, 0), (2, 89), (2, 158), (0, x4), (3, 0), (3, 0), (3, 0)] [] (mk E c s (hh g)))
else
  (some ((0, 0), ((mk E c s (hh g)))))) :=
  (evk_at (r := (if cmpI .eq s0 s1 = true then
  (Ev prog clsT X d mc271 1249 [(2, x0), (2, 0), (2, 89), (2, 158), (0, x4), (3, 0), (3, 0), (3, 0)] [] (mk E c s (hh g)))
else
  (some ((0, 0), (mk E c s (hh g)))))) X [0, 3, 7, 13, 24, 25, 51, 77, 80, 107, 134, 137, 190, 243, 246, 253, 260, 263, 265, 267, 270, 272, 274, 277, 311, 345, 348, 356, 364, 367, 383, 396, 409, 412, 428, 440, 452, 455, 462, 469, 472, 484, 496, 499, 511, 523, 526, 543, 560, 563, 575, 587, 590, 603, 616, 619, 635, 647, 659, 662, 674, 686, 689, 701, 713, 716, 728, 740, 743, 760, 777, 780, 796, 812, 815, 831, 847, 850, 857, 864, 867, 874, 881, 884, 901, 918, 921, 933, 945, 948, 964, 980, 983, 985, 987, 990, 997, 1004, 1007, 1019, 1031, 1034, 1042, 1050, 1053, 1069, 1092, 1115, 1118, 1133, 1150, 1167, 1170, 1182, 1194, 1197, 1213, 1229, 1232, 1239, 1246, 1249] 4 rfl).trans (by simp (maxSteps := 10000000) only [bindI, Option.bind_some, if_true_, and_self, ite_true, true_and, true_or, or_true])
set_option maxRecDepth 100000 in
theorem r271_137 (d : Nat) (x0 x4 : Int) : Ev prog clsT X d mc271 137 [(2, x0), (2, 0), (2, 89), (2, 158), (0, x4), (3, 0), (3, 0), (3, 0)] [] (mk E c s (hh g)) =
  ((aget X 100 ((mk E c s (hh g))) x0 ((w32 (x4 + 1)))).bind fun v1 =>
  (aget X 100 ((mk E c s (hh g))) x0 ((w32 (x4 + 2)))).bind fun v2 =>
  (aget X 100 ((mk E c s (hh g))) x0 ((w32 (x4 + 3)))).bind fun v3 =>
  (aget X 100 ((mk E c s (hh g))) x0 ((w32 (x4 + 4)))).bind fun v4 =>
  (aget X 100 ((mk E c s (hh g))) x0 ((w32 (x4 + 5)))).bind fun v5 =>
  (aget X 100 ((mk E c s (hh g))) x0 ((w32 (x4 + 6)))).bind fun v6 =>
  (Call prog clsT X d 92 [(2, 0), (1, (lor64 ((lshl64 v1 32)) ((land64 v2 4294967295)))), (1, (lor64 ((lshl64 v3 32)) ((land64 v4 4294967295)))), (1, (lor64 ((lshl64 v5 32)) ((land64 v6 4294967295))))] ((mk E c s (hh g)))).bind fun r7 => if r7.1.1 = 4 then none else
  Ev prog clsT X d mc271 190 [(2, x0), (2, 0), (2, 89), (2, 158), (0, x4), (3, 0), (3, 0), (3, 0)] (pushR r7.1 []) r7.2) :=
  (evk_at (r := ((aget X 100 ((mk E c s (hh g))) x0 ((w32 (x4 + 1)))).bind fun v1 =>
  (aget X 100 ((mk E c s (hh g))) x0 ((w32 (x4 + 2)))).bind fun v2 =>
  (aget X 100 ((mk E c s (hh g))) x0 ((w32 (x4 + 3)))).bind fun v3 =>
  (aget X 100 ((mk E c s (hh g))) x0 ((w32 (x4 + 4)))).bind fun v4 =>
  (aget X 100 ((mk E c s (hh g))) x0 ((w32 (x4 + 5)))).bind fun v5 =>
  (aget X 100 ((mk E c s (hh g))) x0 ((w32 (x4 + 6)))).bind fun v6 =>
  if (2 : Nat) = 2 ∧ rcv ((mk E c s (hh g))) 0 12 = true then
  ((Call prog clsT X d 92 [(2, 0), (1, (lor64 ((lshl64 v1 32)) ((land64 v2 4294967295)))), (1, (lor64 ((lshl64 v3 32)) ((land64 v4 4294967295)))), (1, (lor64 ((lshl64 v5 32)) ((land64 v6 4294967295))))] ((mk E c s (hh g)))).bind fun r7 => if r7.1.1 = 4 then none else
  Ev prog clsT X d mc271 190 [(2, x0), (2, 0), (2, 89), (2, 158), (0, x4), (3, 0), (3, 0), (3, 0)] (pushR r7.1 []) r7.2) else none)) X [0, 3, 7, 13, 24, 25, 51, 77, 80, 107, 134, 137, 190, 243, 246, 253, 260, 263, 265, 267, 270, 272, 274, 277, 311, 345, 348, 356, 364, 367, 383, 396, 409, 412, 428, 440, 452, 455, 462, 469, 472, 484, 496, 499, 511, 523, 526, 543, 560, 563, 575, 587, 590, 603, 616, 619, 635, 647, 659, 662, 674, 686, 689, 701, 713, 716, 728, 740, 743, 760, 777, 780, 796, 812, 815, 831, 847, 850, 857, 864, 867, 874, 881, 884, 901, 918, 921, 933, 945, 948, 964, 980, 983, 985, 987, 990, 997, 1004, 1007, 1019, 1031, 1034, 1042, 1050, 1053, 1069, 1092, 1115, 1118, 1133, 1150, 1167, 1170, 1182, 1194, 1197, 1213, 1229, 1232, 1239, 1246, 1249] 54 rfl).trans (by simp (maxSteps := 10000000) only [R0_12, bindI, Option.bind_some, if_true_, and_self, ite_true, true_and, true_or, or_true])
set_option maxRecDepth 100000 in
theorem r271_190 (d : Nat) (x0 x4 s0 : Int) : Ev prog clsT X d mc271 190 [(2, x0), (2, 0), (2, 89), (2, 158), (0, x4), (3, 0), (3, 0), (3, 0)] [(0, s0)] (mk E c s (hh g)) =
  ((aget X 100 ((mk E c s (hh g))) x0 ((w32 (x4 + 1)))).bind fun v1 =>
  (aget X 100 ((mk E c s (hh g))) x0 ((w32 (x4 + 2)))).bind fun v2 =>
  (aget X 100 ((mk E c s (hh g))) x0 ((w32 (x4 + 3)))).bind fun v3 =>
  (aget X 100 ((mk E c s (hh g))) x0 ((w32 (x4 + 4)))).bind fun v4 =>
  (aget X 100 ((mk E c s (hh g))) x0 ((w32 (x4 + 5)))).bind fun v5 =>
  (aget X 100 ((mk E c s (hh g))) x0 ((w32 (x4 + 6)))).bind fun v6 =>
  (Call prog clsT X d 164 [(2, 89), (1, (lor64 ((lshl64 v1 32)) ((land64 v2 4294967295)))), (1, (lor64 ((lshl64 v3 32)) ((land64 v4 4294967295)))), (1, (lor64 ((lshl64 v5 32)) ((land64 v6 4294967295))))] ((mk E c s (hh g)))).bind fun r7 => if r7.1.1 = 4 then none else
  Ev prog clsT X d mc271 243 [(2, x0), (2, 0), (2, 89), (2, 158), (0, x4), (3, 0), (3, 0), (3, 0)] (pushR r7.1 [(0, s0)]) r7.2) :=
  (evk_at (r := ((aget X 100 ((mk E c s (hh g))) x0 ((w32 (x4 + 1)))).bind fun v1 =>
  (aget X 100 ((mk E c s (hh g))) x0 ((w32 (x4 + 2)))).bind fun v2 =>
  (aget X 100 ((mk E c s (hh g))) x0 ((w32 (x4 + 3)))).bind fun v3 =>
  (aget X 100 ((mk E c s (hh g))) x0 ((w32 (x4 + 4)))).bind fun v4 =>
  (aget X 100 ((mk E c s (hh g))) x0 ((w32 (x4 + 5)))).bind fun v5 =>
  (aget X 100 ((mk E c s (hh g))) x0 ((w32 (x4 + 6)))).bind fun v6 =>
  if (2 : Nat) = 2 ∧ rcv ((mk E c s (hh g))) 89 13 = true then
  ((Call prog clsT X d 164 [(2, 89), (1, (lor64 ((lshl64 v1 32)) ((land64 v2 4294967295)))), (1, (lor64 ((lshl64 v3 32)) ((land64 v4 4294967295)))), (1, (lor64 ((lshl64 v5 32)) ((land64 v6 4294967295))))] ((mk E c s (hh g)))).bind fun r7 => if r7.1.1 = 4 then none else
  Ev prog clsT X d mc271 243 [(2, x0), (2, 0), (2, 89), (2, 158), (0, x4), (3, 0), (3, 0), (3, 0)] (pushR r7.1 [(0, s0)]) r7.2) else none)) X [0, 3, 7, 13, 24, 25, 51, 77, 80, 107, 134, 137, 190, 243, 246, 253, 260, 263, 265, 267, 270, 272, 274, 277, 311, 345, 348, 356, 364, 367, 383, 396, 409, 412, 428, 440, 452, 455, 462, 469, 472, 484, 496, 499, 511, 523, 526, 543, 560, 563, 575, 587, 590, 603, 616, 619, 635, 647, 659, 662, 674, 686, 689, 701, 713, 716, 728, 740, 743, 760, 777, 780, 796, 812, 815, 831, 847, 850, 857, 864, 867, 874, 881, 884, 901, 918, 921, 933, 945, 948, 964, 980, 983, 985, 987, 990, 997, 1004, 1007, 1019, 1031, 1034, 1042, 1050, 1053, 1069, 1092, 1115, 1118, 1133, 1150, 1167, 1170, 1182, 1194, 1197, 1213, 1229, 1232, 1239, 1246, 1249] 54 rfl).trans (by simp (maxSteps := 10000000) only [R89_13, bindI, Option.bind_some, if_true_, and_self, ite_true, true_and, true_or, or_true])
set_option maxRecDepth 100000 in
theorem r271_243 (d : Nat) (x0 x4 s0 s1 : Int) : Ev prog clsT X d mc271 243 [(2, x0), (2, 0), (2, 89), (2, 158), (0, x4), (3, 0), (3, 0), (3, 0)] [(0, s1), (0, s0)] (mk E c s (hh g)) =
  (if cmpI .eq s0 s1 = true then
  (Ev prog clsT X d mc271 1249 [(2, x0), (2, 0), (2, 89), (2, 158), (0, x4), (3, 0), (3, 0), (3, 0)] [] (mk E c s (hh g)))
else
  (some ((0, 0), ((mk E c s (hh g)))))) :=
  (evk_at (r := (if cmpI .eq s0 s1 = true then
  (Ev prog clsT X d mc271 1249 [(2, x0), (2, 0), (2, 89), (2, 158), (0, x4), (3, 0), (3, 0), (3, 0)] [] (mk E c s (hh g)))
else
  (some ((0, 0), (mk E c s (hh g)))))) X [0, 3, 7, 13, 24, 25, 51, 77, 80, 107, 134, 137, 190, 243, 246, 253, 260, 263, 265, 267, 270, 272, 274, 277, 311, 345, 348, 356, 364, 367, 383, 396, 409, 412, 428, 440, 452, 455, 462, 469, 472, 484, 496, 499, 511, 523, 526, 543, 560, 563, 575, 587, 590, 603, 616, 619, 635, 647, 659, 662, 674, 686, 689, 701, 713, 716, 728, 740, 743, 760, 777, 780, 796, 812, 815, 831, 847, 850, 857, 864, 867, 874, 881, 884, 901, 918, 921, 933, 945, 948, 964, 980, 983, 985, 987, 990, 997, 1004, 1007, 1019, 1031, 1034, 1042, 1050, 1053, 1069, 1092, 1115, 1118, 1133, 1150, 1167, 1170, 1182, 1194, 1197, 1213, 1229, 1232, 1239, 1246, 1249] 4 rfl).trans (by simp (maxSteps := 10000000) only [bindI, Option.bind_some, if_true_, and_self, ite_true, true_and, true_or, or_true])
set_option maxRecDepth 100000 in
theorem r271_246 (d : Nat) (x0 x4 : Int) : Ev prog clsT X d mc271 246 [(2, x0), (2, 0), (2, 89), (2, 158), (0, x4), (3, 0), (3, 0), (3, 0)] [] (mk E c s (hh g)) =
  ((aget X 100 ((mk E c s (hh g))) x0 ((w32 (x4 + 1)))).bind fun v1 =>
  (Call prog clsT X d 93 [(2, 0), (0, v1)] ((mk E c s (hh g)))).bind fun r2 => if r2.1.1 = 4 then none else
  Ev prog clsT X d mc271 253 [(2, x0), (2, 0), (2, 89), (2, 158), (0, x4), (3, 0), (3, 0), (3, 0)] (pushR r2.1 []) r2.2) :=
  (evk_at (r := ((aget X 100 ((mk E c s (hh g))) x0 ((w32 (x4 + 1)))).bind fun v1 =>
  if (2 : Nat) = 2 ∧ rcv ((mk E c s (hh g))) 0 12 = true then
  ((Call prog clsT X d 93 [(2, 0), (0, v1)] ((mk E c s (hh g)))).bind fun r2 => if r2.1.1 = 4 then none else
  Ev prog clsT X d mc271 253 [(2, x0), (2, 0), (2, 89), (2, 158), (0, x4), (3, 0), (3, 0), (3, 0)] (pushR r2.1 []) r2.2) else none)) X [0, 3, 7, 13, 24, 25, 51, 77, 80, 107, 134, 137, 190, 243, 246, 253, 260, 263, 265, 267, 270, 272, 274, 277, 311, 345, 348, 356, 364, 367, 383, 396, 409, 412, 428, 440, 452, 455, 462, 469, 472, 484, 496, 499, 511, 523, 526, 543, 560, 563, 575, 587, 590, 603, 616, 619, 635, 647, 659, 662, 674, 686, 689, 701, 713, 716, 728, 740, 743, 760, 777, 780, 796, 812, 815, 831, 847, 850, 857, 864, 867, 874, 881, 884, 901, 918, 921, 933, 945, 948, 964, 980, 983, 985, 987, 990, 997, 1004, 1007, 1019, 1031, 1034, 1042, 1050, 1053, 1069, 1092, 1115, 1118, 1133, 1150, 1167, 1170, 1182, 1194, 1197, 1213, 1229, 1232, 1239, 1246, 1249] 8 rfl).trans (by simp (maxSteps := 10000000) only [R0_12, bindI, Option.bind_some, if_true_, and_self, ite_true, true_and, true_or, or_true])
set_option maxRecDepth 100000 in
theorem r271_253 (d : Nat) (x0 x4 s0 : Int) : Ev prog clsT X d mc271 253 [(2, x0), (2, 0), (2, 89), (2, 158), (0, x4), (3, 0), (3, 0), (3, 0)] [(0, s0)] (mk E c s (hh g)) =
  ((aget X 100 ((mk E c s (hh g))) x0 ((w32 (x4 + 1)))).bind fun v1 =>
  (Call prog clsT X d 165 [(2, 89), (0, v1)] ((mk E c s (hh g)))).bind fun r2 => if r2.1.1 = 4 then none else
  Ev prog clsT X d mc271 260 [(2, x0), (2, 0), (2, 89), (2, 158), (0, x4), (3, 0), (3, 0), (3, 0)] (pushR r2.1 [(0, s0)]) r2.2) :=
  (evk_at (r := ((aget X 100 ((mk E c s (hh g))) x0 ((w32 (x4 + 1)))).bind fun v1 =>
  if (2 : Nat) = 2 ∧ rcv ((mk E c s (hh g))) 89 13 = true then
  ((Call prog clsT X d 165 [(2, 89), (0, v1)] ((mk E c s (hh g)))).bind fun r2 => if r2.1.1 = 4 then none else
  Ev prog clsT X d mc271 260 [(2, x0), (2, 0), (2, 89), (2, 158), (0, x4), (3, 0), (3, 0), (3, 0)] (pushR r2.1 [(0, s0)]) r2.2) else none)) X [0, 3, 7, 13, 24, 25, 51, 77, 80, 107, 134, 137, 190, 243, 246, 253, 260, 263, 265, 267, 270, 272, 274, 277, 311, 345, 348, 356, 364, 367, 383, 396, 409, 412, 428, 440, 452, 455, 462, 469, 472, 484, 496, 499, 511, 523, 526, 543, 560, 563, 575, 587, 590, 603, 616, 619, 635, 647, 659, 662, 674, 686, 689, 701, 713, 716, 728, 740, 743, 760, 777, 780, 796, 812, 815, 831, 847, 850, 857, 864, 867, 874, 881, 884, 901, 918, 921, 933, 945, 948, 964, 980, 983, 985, 987, 990, 997, 1004, 1007, 1019, 1031, 1034, 1042, 1050, 1053, 1069, 1092, 1115, 1118, 1133, 1150, 1167, 1170, 1182, 1194, 1197, 1213, 1229, 1232, 1239, 1246, 1249] 8 rfl).trans (by simp (maxSteps := 10000000) only [R89_13, bindI, Option.bind_some, if_true_, and_self, ite_true, true_and, true_or, or_true])
set_option maxRecDepth 100000 in
theorem r271_260 (d : Nat) (x0 x4 s0 s1 : Int) : Ev prog clsT X d mc271 260 [(2, x0), (2, 0), (2, 89), (2, 158), (0, x4), (3, 0), (3, 0), (3, 0)] [(0, s1), (0, s0)] (mk E c s (hh g)) =
  (if cmpI .eq s0 s1 = true then
  (Ev prog clsT X d mc271 1249 [(2, x0), (2, 0), (2, 89), (2, 158), (0, x4), (3, 0), (3, 0), (3, 0)] [] (mk E c s (hh g)))
else
  (some ((0, 0), ((mk E c s (hh g)))))) :=
  (evk_at (r := (if cmpI .eq s0 s1 = true then
  (Ev prog clsT X d mc271 1249 [(2, x0), (2, 0), (2, 89), (2, 158), (0, x4), (3, 0), (3, 0), (3, 0)] [] (mk E c s (hh g)))
else
  (some ((0, 0), (mk E c s (hh g)))))) X [0, 3, 7, 13, 24, 25, 51, 77, 80, 107, 134, 137, 190, 243, 246, 253, 260, 263, 265, 267, 270, 272, 274, 277, 311, 345, 348, 356, 364, 367, 383, 396, 409, 412, 428, 440, 452, 455, 462, 469, 472, 484, 496, 499, 511, 523, 526, 543, 560, 563, 575, 587, 590, 603, 616, 619, 635, 647, 659, 662, 674, 686, 689, 701, 713, 716, 728, 740, 743, 760, 777, 780, 796, 812, 815, 831, 847, 850, 857, 864, 867, 874, 881, 884, 901, 918, 921, 933, 945, 948, 964, 980, 983, 985, 987, 990, 997, 1004, 1007, 1019, 1031, 1034, 1042, 1050, 1053, 1069, 1092, 1115, 1118, 1133, 1150, 1167, 1170, 1182, 1194, 1197, 1213, 1229, 1232, 1239, 1246, 1249] 4 rfl).trans (by simp (maxSteps := 10000000) only [bindI, Option.bind_some, if_true_, and_self, ite_true, true_and, true_or, or_true])
set_option maxRecDepth 100000 in
theorem r271_263 (d : Nat) (x0 x4 : Int) : Ev prog clsT X d mc271 263 [(2, x0), (2, 0), (2, 89), (2, 158), (0, x4), (3, 0), (3, 0), (3, 0)] [] (mk E c s (hh g)) =
  ((Call prog clsT X d 94 [(2, 0)] ((mk E c s (hh g)))).bind fun r1 => if r1.1.1 = 4 then none else
  Ev prog clsT X d mc271 265 [(2, x0), (2, 0), (2, 89), (2, 158), (0, x4), (3, 0), (3, 0), (3, 0)] (pushR r1.1 []) r1.2) :=
  (evk_at (r := (if (2 : Nat) = 2 ∧ rcv ((mk E c s (hh g))) 0 12 = true then
  ((Call prog clsT X d 94 [(2, 0)] ((mk E c s (hh g)))).bind fun r1 => if r1.1.1 = 4 then none else
  Ev prog clsT X d mc271 265 [(2, x0), (2, 0), (2, 89), (2, 158), (0, x4), (3, 0), (3, 0), (3, 0)] (pushR r1.1 []) r1.2) else none)) X [0, 3, 7, 13, 24, 25, 51, 77, 80, 107, 134, 137, 190, 243, 246, 253, 260, 263, 265, 267, 270, 272, 274, 277, 311, 345, 348, 356, 364, 367, 383, 396, 409, 412, 428, 440, 452, 455, 462, 469, 472, 484, 496, 499, 511, 523, 526, 543, 560, 563, 575, 587, 590, 603, 616, 619, 635, 647, 659, 662, 674, 686, 689, 701, 713, 716, 728, 740, 743, 760, 777, 780, 796, 812, 815, 831, 847, 850, 857, 864, 867, 874, 881, 884, 901, 918, 921, 933, 945, 948, 964, 980, 983, 985, 987, 990, 997, 1004, 1007, 1019, 1031, 1034, 1042, 1050, 1053, 1069, 1092, 1115, 1118, 1133, 1150, 1167, 1170, 1182, 1194, 1197, 1213, 1229, 1232, 1239, 1246, 1249] 3 rfl).trans (by simp (maxSteps := 10000000) only [R0_12, bindI, Option.bind_some, if_true_, and_self, ite_true, true_and, true_or, or_true])
set_option maxRecDepth 100000 in
theorem r271_265 (d : Nat) (x0 x4 s0 : Int) : Ev prog clsT X d mc271 265 [(2, x0), (2, 0), (2, 89), (2, 158), (0, x4), (3, 0), (3, 0), (3, 0)] [(0, s0)] (mk E c s (hh g)) =
  ((Call prog clsT X d 185 [(2, 89)] ((mk E c s (hh g)))).bind fun r1 => if r1.1.1 = 4 then none else
  Ev prog clsT X d mc271 267 [(2, x0), (2, 0), (2, 89), (2, 158), (0, x4), (3, 0), (3, 0), (3, 0)] (pushR r1.1 [(0, s0)]) r1.2) :=
  (evk_at (r := (if (2 : Nat) = 2 ∧ rcv ((mk E c s (hh g))) 89 13 = true then
  ((Call prog clsT X d 185 [(2, 89)] ((mk E c s (hh g)))).bind fun r1 => if r1.1.1 = 4 then none else
  Ev prog clsT X d mc271 267 [(2, x0), (2, 0), (2, 89), (2, 158), (0, x4), (3, 0), (3, 0), (3, 0)] (pushR r1.1 [(0, s0)]) r1.2) else none)) X [0, 3, 7, 13, 24, 25, 51, 77, 80, 107, 134, 137, 190, 243, 246, 253, 260, 263, 265, 267, 270, 272, 274, 277, 311, 345, 348, 356, 364, 367, 383, 396, 409, 412, 428, 440, 452, 455, 462, 469, 472, 484, 496, 499, 511, 523, 526, 543, 560, 563, 575, 587, 590, 603, 616, 619, 635, 647, 659, 662, 674, 686, 689, 701, 713, 716, 728, 740, 743, 760, 777, 780, 796, 812, 815, 831, 847, 850, 857, 864, 867, 874, 881, 884, 901, 918, 921, 933, 945, 948, 964, 980, 983, 985, 987, 990, 997, 1004, 1007, 1019, 1031, 1034, 1042, 1050, 1053, 1069, 1092, 1115, 1118, 1133, 1150, 1167, 1170, 1182, 1194, 1197, 1213, 1229, 1232, 1239, 1246, 1249] 3 rfl).trans (by simp (maxSteps := 10000000) only [R89_13, bindI, Option.bind_some, if_true_, and_self, ite_true, true_and, true_or, or_true])
set_option maxRecDepth 100000 in
theorem r271_267 (d : Nat) (x0 x4 s0 s1 : Int) : Ev prog clsT X d mc271 267 [(2, x0), (2, 0), (2, 89), (2, 158), (0, x4), (3, 0), (3, 0), (3, 0)] [(0, s1), (0, s0)] (mk E c s (hh g)) =
  (if cmpI .eq s0 s1 = true then
  (Ev prog clsT X d mc271 1249 [(2, x0), (2, 0), (2, 89), (2, 158), (0, x4), (3, 0), (3, 0), (3, 0)] [] (mk E c s (hh g)))
else
  (some ((0, 0), ((mk E c s (hh g)))))) :=
  (evk_at (r := (if cmpI .eq s0 s1 = true then
  (Ev prog clsT X d mc271 1249 [(2, x0), (2, 0), (2, 89), (2, 158), (0, x4), (3, 0), (3, 0), (3, 0)] [] (mk E c s (hh g)))
else
  (some ((0, 0), (mk E c s (hh g)))))) X [0, 3, 7, 13, 24, 25, 51, 77, 80, 107, 134, 137, 190, 243, 246, 253, 260, 263, 265, 267, 270, 272, 274, 277, 311, 345, 348, 356, 364, 367, 383, 396, 409, 412, 428, 440, 452, 455, 462, 469, 472, 484, 496, 499, 511, 523, 526, 543, 560, 563, 575, 587, 590, 603, 616, 619, 635, 647, 659, 662, 674, 686, 689, 701, 713, 716, 728, 740, 743, 760, 777, 780, 796, 812, 815, 831, 847, 850, 857, 864, 867, 874, 881, 884, 901, 918, 921, 933, 945, 948, 964, 980, 983, 985, 987, 990, 997, 1004, 1007, 1019, 1031, 1034, 1042, 1050, 1053, 1069, 1092, 1115, 1118, 1133, 1150, 1167, 1170, 1182, 1194, 1197, 1213, 1229, 1232, 1239, 1246, 1249] 4 rfl).trans (by simp (maxSteps := 10000000) only [bindI, Option.bind_some, if_true_, and_self, ite_true, true_and, true_or, or_true])
set_option maxRecDepth 100000 in
theorem r271_270 (d : Nat) (x0 x4 : Int) : Ev prog clsT X d mc271 270 [(2, x0), (2, 0), (2, 89), (2, 158), (0, x4), (3, 0), (3, 0), (3, 0)] [] (mk E c s (hh g)) =
  ((Call prog clsT X d 95 [(2, 0)] ((mk E c s (hh g)))).bind fun r1 => if r1.1.1 = 4 then none else
  Ev prog clsT X d mc271 272 [(2, x0), (2, 0), (2, 89), (2, 158), (0, x4), (3, 0), (3, 0), (3, 0)] (pushR r1.1 []) r1.2) :=
  (evk_at (r := (if (2 : Nat) = 2 ∧ rcv ((mk E c s (hh g))) 0 12 = true then
  ((Call prog clsT X d 95 [(2, 0)] ((mk E c s (hh g)))).bind fun r1 => if r1.1.1 = 4 then none else
  Ev prog clsT X d mc271 272 [(2, x0), (2, 0), (2, 89), (2, 158), (0, x4), (3, 0), (3, 0), (3, 0)] (pushR r1.1 []) r1.2) else none)) X [0, 3, 7, 13, 24, 25, 51, 77, 80, 107, 134, 137, 190, 243, 246, 253, 260, 263, 265, 267, 270, 272, 274, 277, 311, 345, 348, 356, 364, 367, 383, 396, 409, 412, 428, 440, 452, 455, 462, 469, 472, 484, 496, 499, 511, 523, 526, 543, 560, 563, 575, 587, 590, 603, 616, 619, 635, 647, 659, 662, 674, 686, 689, 701, 713, 716, 728, 740, 743, 760, 777, 780, 796, 812, 815, 831, 847, 850, 857, 864, 867, 874, 881, 884, 901, 918, 921, 933, 945, 948, 964, 980, 983, 985, 987, 990, 997, 1004, 1007, 1019, 1031, 1034, 1042, 1050, 1053, 1069, 1092, 1115, 1118, 1133, 1150, 1167, 1170, 1182, 1194, 1197, 1213, 1229, 1232, 1239, 1246, 1249] 3 rfl).trans (by simp (maxSteps := 10000000) only [R0_12, bindI, Option.bind_some, if_true_, and_self, ite_true, true_and, true_or, or_true])
set_option maxRecDepth 100000 in
theorem r271_272 (d : Nat) (x0 x4 s0 : Int) : Ev prog clsT X d mc271 272 [(2, x0), (2, 0), (2, 89), (2, 158), (0, x4), (3, 0), (3, 0), (3, 0)] [(0, s0)] (mk E c s (hh g)) =
  ((Call prog clsT X d 186 [(2, 89)] ((mk E c s (hh g)))).bind fun r1 => if r1.1.1 = 4 then none else
  Ev prog clsT X d mc271 274 [(2, x0), (2, 0), (2, 89), (2, 158), (0, x4), (3, 0), (3, 0), (3, 0)] (pushR r1.1 [(0, s0)]) r1.2) :=
  (evk_at (r := (if (2 : Nat) = 2 ∧ rcv ((mk E c s (hh g))) 89 13 = true then
  ((Call prog clsT X d 186 [(2, 89)] ((mk E c s (hh g)))).bind fun r1 => if r1.1.1 = 4 then none else
  Ev prog clsT X d mc271 274 [(2, x0), (2, 0), (2, 89), (2, 158), (0, x4), (3, 0), (3, 0), (3, 0)] (pushR r1.1 [(0, s0)]) r1.2) else none)) X [0, 3, 7, 13, 24, 25, 51, 77, 80, 107, 134, 137, 190, 243, 246, 253, 260, 263, 265, 267, 270, 272, 274, 277, 311, 345, 348, 356, 364, 367, 383, 396, 409, 412, 428, 440, 452, 455, 462, 469, 472, 484, 496, 499, 511, 523, 526, 543, 560, 563, 575, 587, 590, 603, 616, 619, 635, 647, 659, 662, 674, 686, 689, 701, 713, 716, 728, 740, 743, 760, 777, 780, 796, 812, 815, 831, 847, 850, 857, 864, 867, 874, 881, 884, 901, 918, 921, 933, 945, 948, 964, 980, 983, 985, 987, 990, 997, 1004, 1007, 1019, 1031, 1034, 1042, 1050, 1053, 1069, 1092, 1115, 1118, 1133, 1150, 1167, 1170, 1182, 1194, 1197, 1213, 1229, 1232, 1239, 1246, 1249] 3 rfl).trans (by simp (maxSteps := 10000000) only [R89_13, bindI, Option.bind_some, if_true_, and_self, ite_true, true_and, true_or, or_true])
set_option maxRecDepth 100000 in
theorem r271_274 (d : Nat) (x0 x4 s0 s1 : Int) : Ev prog clsT X d mc271 274 [(2, x0), (2, 0), (2, 89), (2, 158), (0, x4), (3, 0), (3, 0), (3, 0)] [(0, s1), (0, s0)] (mk E c s (hh g)) =
  (if cmpI .eq s0 s1 = true then
  (Ev prog clsT X d mc271 1249 [(2, x0), (2, 0), (2, 89), (2, 158), (0, x4), (3, 0), (3, 0), (3, 0)] [] (mk E c s (hh g)))
else
  (some ((0, 0), ((mk E c s (hh g)))))) :=
  (evk_at (r := (if cmpI .eq s0 s1 = true then
  (Ev prog clsT X d mc271 1249 [(2, x0), (2, 0), (2, 89), (2, 158), (0, x4), (3, 0), (3, 0), (3, 0)] [] (mk E c s (hh g)))
else
  (some ((0, 0), (mk E c s (hh g)))))) X [0, 3, 7, 13, 24, 25, 51, 77, 80, 107, 134, 137, 190, 243, 246, 253, 260, 263, 265, 267, 270, 272, 274, 277, 311, 345, 348, 356, 364, 367, 383, 396, 409, 412, 428, 440, 452, 455, 462, 469, 472, 484, 496, 499, 511, 523, 526, 543, 560, 563, 575, 587, 590, 603, 616, 619, 635, 647, 659, 662, 674, 686, 689, 701, 713, 716, 728, 740, 743, 760, 777, 780, 796, 812, 815, 831, 847, 850, 857, 864, 867, 874, 881, 884, 901, 918, 921, 933, 945, 948, 964, 980, 983, 985, 987, 990, 997, 1004, 1007, 1019, 1031, 1034, 1042, 1050, 1053, 1069, 1092, 1115, 1118, 1133, 1150, 1167, 1170, 1182, 1194, 1197, 1213, 1229, 1232, 1239, 1246, 1249] 4 rfl).trans (by simp (maxSteps := 10000000) only [bindI, Option.bind_some, if_true_, and_self, ite_true, true_and, true_or, or_true])
set_option maxRecDepth 100000 in
theorem r271_277 (d : Nat) (x0 x4 : Int) : Ev prog clsT X d mc271 277 [(2, x0), (2, 0), (2, 89), (2, 158), (0, x4), (3, 0), (3, 0), (3, 0)] [] (mk E c s (hh g)) =
  ((aget X 100 ((mk E c s (hh g))) x0 ((w32 (x4 + 1)))).bind fun v1 =>
  (aget X 100 ((mk E c s (hh g))) x0 ((w32 (x4 + 2)))).bind fun v2 =>
  (aget X 100 ((mk E c s (hh g))) x0 ((w32 (x4 + 3)))).bind fun v3 =>
  (aget X 100 ((mk E c s (hh g))) x0 ((w32 (x4 + 4)))).bind fun v4 =>
  (aget X 100 ((mk E c s (hh g))) x0 ((w32 (x4 + 5)))).bind fun v5 =>
  (Call prog clsT X d 96 [(2, 0), (0, v1), (0, v2), (1, (lor64 ((lshl64 v3 32)) ((land64 v4 4294967295)))), (0, v5)] ((mk E c s (hh g)))).bind fun r6 => if r6.1.1 = 4 then none else
  Ev prog clsT X d mc271 311 [(2, x0), (2, 0), (2, 89), (2, 158), (0, x4), (3, 0), (3, 0), (3, 0)] (pushR r6.1 []) r6.2) :=
  (evk_at (r := ((aget X 100 ((mk E c s (hh g))) x0 ((w32 (x4 + 1)))).bind fun v1 =>
  (aget X 100 ((mk E c s (hh g))) x0 ((w32 (x4 + 2)))).bind fun v2 =>
  (aget X 100 ((mk E c s (hh g))) x0 ((w32 (x4 + 3)))).bind fun v3 =>
  (aget X 100 ((mk E c s (hh g))) x0 ((w32 (x4 + 4)))).bind fun v4 =>
  (aget X 100 ((mk E c s (hh g))) x0 ((w32 (x4 + 5)))).bind fun v5 =>
  if (2 : Nat) = 2 ∧ rcv ((mk E c s (hh g))) 0 12 = true then
  ((Call prog clsT X d 96 [(2, 0), (0, v1), (0, v2), (1, (lor64 ((lshl64 v3 32)) ((land64 v4 4294967295)))), (0, v5)] ((mk E c s (hh g)))).bind fun r6 => if r6.1.1 = 4 then none else
  Ev prog clsT X d mc271 311 [(2, x0), (2, 0), (2, 89), (2, 158), (0, x4), (3, 0), (3, 0), (3, 0)] (pushR r6.1 []) r6.2) else none)) X [0, 3, 7, 13, 24, 25, 51, 77, 80, 107, 134, 137, 190, 243, 246, 253, 260, 263, 265, 267, 270, 272, 274, 277, 311, 345, 348, 356, 364, 367, 383, 396, 409, 412, 428, 440, 452, 455, 462, 469, 472, 484, 496, 499, 511, 523, 526, 543, 560, 563, 575, 587, 590, 603, 616, 619, 635, 647, 659, 662, 674, 686, 689, 701, 713, 716, 728, 740, 743, 760, 777, 780, 796, 812, 815, 831, 847, 850, 857, 864, 867, 874, 881, 884, 901, 918, 921, 933, 945, 948, 964, 980, 983, 985, 987, 990, 997, 1004, 1007, 1019, 1031, 1034, 1042, 1050, 1053, 1069, 1092, 1115, 1118, 1133, 1150, 1167, 1170, 1182, 1194, 1197, 1213, 1229, 1232, 1239, 1246, 1249] 35 rfl).trans (by simp (maxSteps := 10000000) only [R0_12, bindI, Option.bind_some, if_true_, and_self, ite_true, true_and, true_or, or_true])
set_option maxRecDepth 100000 in
theorem r271_311 (d : Nat) (x0 x4 s0 : Int) : Ev prog clsT X d mc271 311 [(2, x0), (2, 0), (2, 89), (2, 158), (0, x4), (3, 0), (3, 0), (3, 0)] [(0, s0)] (mk E c s (hh g)) =
  ((aget X 100 ((mk E c s (hh g))) x0 ((w32 (x4 + 1)))).bind fun v1 =>
  (aget X 100 ((mk E c s (hh g))) x0 ((w32 (x4 + 2)))).bind fun v2 =>
  (aget X 100 ((mk E c s (hh g))) x0 ((w32 (x4 + 3)))).bind fun v3 =>
  (aget X 100 ((mk E c s (hh g))) x0 ((w32 (x4 + 4)))).bind fun v4 =>
  (aget X 100 ((mk E c s (hh g))) x0 ((w32 (x4 + 5)))).bind fun v5 =>
  (Call prog clsT X d 156 [(2, 89), (0, v1), (0, v2), (1, (lor64 ((lshl64 v3 32)) ((land64 v4 4294967295)))), (0, v5)] ((mk E c s (hh g)))).bind fun r6 => if r6.1.1 = 4 then none else
  Ev prog clsT X d mc271 345 [(2, x0), (2, 0), (2, 89), (2, 158), (0, x4), (3, 0), (3, 0), (3, 0)] (pushR r6.1 [(0, s0)]) r6.2) :=
  (evk_at (r := ((aget X 100 ((mk E c s (hh g))) x0 ((w32 (x4 + 1)))).bind fun v1 =>
  (aget X 100 ((mk E c s (hh g))) x0 ((w32 (x4 + 2)))).bind fun v2 =>
  (aget X 100 ((mk E c s (hh g))) x0 ((w32 (x4 + 3)))).bind fun v3 =>
  (aget X 100 ((mk E c s (hh g))) x0 ((w32 (x4 + 4)))).bind fun v4 =>
  (aget X 100 ((mk E c s (hh g))) x0 ((w32 (x4 + 5)))).bind fun v5 =>
  if (2 : Nat) = 2 ∧ rcv ((mk E c s (hh g))) 89 13 = true then
  ((Call prog clsT X d 156 [(2, 89), (0, v1), (0, v2), (1, (lor64 ((lshl64 v3 32)) ((land64 v4 4294967295)))), (0, v5)] ((mk E c s (hh g)))).bind fun r6 => if r6.1.1 = 4 then none else
  Ev prog clsT X d mc271 345 [(2, x0), (2, 0), (2, 89), (2, 158), (0, x4), (3, 0), (3, 0), (3, 0)] (pushR r6.1 [(0, s0)]) r6.2) else none)) X [0, 3, 7, 13, 24, 25, 51, 77, 80, 107, 134, 137, 190, 243, 246, 253, 260, 263, 265, 267, 270, 272, 274, 277, 311, 345, 348, 356, 364, 367, 383, 396, 409, 412, 428, 440, 452, 455, 462, 469, 472, 484, 496, 499, 511, 523, 526, 543, 560, 563, 575, 587, 590, 603, 616, 619, 635, 647, 659, 662, 674, 686, 689, 701, 713, 716, 728, 740, 743, 760, 777, 780, 796, 812, 815, 831, 847, 850, 857, 864, 867, 874, 881, 884, 901, 918, 921, 933, 945, 948, 964, 980, 983, 985, 987, 990, 997, 1004, 1007, 1019, 1031, 1034, 1042, 1050, 1053, 1069, 1092, 1115, 1118, 1133, 1150, 1167, 1170, 1182, 1194, 1197, 1213, 1229, 1232, 1239, 1246, 1249] 35 rfl).trans (by simp (maxSteps := 10000000) only [R89_13, bindI, Option.bind_some, if_true_, and_self, ite_true, true_and, true_or, or_true])
set_option maxRecDepth 100000 in
theorem r271_345 (d : Nat) (x0 x4 s0 s1 : Int) : Ev prog clsT X d mc271 345 [(2, x0), (2, 0), (2, 89), (2, 158), (0, x4), (3, 0), (3, 0), (3, 0)] [(0, s1), (0, s0)] (mk E c s (hh g)) =
  (if cmpI .eq s0 s1 = true then
  (Ev prog clsT X d mc271 1249 [(2, x0), (2, 0), (2, 89), (2, 158), (0, x4), (3, 0), (3, 0), (3, 0)] [] (mk E c s (hh g)))
else
  (some ((0, 0), ((mk E c s (hh g)))))) :=
  (evk_at (r := (if cmpI .eq s0 s1 = true then
  (Ev prog clsT X d mc271 1249 [(2, x0), (2, 0), (2, 89), (2, 158), (0, x4), (3, 0), (3, 0), (3, 0)] [] (mk E c s (hh g)))
else
  (some ((0, 0), (mk E c s (hh g)))))) X [0, 3, 7, 13, 24, 25, 51, 77, 80, 107, 134, 137, 190, 243, 246, 253, 260, 263, 265, 267, 270, 272, 274, 277, 311, 345, 348, 356, 364, 367, 383, 396, 409, 412, 428, 440, 452, 455, 462, 469, 472, 484, 496, 499, 511, 523, 526, 543, 560, 563, 575, 587, 590, 603, 616, 619, 635, 647, 659, 662, 674, 686, 689, 701, 713, 716, 728, 740, 743, 760, 777, 780, 796, 812, 815, 831, 847, 850, 857, 864, 867, 874, 881, 884, 901, 918, 921, 933, 945, 948, 964, 980, 983, 985, 987, 990, 997, 1004, 1007, 1019, 1031, 1034, 1042, 1050, 1053, 1069, 1092, 1115, 1118, 1133, 1150, 1167, 1170, 1182, 1194, 1197, 1213, 1229, 1232, 1239, 1246, 1249] 4 rfl).trans (by simp (maxSteps := 10000000) only [bindI, Option.bind_some, if_true_, and_self, ite_true, true_and, true_or, or_true])
set_option maxRecDepth 100000 in
theorem r271_348 (d : Nat) (x0 x4 : Int) : Ev prog clsT X d mc271 348 [(2, x0), (2, 0), (2, 89), (2, 158), (0, x4), (3, 0), (3, 0), (3, 0)] [] (mk E c s (hh g)) =
  ((aget X 100 ((mk E c s (hh g))) x0 ((w32 (x4 + 1)))).bind fun v1 =>
  (Call prog clsT X d 266 [(2, 0), (0, v1), (2, 158)] ((mk E c s (hh g)))).bind fun r2 => if r2.1.1 = 4 then none else
  Ev prog clsT X d mc271 356 [(2, x0), (2, 0), (2, 89), (2, 158), (0, x4), (3, 0), (3, 0), (3, 0)] (pushR r2.1 []) r2.2) :=
  evk_at X [0, 3, 7, 13, 24, 25, 51, 77, 80, 107, 134, 137, 190, 243, 246, 253, 260, 263, 265, 267, 270, 272, 274, 277, 311, 345, 348, 356, 364, 367, 383, 396, 409, 412, 428, 440, 452, 455, 462, 469, 472, 484, 496, 499, 511, 523, 526, 543, 560, 563, 575, 587, 590, 603, 616, 619, 635, 647, 659, 662, 674, 686, 689, 701, 713, 716, 728, 740, 743, 760, 777, 780, 796, 812, 815, 831, 847, 850, 857, 864, 867, 874, 881, 884, 901, 918, 921, 933, 945, 948, 964, 980, 983, 985, 987, 990, 997, 1004, 1007, 1019, 1031, 1034, 1042, 1050, 1053, 1069, 1092, 1115, 1118, 1133, 1150, 1167, 1170, 1182, 1194, 1197, 1213, 1229, 1232, 1239, 1246, 1249] 9 rfl
set_option maxRecDepth 100000 in
theorem r271_356 (d : Nat) (x0 x4 s0 : Int) : Ev prog clsT X d mc271 356 [(2, x0), (2, 0), (2, 89), (2, 158), (0, x4), (3, 0), (3, 0), (3, 0)] [(0, s0)] (mk E c s (hh g)) =
  ((aget X 100 ((mk E c s (hh g))) x0 ((w32 (x4 + 1)))).bind fun v1 =>
  (Call prog clsT X d 187 [(2, 89), (0, v1)] ((mk E c s (hh g)))).bind fun r2 => if r2.1.1 = 4 then none else
  Ev prog clsT X d mc271 364 [(2, x0), (2, 0), (2, 89), (2, 158), (0, x4), (0, s0), (3, 0), (3, 0)] (pushR r2.1 []) r2.2) :=
  (evk_at (r := ((aget X 100 ((mk E c s (hh g))) x0 ((w32 (x4 + 1)))).bind fun v1 =>
  if (2 : Nat) = 2 ∧ rcv ((mk E c s (hh g))) 89 13 = true then
  ((Call prog clsT X d 187 [(2, 89), (0, v1)] ((mk E c s (hh g)))).bind fun r2 => if r2.1.1 = 4 then none else
  Ev prog clsT X d mc271 364 [(2, x0), (2, 0), (2, 89), (2, 158), (0, x4), (0, s0), (3, 0), (3, 0)] (pushR r2.1 []) r2.2) else none)) X [0, 3, 7, 13, 24, 25, 51, 77, 80, 107, 134, 137, 190, 243, 246, 253, 260, 263, 265, 267, 270, 272, 274, 277, 311, 345, 348, 356, 364, 367, 383, 396, 409, 412, 428, 440, 452, 455, 462, 469, 472, 484, 496, 499, 511, 523, 526, 543, 560, 563, 575, 587, 590, 603, 616, 619, 635, 647, 659, 662, 674, 686, 689, 701, 713, 716, 728, 740, 743, 760, 777, 780, 796, 812, 815, 831, 847, 850, 857, 864, 867, 874, 881, 884, 901, 918, 921, 933, 945, 948, 964, 980, 983, 985, 987, 990, 997, 1004, 1007, 1019, 1031, 1034, 1042, 1050, 1053, 1069, 1092, 1115, 1118, 1133, 1150, 1167, 1170, 1182, 1194, 1197, 1213, 1229, 1232, 1239, 1246, 1249] 9 rfl).trans (by simp (maxSteps := 10000000) only [R89_13, bindI, Option.bind_some, if_true_, and_self, ite_true, true_and, true_or, or_true])
set_option maxRecDepth 100000 in
theorem r271_364 (d : Nat) (x0 x4 x5 s0 : Int) : Ev prog clsT X d mc271 364 [(2, x0), (2, 0), (2, 89), (2, 158), (0, x4), (0, x5), (3, 0), (3, 0)] [(0, s0)] (mk E c s (hh g)) =
  ((Call prog clsT X d 150 [(2, 89)] ((mk E c s (hh g)))).bind fun r1 => if r1.1.1 = 4 then none else
  Ev prog clsT X d mc271 367 [(2, x0), (2, 0), (2, 89), (2, 158), (0, x4), (0, x5), (0, s0), (3, 0)] (pushR r1.1 []) r1.2) :=
  (evk_at (r := (if (2 : Nat) = 2 ∧ rcv ((mk E c s (hh g))) 89 13 = true then
  ((Call prog clsT X d 150 [(2, 89)] ((mk E c s (hh g)))).bind fun r1 => if r1.1.1 = 4 then none else
  Ev prog clsT X d mc271 367 [(2, x0), (2, 0), (2, 89), (2, 158), (0, x4), (0, x5), (0, s0), (3, 0)] (pushR r1.1 []) r1.2) else none)) X [0, 3, 7, 13, 24, 25, 51, 77, 80, 107, 134, 137, 190, 243, 246, 253, 260, 263, 265, 267, 270, 272, 274, 277, 311, 345, 348, 356, 364, 367, 383, 396, 409, 412, 428, 440, 452, 455, 462, 469, 472, 484, 496, 499, 511, 523, 526, 543, 560, 563, 575, 587, 590, 603, 616, 619, 635, 647, 659, 662, 674, 686, 689, 701, 713, 716, 728, 740, 743, 760, 777, 780, 796, 812, 815, 831, 847, 850, 857, 864, 867, 874, 881, 884, 901, 918, 921, 933, 945, 948, 964, 980, 983, 985, 987, 990, 997, 1004, 1007, 1019, 1031, 1034, 1042, 1050, 1053, 1069, 1092, 1115, 1118, 1133, 1150, 1167, 1170, 1182, 1194, 1197, 1213, 1229, 1232, 1239, 1246, 1249] 4 rfl).trans (by simp (maxSteps := 10000000) only [R89_13, bindI, Option.bind_some, if_true_, and_self, ite_true, true_and, true_or, or_true])
set_option maxRecDepth 100000 in
theorem r271_367 (d : Nat) (x0 x4 x5 x6 s0 : Int) : Ev prog clsT X d mc271 367 [(2, x0), (2, 0), (2, 89), (2, 158), (0, x4), (0, x5), (0, x6), (3, 0)] [(0, s0)] (mk E c s (hh g)) =
  (if cmpI .eq s0 x5 = true then
  (if cmpI .ne x5 0 = true then
    (Ev prog clsT X d mc271 1249 [(2, x0), (2, 0), (2, 89), (2, 158), (0, x4), (0, x5), (0, x6), (3, 0)] [] (mk E c s (hh g)))
  else
    (if cmpI .eq ((lcmpI ((g 158 0)) x6)) 0 = true then
      (Ev prog clsT X d mc271 1249 [(2, x0), (2, 0), (2, 89), (2, 158), (0, x4), (0, x5), (0, x6), (3, 0)] [] (mk E c s (hh g)))
    else
      (some ((0, 0), ((mk E c s (hh g)))))))
else
  (some ((0, 0), ((mk E c s (hh g)))))) :=
  (evk_at (r := (if cmpI .eq s0 x5 = true then
  (if cmpI .ne x5 0 = true then
    (Ev prog clsT X d mc271 1249 [(2, x0), (2, 0), (2, 89), (2, 158), (0, x4), (0, x5), (0, x6), (3, 0)] [] (mk E c s (hh g)))
  else
    ((aget X 101 ((mk E c s (hh g))) 158 0).bind fun v1 =>
      if cmpI .eq ((lcmpI v1 x6)) 0 = true then
      (Ev prog clsT X d mc271 1249 [(2, x0), (2, 0), (2, 89), (2, 158), (0, x4), (0, x5), (0, x6), (3, 0)] [] (mk E c s (hh g)))
    else
      (some ((0, 0), (mk E c s (hh g))))))
else
  (some ((0, 0), (mk E c s (hh g)))))) X [0, 3, 7, 13, 24, 25, 51, 77, 80, 107, 134, 137, 190, 243, 246, 253, 260, 263, 265, 267, 270, 272, 274, 277, 311, 345, 348, 356, 364, 367, 383, 396, 409, 412, 428, 440, 452, 455, 462, 469, 472, 484, 496, 499, 511, 523, 526, 543, 560, 563, 575, 587, 590, 603, 616, 619, 635, 647, 659, 662, 674, 686, 689, 701, 713, 716, 728, 740, 743, 760, 777, 780, 796, 812, 815, 831, 847, 850, 857, 864, 867, 874, 881, 884, 901, 918, 921, 933, 945, 948, 964, 980, 983, 985, 987, 990, 997, 1004, 1007, 1019, 1031, 1034, 1042, 1050, 1053, 1069, 1092, 1115, 1118, 1133, 1150, 1167, 1170, 1182, 1194, 1197, 1213, 1229, 1232, 1239, 1246, 1249] 14 rfl).trans (by simp (maxSteps := 10000000) only [inbL 0 1 rfl, tn0, ↓A158, bindI, Option.bind_some, if_true_, and_self, ite_true, true_and, true_or, or_true])
set_option maxRecDepth 100000 in
theorem r271_383 (d : Nat) (x0 x4 : Int) : Ev prog clsT X d mc271 383 [(2, x0), (2, 0), (2, 89), (2, 158), (0, x4), (3, 0), (3, 0), (3, 0)] [] (mk E c s (hh g)) =
  ((aget X 100 ((mk E c s (hh g))) x0 ((w32 (x4 + 1)))).bind fun v1 =>
  (aget X 100 ((mk E c s (hh g))) x0 ((w32 (x4 + 2)))).bind fun v2 =>
  (Call prog clsT X d 267 [(2, 0), (0, v1), (0, v2), (2, 158)] ((mk E c s (hh g)))).bind fun r3 => if r3.1.1 = 4 then none else
  Ev prog clsT X d mc271 396 [(2, x0), (2, 0), (2, 89), (2, 158), (0, x4), (3, 0), (3, 0), (3, 0)] (pushR r3.1 []) r3.2) :=
  evk_at X [0, 3, 7, 13, 24, 25, 51, 77, 80, 107, 134, 137, 190, 243, 246, 253, 260, 263, 265, 267, 270, 272, 274, 277, 311, 345, 348, 356, 364, 367, 383, 396, 409, 412, 428, 440, 452, 455, 462, 469, 472, 484, 496, 499, 511, 523, 526, 543, 560, 563, 575, 587, 590, 603, 616, 619, 635, 647, 659, 662, 674, 686, 689, 701, 713, 716, 728, 740, 743, 760, 777, 780, 796, 812, 815, 831, 847, 850, 857, 864, 867, 874, 881, 884, 901, 918, 921, 933, 945, 948, 964, 980, 983, 985, 987, 990, 997, 1004, 1007, 1019, 1031, 1034, 1042, 1050, 1053, 1069, 1092, 1115, 1118, 1133, 1150, 1167, 1170, 1182, 1194, 1197, 1213, 1229, 1232, 1239, 1246, 1249] 14 rfl
set_option maxRecDepth 100000 in
theorem r271_396 (d : Nat) (x0 x4 s0 : Int) : Ev prog clsT X d mc271 396 [(2, x0), (2, 0), (2, 89), (2, 158), (0, x4), (3, 0), (3, 0), (3, 0)] [(0, s0)] (mk E c s (hh g)) =
  ((aget X 100 ((mk E c s (hh g))) x0 ((w32 (x4 + 1)))).bind fun v1 =>
  (aget X 100 ((mk E c s (hh g))) x0 ((w32 (x4 + 2)))).bind fun v2 =>
  (Call prog clsT X d 198 [(2, 89), (0, v1), (0, v2)] ((mk E c s (hh g)))).bind fun r3 => if r3.1.1 = 4 then none else
  Ev prog clsT X d mc271 409 [(2, x0), (2, 0), (2, 89), (2, 158), (0, x4), (0, s0), (3, 0), (3, 0)] (pushR r3.1 []) r3.2) :=
  (evk_at (r := ((aget X 100 ((mk E c s (hh g))) x0 ((w32 (x4 + 1)))).bind fun v1 =>
  (aget X 100 ((mk E c s (hh g))) x0 ((w32 (x4 + 2)))).bind fun v2 =>
  if (2 : Nat) = 2 ∧ rcv ((mk E c s (hh g))) 89 13 = true then
  ((Call prog clsT X d 198 [(2, 89), (0, v1), (0, v2)] ((mk E c s (hh g)))).bind fun r3 => if r3.1.1 = 4 then none else
  Ev prog clsT X d mc271 409 [(2, x0), (2, 0), (2, 89), (2, 158), (0, x4), (0, s0), (3, 0), (3, 0)] (pushR r3.1 []) r3.2) else none)) X [0, 3, 7, 13, 24, 25, 51, 77, 80, 107, 134, 137, 190, 243, 246, 253, 260, 263, 265, 267, 270, 272, 274, 277, 311, 345, 348, 356, 364, 367, 383, 396, 409, 412, 428, 440, 452, 455, 462, 469, 472, 484, 496, 499, 511, 523, 526, 543, 560, 563, 575, 587, 590, 603, 616, 619, 635, 647, 659, 662, 674, 686, 689, 701, 713, 716, 728, 740, 743, 760, 777, 780, 796, 812, 815, 831, 847, 850, 857, 864, 867, 874, 881, 884, 901, 918, 921, 933, 945, 948, 964, 980, 983, 985, 987, 990, 997, 1004, 1007, 1019, 1031, 1034, 1042, 1050, 1053, 1069, 1092, 1115, 1118, 1133, 1150, 1167, 1170, 1182, 1194, 1197, 1213, 1229, 1232, 1239, 1246, 1249] 14 rfl).trans (by simp (maxSteps := 10000000) only [R89_13, bindI, Option.bind_some, if_true_, and_self, ite_true, true_and, true_or, or_true])
set_option maxRecDepth 100000 in
theorem r271_409 (d : Nat) (x0 x4 x5 s0 : Int) : Ev prog clsT X d mc271 409 [(2, x0), (2, 0), (2, 89), (2, 158), (0, x4), (0, x5), (3, 0), (3, 0)] [(0, s0)] (mk E c s (hh g)) =
  ((Call prog clsT X d 150 [(2, 89)] ((mk E c s (hh g)))).bind fun r1 => if r1.1.1 = 4 then none else
  Ev prog clsT X d mc271 412 [(2, x0), (2, 0), (2, 89), (2, 158), (0, x4), (0, x5), (0, s0), (3, 0)] (pushR r1.1 []) r1.2) :=
  (evk_at (r := (if (2 : Nat) = 2 ∧ rcv ((mk E c s (hh g))) 89 13 = true then
  ((Call prog clsT X d 150 [(2, 89)] ((mk E c s (hh g)))).bind fun r1 => if r1.1.1 = 4 then none else
  Ev prog clsT X d mc271 412 [(2, x0), (2, 0), (2, 89), (2, 158), (0, x4), (0, x5), (0, s0), (3, 0)] (pushR r1.1 []) r1.2) else none)) X [0, 3, 7, 13, 24, 25, 51, 77, 80, 107, 134, 137, 190, 243, 246, 253, 260, 263, 265, 267, 270, 272, 274, 277, 311, 345, 348, 356, 364, 367, 383, 396, 409, 412, 428, 440, 452, 455, 462, 469, 472, 484, 496, 499, 511, 523, 526, 543, 560, 563, 575, 587, 590, 603, 616, 619, 635, 647, 659, 662, 674, 686, 689, 701, 713, 716, 728, 740, 743, 760, 777, 780, 796, 812, 815, 831, 847, 850, 857, 864, 867, 874, 881, 884, 901, 918, 921, 933, 945, 948, 964, 980, 983, 985, 987, 990, 997, 1004, 1007, 1019, 1031, 1034, 1042, 1050, 1053, 1069, 1092, 1115, 1118, 1133, 1150, 1167, 1170, 1182, 1194, 1197, 1213, 1229, 1232, 1239, 1246, 1249] 4 rfl).trans (by simp (maxSteps := 10000000) only [R89_13, bindI, Option.bind_some, if_true_, and_self, ite_true, true_and, true_or, or_true])
set_option maxRecDepth 100000 in
theorem r271_412 (d : Nat) (x0 x4 x5 x6 s0 : Int) : Ev prog clsT X d mc271 412 [(2, x0), (2, 0), (2, 89), (2, 158), (0, x4), (0, x5), (0, x6), (3, 0)] [(0, s0)] (mk E c s (hh g)) =
  (if cmpI .eq s0 x5 = true then
  (if cmpI .ne x5 0 = true then
    (Ev prog clsT X d mc271 1249 [(2, x0), (2, 0), (2, 89), (2, 158), (0, x4), (0, x5), (0, x6), (3, 0)] [] (mk E c s (hh g)))
  else
    (if cmpI .eq ((lcmpI ((g 158 0)) x6)) 0 = true then
      (Ev prog clsT X d mc271 1249 [(2, x0), (2, 0), (2, 89), (2, 158), (0, x4), (0, x5), (0, x6), (3, 0)] [] (mk E c s (hh g)))
    else
      (some ((0, 0), ((mk E c s (hh g)))))))
else
  (some ((0, 0), ((mk E c s (hh g)))))) :=
  (evk_at (r := (if cmpI .eq s0 x5 = true then
  (if cmpI .ne x5 0 = true then
    (Ev prog clsT X d mc271 1249 [(2, x0), (2, 0), (2, 89), (2, 158), (0, x4), (0, x5), (0, x6), (3, 0)] [] (mk E c s (hh g)))
  else
    ((aget X 101 ((mk E c s (hh g))) 158 0).bind fun v1 =>
      if cmpI .eq ((lcmpI v1 x6)) 0 = true then
      (Ev prog clsT X d mc271 1249 [(2, x0), (2, 0), (2, 89), (2, 158), (0, x4), (0, x5), (0, x6), (3, 0)] [] (mk E c s (hh g)))
    else
      (some ((0, 0), (mk E c s (hh g))))))
else
  (some ((0, 0), (mk E c s (hh g)))))) X [0, 3, 7, 13, 24, 25, 51, 77, 80, 107, 134, 137, 190, 243, 246, 253, 260, 263, 265, 267, 270, 272, 274, 277, 311, 345, 348, 356, 364, 367, 383, 396, 409, 412, 428, 440, 452, 455, 462, 469, 472, 484, 496, 499, 511, 523, 526, 543, 560, 563, 575, 587, 590, 603, 616, 619, 635, 647, 659, 662, 674, 686, 689, 701, 713, 716, 728, 740, 743, 760, 777, 780, 796, 812, 815, 831, 847, 850, 857, 864, 867, 874, 881, 884, 901, 918, 921, 933, 945, 948, 964, 980, 983, 985, 987, 990, 997, 1004, 1007, 1019, 1031, 1034, 1042, 1050, 1053, 1069, 1092, 1115, 1118, 1133, 1150, 1167, 1170, 1182, 1194, 1197, 1213, 1229, 1232, 1239, 1246, 1249] 14 rfl).trans (by simp (maxSteps := 10000000) only [inbL 0 1 rfl, tn0, ↓A158, bindI, Option.bind_some, if_true_, and_self, ite_true, true_and, true_or, or_true])
set_option maxRecDepth 100000 in
theorem r271_428 (d : Nat) (x0 x4 : Int) : Ev prog clsT X d mc271 428 [(2, x0), (2, 0), (2, 89), (2, 158), (0, x4), (3, 0), (3, 0), (3, 0)] [] (mk E c s (hh g)) =
  ((aget X 100 ((mk E c s (hh g))) x0 ((w32 (x4 + 1)))).bind fun v1 =>
  (aget X 100 ((mk E c s (hh g))) x0 ((w32 (x4 + 2)))).bind fun v2 =>
  (Call prog clsT X d 98 [(2, 0), (0, v1), (0, v2)] ((mk E c s (hh g)))).bind fun r3 => if r3.1.1 = 4 then none else
  Ev prog clsT X d mc271 440 [(2, x0), (2, 0), (2, 89), (2, 158), (0, x4), (3, 0), (3, 0), (3, 0)] (pushR r3.1 []) r3.2) :=
  (evk_at (r := ((aget X 100 ((mk E c s (hh g))) x0 ((w32 (x4 + 1)))).bind fun v1 =>
  (aget X 100 ((mk E c s (hh g))) x0 ((w32 (x4 + 2)))).bind fun v2 =>
  if (2 : Nat) = 2 ∧ rcv ((mk E c s (hh g))) 0 12 = true then
  ((Call prog clsT X d 98 [(2, 0), (0, v1), (0, v2)] ((mk E c s (hh g)))).bind fun r3 => if r3.1.1 = 4 then none else
  Ev prog clsT X d mc271 440 [(2, x0), (2, 0), (2, 89), (2, 158), (0, x4), (3, 0), (3, 0), (3, 0)] (pushR r3.1 []) r3.2) else none)) X [0, 3, 7, 13, 24, 25, 51, 77, 80, 107, 134, 137, 190, 243, 246, 253, 260, 263, 265, 267, 270, 272, 274, 277, 311, 345, 348, 356, 364, 367, 383, 396, 409, 412, 428, 440, 452, 455, 462, 469, 472, 484, 496, 499, 511, 523, 526, 543, 560, 563, 575, 587, 590, 603, 616, 619, 635, 647, 659, 662, 674, 686, 689, 701, 713, 716, 728, 740, 743, 760, 777, 780, 796, 812, 815, 831, 847, 850, 857, 864, 867, 874, 881, 884, 901, 918, 921, 933, 945, 948, 964, 980, 983, 985, 987, 990, 997, 1004, 1007, 1019, 1031, 1034, 1042, 1050, 1053, 1069, 1092, 1115, 1118, 1133, 1150, 1167, 1170, 1182, 1194, 1197, 1213, 1229, 1232, 1239, 1246, 1249] 13 rfl).trans (by simp (maxSteps := 10000000) only [R0_12, bindI, Option.bind_some, if_true_, and_self, ite_true, true_and, true_or, or_true])
set_option maxRecDepth 100000 in
theorem r271_440 (d : Nat) (x0 x4 s0 : Int) : Ev prog clsT X d mc271 440 [(2, x0), (2, 0), (2, 89), (2, 158), (0, x4), (3, 0), (3, 0), (3, 0)] [(0, s0)] (mk E c s (hh g)) =
  ((aget X 100 ((mk E c s (hh g))) x0 ((w32 (x4 + 1)))).bind fun v1 =>
  (aget X 100 ((mk E c s (hh g))) x0 ((w32 (x4 + 2)))).bind fun v2 =>
  (Call prog clsT X d 199 [(2, 89), (0, v1), (0, v2)] ((mk E c s (hh g)))).bind fun r3 => if r3.1.1 = 4 then none else
  Ev prog clsT X d mc271 452 [(2, x0), (2, 0), (2, 89), (2, 158), (0, x4), (3, 0), (3, 0), (3, 0)] (pushR r3.1 [(0, s0)]) r3.2) :=
  (evk_at (r := ((aget X 100 ((mk E c s (hh g))) x0 ((w32 (x4 + 1)))).bind fun v1 =>
  (aget X 100 ((mk E c s (hh g))) x0 ((w32 (x4 + 2)))).bind fun v2 =>
  if (2 : Nat) = 2 ∧ rcv ((mk E c s (hh g))) 89 13 = true then
  ((Call prog clsT X d 199 [(2, 89), (0, v1), (0, v2)] ((mk E c s (hh g)))).bind fun r3 => if r3.1.1 = 4 then none else
  Ev prog clsT X d mc271 452 [(2, x0), (2, 0), (2, 89), (2, 158), (0, x4), (3, 0), (3, 0), (3, 0)] (pushR r3.1 [(0, s0)]) r3.2) else none)) X [0, 3, 7, 13, 24, 25, 51, 77, 80, 107, 134, 137, 190, 243, 246, 253, 260, 263, 265, 267, 270, 272, 274, 277, 311, 345, 348, 356, 364, 367, 383, 396, 409, 412, 428, 440, 452, 455, 462, 469, 472, 484, 496, 499, 511, 523, 526, 543, 560, 563, 575, 587, 590, 603, 616, 619, 635, 647, 659, 662, 674, 686, 689, 701, 713, 716, 728, 740, 743, 760, 777, 780, 796, 812, 815, 831, 847, 850, 857, 864, 867, 874, 881, 884, 901, 918, 921, 933, 945, 948, 964, 980, 983, 985, 987, 990, 997, 1004, 1007, 1019, 1031, 1034, 1042, 1050, 1053, 1069, 1092, 1115, 1118, 1133, 1150, 1167, 1170, 1182, 1194, 1197, 1213, 1229, 1232, 1239, 1246, 1249] 13 rfl).trans (by simp (maxSteps := 10000000) only [R89_13, bindI, Option.bind_some, if_true_, and_self, ite_true, true_and, true_or, or_true])
set_option maxRecDepth 100000 in
theorem r271_452 (d : Nat) (x0 x4 s0 s1 : Int) : Ev prog clsT X d mc271 452 [(2, x0), (2, 0), (2, 89), (2, 158), (0, x4), (3, 0), (3, 0), (3, 0)] [(0, s1), (0, s0)] (mk E c s (hh g)) =
  (if cmpI .eq s0 s1 = true then
  (Ev prog clsT X d mc271 1249 [(2, x0), (2, 0), (2, 89), (2, 158), (0, x4), (3, 0), (3, 0), (3, 0)] [] (mk E c s (hh g)))
else
  (some ((0, 0), ((mk E c s (hh g)))))) :=
  (evk_at (r := (if cmpI .eq s0 s1 = true then
  (Ev prog clsT X d mc271 1249 [(2, x0), (2, 0), (2, 89), (2, 158), (0, x4), (3, 0), (3, 0), (3, 0)] [] (mk E c s (hh g)))
else
  (some ((0, 0), (mk E c s (hh g)))))) X [0, 3, 7, 13, 24, 25, 51, 77, 80, 107, 134, 137, 190, 243, 246, 253, 260, 263, 265, 267, 270, 272, 274, 277, 311, 345, 348, 356, 364, 367, 383, 396, 409, 412, 428, 440, 452, 455, 462, 469, 472, 484, 496, 499, 511, 523, 526, 543, 560, 563, 575, 587, 590, 603, 616, 619, 635, 647, 659, 662, 674, 686, 689, 701, 713, 716, 728, 740, 743, 760, 777, 780, 796, 812, 815, 831, 847, 850, 857, 864, 867, 874, 881, 884, 901, 918, 921, 933, 945, 948, 964, 980, 983, 985, 987, 990, 997, 1004, 1007, 1019, 1031, 1034, 1042, 1050, 1053, 1069, 1092, 1115, 1118, 1133, 1150, 1167, 1170, 1182, 1194, 1197, 1213, 1229, 1232, 1239, 1246, 1249] 4 rfl).trans (by simp (maxSteps := 10000000) only [bindI, Option.bind_some, if_true_, and_self, ite_true, true_and, true_or, or_true])
set_option maxRecDepth 100000 in
theorem r271_455 (d : Nat) (x0 x4 : Int) : Ev prog clsT X d mc271 455 [(2, x0), (2, 0), (2, 89), (2, 158), (0, x4), (3, 0), (3, 0), (3, 0)] [] (mk E c s (hh g)) =
  ((aget X 100 ((mk E c s (hh g))) x0 ((w32 (x4 + 1)))).bind fun v1 =>
  (Call prog clsT X d 99 [(2, 0), (0, v1)] ((mk E c s (hh g)))).bind fun r2 => if r2.1.1 = 4 then none else
  Ev prog clsT X d mc271 462 [(2, x0), (2, 0), (2, 89), (2, 158), (0, x4), (3, 0), (3, 0), (3, 0)] (pushR r2.1 []) r2.2) :=
  (evk_at (r := ((aget X 100 ((mk E c s (hh g))) x0 ((w32 (x4 + 1)))).bind fun v1 =>
  if (2 : Nat) = 2 ∧ rcv ((mk E c s (hh g))) 0 12 = true then
  ((Call prog clsT X d 99 [(2, 0), (0, v1)] ((mk E c s (hh g)))).bind fun r2 => if r2.1.1 = 4 then none else
  Ev prog clsT X d mc271 462 [(2, x0), (2, 0), (2, 89), (2, 158), (0, x4), (3, 0), (3, 0), (3, 0)] (pushR r2.1 []) r2.2) else none)) X [0, 3, 7, 13, 24, 25, 51, 77, 80, 107, 134, 137, 190, 243, 246, 253, 260, 263, 265, 267, 270, 272, 274, 277, 311, 345, 348, 356, 364, 367, 383, 396, 409, 412, 428, 440, 452, 455, 462, 469, 472, 484, 496, 499, 511, 523, 526, 543, 560, 563, 575, 587, 590, 603, 616, 619, 635, 647, 659, 662, 674, 686, 689, 701, 713, 716, 728, 740, 743, 760, 777, 780, 796, 812, 815, 831, 847, 850, 857, 864, 867, 874, 881, 884, 901, 918, 921, 933, 945, 948, 964, 980, 983, 985, 987, 990, 997, 1004, 1007, 1019, 1031, 1034, 1042, 1050, 1053, 1069, 1092, 1115, 1118, 1133, 1150, 1167, 1170, 1182, 1194, 1197, 1213, 1229, 1232, 1239, 1246, 1249] 8 rfl).trans (by simp (maxSteps := 10000000) only [R0_12, bindI, Option.bind_some, if_true_, and_self, ite_true, true_and, true_or, or_true])
set_option maxRecDepth 100000 in
theorem r271_462 (d : Nat) (x0 x4 s0 : Int) : Ev prog clsT X d mc271 462 [(2, x0), (2, 0), (2, 89), (2, 158), (0, x4), (3, 0), (3, 0), (3, 0)] [(0, s0)] (mk E c s (hh g)) =
  ((aget X 100 ((mk E c s (hh g))) x0 ((w32 (x4 + 1)))).bind fun v1 =>
  (Call prog clsT X d 160 [(2, 89), (0, v1)] ((mk E c s (hh g)))).bind fun r2 => if r2.1.1 = 4 then none else
  Ev prog clsT X d mc271 469 [(2, x0), (2, 0), (2, 89), (2, 158), (0, x4), (3, 0), (3, 0), (3, 0)] (pushR r2.1 [(0, s0)]) r2.2) :=
  (evk_at (r := ((aget X 100 ((mk E c s (hh g))) x0 ((w32 (x4 + 1)))).bind fun v1 =>
  if (2 : Nat) = 2 ∧ rcv ((mk E c s (hh g))) 89 13 = true then
  ((Call prog clsT X d 160 [(2, 89), (0, v1)] ((mk E c s (hh g)))).bind fun r2 => if r2.1.1 = 4 then none else
  Ev prog clsT X d mc271 469 [(2, x0), (2, 0), (2, 89), (2, 158), (0, x4), (3, 0), (3, 0), (3, 0)] (pushR r2.1 [(0, s0)]) r2.2) else none)) X [0, 3, 7, 13, 24, 25, 51, 77, 80, 107, 134, 137, 190, 243, 246, 253, 260, 263, 265, 267, 270, 272, 274, 277, 311, 345, 348, 356, 364, 367, 383, 396, 409, 412, 428, 440, 452, 455, 462, 469, 472, 484, 496, 499, 511, 523, 526, 543, 560, 563, 575, 587, 590, 603, 616, 619, 635, 647, 659, 662, 674, 686, 689, 701, 713, 716, 728, 740, 743, 760, 777, 780, 796, 812, 815, 831, 847, 850, 857, 864, 867, 874, 881, 884, 901, 918, 921, 933, 945, 948, 964, 980, 983, 985, 987, 990, 997, 1004, 1007, 1019, 1031, 1034, 1042, 1050, 1053, 1069, 1092, 1115, 1118, 1133, 1150, 1167, 1170, 1182, 1194, 1197, 1213, 1229, 1232, 1239, 1246, 1249] 8 rfl).trans (by simp (maxSteps := 10000000) only [R89_13, bindI, Option.bind_some, if_true_, and_self, ite_true, true_and, true_or, or_true])
set_option maxRecDepth 100000 in
theorem r271_469 (d : Nat) (x0 x4 s0 s1 : Int) : Ev prog clsT X d mc271 469 [(2, x0), (2, 0), (2, 89), (2, 158), (0, x4), (3, 0), (3, 0), (3, 0)] [(0, s1), (0, s0)] (mk E c s (hh g)) =
  (if cmpI .eq s0 s1 = true then
  (Ev prog clsT X d mc271 1249 [(2, x0), (2, 0), (2, 89), (2, 158), (0, x4), (3, 0), (3, 0), (3, 0)] [] (mk E c s (hh g)))
else
  (some ((0, 0), ((mk E c s (hh g)))))) :=
  (evk_at (r := (if cmpI .eq s0 s1 = true then
  (Ev prog clsT X d mc271 1249 [(2, x0), (2, 0), (2, 89), (2, 158), (0, x4), (3, 0), (3, 0), (3, 0)] [] (mk E c s (hh g)))
else
  (some ((0, 0), (mk E c s (hh g)))))) X [0, 3, 7, 13, 24, 25, 51, 77, 80, 107, 134, 137, 190, 243, 246, 253, 260, 263, 265, 267, 270, 272, 274, 277, 311, 345, 348, 356, 364, 367, 383, 396, 409, 412, 428, 440, 452, 455, 462, 469, 472, 484, 496, 499, 511, 523, 526, 543, 560, 563, 575, 587, 590, 603, 616, 619, 635, 647, 659, 662, 674, 686, 689, 701, 713, 716, 728, 740, 743, 760, 777, 780, 796, 812, 815, 831, 847, 850, 857, 864, 867, 874, 881, 884, 901, 918, 921, 933, 945, 948, 964, 980, 983, 985, 987, 990, 997, 1004, 1007, 1019, 1031, 1034, 1042, 1050, 1053, 1069, 1092, 1115, 1118, 1133, 1150, 1167, 1170, 1182, 1194, 1197, 1213, 1229, 1232, 1239, 1246, 1249] 4 rfl).trans (by simp (maxSteps := 10000000) only [bindI, Option.bind_some, if_true_, and_self, ite_true, true_and, true_or, or_true])
set_option maxRecDepth 100000 in
theorem r271_472 (d : Nat) (x0 x4 : Int) : Ev prog clsT X d mc271 472 [(2, x0), (2, 0), (2, 89), (2, 158), (0, x4), (3, 0), (3, 0), (3, 0)] [] (mk E c s (hh g)) =
  ((aget X 100 ((mk E c s (hh g))) x0 ((w32 (x4 + 1)))).bind fun v1 =>
  (aget X 100 ((mk E c s (hh g))) x0 ((w32 (x4 + 2)))).bind fun v2 =>
  (Call prog clsT X d 100 [(2, 0), (0, v1), (0, v2)] ((mk E c s (hh g)))).bind fun r3 => if r3.1.1 = 4 then none else
  Ev prog clsT X d mc271 484 [(2, x0), (2, 0), (2, 89), (2, 158), (0, x4), (3, 0), (3, 0), (3, 0)] (pushR r3.1 []) r3.2) :=
  (evk_at (r := ((aget X 100 ((mk E c s (hh g))) x0 ((w32 (x4 + 1)))).bind fun v1 =>
  (aget X 100 ((mk E c s (hh g))) x0 ((w32 (x4 + 2)))).bind fun v2 =>
  if (2 : Nat) = 2 ∧ rcv ((mk E c s (hh g))) 0 12 = true then
  ((Call prog clsT X d 100 [(2, 0), (0, v1), (0, v2)] ((mk E c s (hh g)))).bind fun r3 => if r3.1.1 = 4 then none else
  Ev prog clsT X d mc271 484 [(2, x0), (2, 0), (2, 89), (2, 158), (0, x4), (3, 0), (3, 0), (3, 0)] (pushR r3.1 []) r3.2) else none)) X [0, 3, 7, 13, 24, 25, 51, 77, 80, 107, 134, 137, 190, 243, 246, 253, 260, 263, 265, 267, 270, 272, 274, 277, 311, 345, 348, 356, 364, 367, 383, 396, 409, 412, 428, 440, 452, 455, 462, 469, 472, 484, 496, 499, 511, 523, 526, 543, 560, 563, 575, 587, 590, 603, 616, 619, 635, 647, 659, 662, 674, 686, 689, 701, 713, 716, 728, 740, 743, 760, 777, 780, 796, 812, 815, 831, 847, 850, 857, 864, 867, 874, 881, 884, 901, 918, 921, 933, 945, 948, 964, 980, 983, 985, 987, 990, 997, 1004, 1007, 1019, 1031, 1034, 1042, 1050, 1053, 1069, 1092, 1115, 1118, 1133, 1150, 1167, 1170, 1182, 1194, 1197, 1213, 1229, 1232, 1239, 1246, 1249] 13 rfl).trans (by simp (maxSteps := 10000000) only [R0_12, bindI, Option.bind_some, if_true_, and_self, ite_true, true_and, true_or, or_true])
set_option maxRecDepth 100000 in
theorem r271_484 (d : Nat) (x0 x4 s0 : Int) : Ev prog clsT X d mc271 484 [(2, x0), (2, 0), (2, 89), (2, 158), (0, x4), (3, 0), (3, 0), (3, 0)] [(0, s0)] (mk E c s (hh g)) =
  ((aget X 100 ((mk E c s (hh g))) x0 ((w32 (x4 + 1)))).bind fun v1 =>
  (aget X 100 ((mk E c s (hh g))) x0 ((w32 (x4 + 2)))).bind fun v2 =>
  (Call prog clsT X d 163 [(2, 89), (0, v1), (0, v2)] ((mk E c s (hh g)))).bind fun r3 => if r3.1.1 = 4 then none else
  Ev prog clsT X d mc271 496 [(2, x0), (2, 0), (2, 89), (2, 158), (0, x4), (3, 0), (3, 0), (3, 0)] (pushR r3.1 [(0, s0)]) r3.2) :=
  (evk_at (r := ((aget X 100 ((mk E c s (hh g))) x0 ((w32 (x4 + 1)))).bind fun v1 =>
  (aget X 100 ((mk E c s (hh g))) x0 ((w32 (x4 + 2)))).bind fun v2 =>
  if (2 : Nat) = 2 ∧ rcv ((mk E c s (hh g))) 89 13 = true then
  ((Call prog clsT X d 163 [(2, 89), (0, v1), (0, v2)] ((mk E c s (hh g)))).bind fun r3 => if r3.1.1 = 4 then none else
  Ev prog clsT X d mc271 496 [(2, x0), (2, 0), (2, 89), (2, 158), (0, x4), (3, 0), (3, 0), (3, 0)] (pushR r3.1 [(0, s0)]) r3.2) else none)) X [0, 3, 7, 13, 24, 25, 51, 77, 80, 107, 134, 137, 190, 243, 246, 253, 260, 263, 265, 267, 270, 272, 274, 277, 311, 345, 348, 356, 364, 367, 383, 396, 409, 412, 428, 440, 452, 455, 462, 469, 472, 484, 496, 499, 511, 523, 526, 543, 560, 563, 575, 587, 590, 603, 616, 619, 635, 647, 659, 662, 674, 686, 689, 701, 713, 716, 728, 740, 743, 760, 777, 780, 796, 812, 815, 831, 847, 850, 857, 864, 867, 874, 881, 884, 901, 918, 921, 933, 945, 948, 964, 980, 983, 985, 987, 990, 997, 1004, 1007, 1019, 1031, 1034, 1042, 1050, 1053, 1069, 1092, 1115, 1118, 1133, 1150, 1167, 1170, 1182, 1194, 1197, 1213, 1229, 1232, 1239, 1246, 1249] 13 rfl).trans (by simp (maxSteps := 10000000) only [R89_13, bindI, Option.bind_some, if_true_, and_self, ite_true, true_and, true_or, or_true])
set_option maxRecDepth 100000 in
theorem r271_496 (d : Nat) (x0 x4 s0 s1 : Int) : Ev prog clsT X d mc271 496 [(2, x0), (2, 0), (2, 89), (2, 158), (0, x4), (3, 0), (3, 0), (3, 0)] [(0, s1), (0, s0)] (mk E c s (hh g)) =
  (if cmpI .eq s0 s1 = true then
  (Ev prog clsT X d mc271 1249 [(2, x0), (2, 0), (2, 89), (2, 158), (0, x4), (3, 0), (3, 0), (3, 0)] [] (mk E c s (hh g)))
else
  (some ((0, 0), ((mk E c s (hh g)))))) :=
  (evk_at (r := (if cmpI .eq s0 s1 = true then
  (Ev prog clsT X d mc271 1249 [(2, x0), (2, 0), (2, 89), (2, 158), (0, x4), (3, 0), (3, 0), (3, 0)] [] (mk E c s (hh g)))
else
  (some ((0, 0), (mk E c s (hh g)))))) X [0, 3, 7, 13, 24, 25, 51, 77, 80, 107, 134, 137, 190, 243, 246, 253, 260, 263, 265, 267, 270, 272, 274, 277, 311, 345, 348, 356, 364, 367, 383, 396, 409, 412, 428, 440, 452, 455, 462, 469, 472, 484, 496, 499, 511, 523, 526, 543, 560, 563, 575, 587, 590, 603, 616, 619, 635, 647, 659, 662, 674, 686, 689, 701, 713, 716, 728, 740, 743, 760, 777, 780, 796, 812, 815, 831, 847, 850, 857, 864, 867, 874, 881, 884, 901, 918, 921, 933, 945, 948, 964, 980, 983, 985, 987, 990, 997, 1004, 1007, 1019, 1031, 1034, 1042, 1050, 1053, 1069, 1092, 1115, 1118, 1133, 1150, 1167, 1170, 1182, 1194, 1197, 1213, 1229, 1232, 1239, 1246, 1249] 4 rfl).trans (by simp (maxSteps := 10000000) only [bindI, Option.bind_some, if_true_, and_self, ite_true, true_and, true_or, or_true])
set_option maxRecDepth 100000 in
theorem r271_499 (d : Nat) (x0 x4 : Int) : Ev prog clsT X d mc271 499 [(2, x0), (2, 0), (2, 89), (2, 158), (0, x4), (3, 0), (3, 0), (3, 0)] [] (mk E c s (hh g)) =
  ((aget X 100 ((mk E c s (hh g))) x0 ((w32 (x4 + 1)))).bind fun v1 =>
  (aget X 100 ((mk E c s (hh g))) x0 ((w32 (x4 + 2)))).bind fun v2 =>
  (Call prog clsT X d 101 [(2, 0), (0, v1), (0, v2)] ((mk E c s (hh g)))).bind fun r3 => if r3.1.1 = 4 then none else
  Ev prog clsT X d mc271 511 [(2, x0), (2, 0), (2, 89), (2, 158), (0, x4), (3, 0), (3, 0), (3, 0)] (pushR r3.1 []) r3.2) :=
  (evk_at (r := ((aget X 100 ((mk E c s (hh g))) x0 ((w32 (x4 + 1)))).bind fun v1 =>
  (aget X 100 ((mk E c s (hh g))) x0 ((w32 (x4 + 2)))).bind fun v2 =>
  if (2 : Nat) = 2 ∧ rcv ((mk E c s (hh g))) 0 12 = true then
  ((Call prog clsT X d 101 [(2, 0), (0, v1), (0, v2)] ((mk E c s (hh g)))).bind fun r3 => if r3.1.1 = 4 then none else
  Ev prog clsT X d mc271 511 [(2, x0), (2, 0), (2, 89), (2, 158), (0, x4), (3, 0), (3, 0), (3, 0)] (pushR r3.1 []) r3.2) else none)) X [0, 3, 7, 13, 24, 25, 51, 77, 80, 107, 134, 137, 190, 243, 246, 253, 260, 263, 265, 267, 270, 272, 274, 277, 311, 345, 348, 356, 364, 367, 383, 396, 409, 412, 428, 440, 452, 455, 462, 469, 472, 484, 496, 499, 511, 523, 526, 543, 560, 563, 575, 587, 590, 603, 616, 619, 635, 647, 659, 662, 674, 686, 689, 701, 713, 716, 728, 740, 743, 760, 777, 780, 796, 812, 815, 831, 847, 850, 857, 864, 867, 874, 881, 884, 901, 918, 921, 933, 945, 948, 964, 980, 983, 985, 987, 990, 997, 1004, 1007, 1019, 1031, 1034, 1042, 1050, 1053, 1069, 1092, 1115, 1118, 1133, 1150, 1167, 1170, 1182, 1194, 1197, 1213, 1229, 1232, 1239, 1246, 1249] 13 rfl).trans (by simp (maxSteps := 10000000) only [R0_12, bindI, Option.bind_some, if_true_, and_self, ite_true, true_and, true_or, or_true])
set_option maxRecDepth 100000 in
theorem r271_511 (d : Nat) (x0 x4 s0 : Int) : Ev prog clsT X d mc271 511 [(2, x0), (2, 0), (2, 89), (2, 158), (0, x4), (3, 0), (3, 0), (3, 0)] [(0, s0)] (mk E c s (hh g)) =
  ((aget X 100 ((mk E c s (hh g))) x0 ((w32 (x4 + 1)))).bind fun v1 =>
  (aget X 100 ((mk E c s (hh g))) x0 ((w32 (x4 + 2)))).bind fun v2 =>
  (Call prog clsT X d 200 [(2, 89), (0, v1), (0, v2)] ((mk E c s (hh g)))).bind fun r3 => if r3.1.1 = 4 then none else
  Ev prog clsT X d mc271 523 [(2, x0), (2, 0), (2, 89), (2, 158), (0, x4), (3, 0), (3, 0), (3, 0)] (pushR r3.1 [(0, s0)]) r3.2) :=
  (evk_at (r := ((aget X 100 ((mk E c s (hh g))) x0 ((w32 (x4 + 1)))).bind fun v1 =>
  (aget X 100 ((mk E c s (hh g))) x0 ((w32 (x4 + 2)))).bind fun v2 =>
  if (2 : Nat) = 2 ∧ rcv ((mk E c s (hh g))) 89 13 = true then
  ((Call prog clsT X d 200 [(2, 89), (0, v1), (0, v2)] ((mk E c s (hh g)))).bind fun r3 => if r3.1.1 = 4 then none else
  Ev prog clsT X d mc271 523 [(2, x0), (2, 0), (2, 89), (2, 158), (0, x4), (3, 0), (3, 0), (3, 0)] (pushR r3.1 [(0, s0)]) r3.2) else none)) X [0, 3, 7, 13, 24, 25, 51, 77, 80, 107, 134, 137, 190, 243, 246, 253, 260, 263, 265, 267, 270, 272, 274, 277, 311, 345, 348, 356, 364, 367, 383, 396, 409, 412, 428, 440, 452, 455, 462, 469, 472, 484, 496, 499, 511, 523, 526, 543, 560, 563, 575, 587, 590, 603, 616, 619, 635, 647, 659, 662, 674, 686, 689, 701, 713, 716, 728, 740, 743, 760, 777, 780, 796, 812, 815, 831, 847, 850, 857, 864, 867, 874, 881, 884, 901, 918, 921, 933, 945, 948, 964, 980, 983, 985, 987, 990, 997, 1004, 1007, 1019, 1031, 1034, 1042, 1050, 1053, 1069, 1092, 1115, 1118, 1133, 1150, 1167, 1170, 1182, 1194, 1197, 1213, 1229, 1232, 1239, 1246, 1249] 13 rfl).trans (by simp (maxSteps := 10000000) only [R89_13, bindI, Option.bind_some, if_true_, and_self, ite_true, true_and, true_or, or_true])
set_option maxRecDepth 100000 in
theorem r271_523 (d : Nat) (x0 x4 s0 s1 : Int) : Ev prog clsT X d mc271 523 [(2, x0), (2, 0), (2, 89), (2, 158), (0, x4), (3, 0), (3, 0), (3, 0)] [(0, s1), (0, s0)] (mk E c s (hh g)) =
  (if cmpI .eq s0 s1 = true then
  (Ev prog clsT X d mc271 1249 [(2, x0), (2, 0), (2, 89), (2, 158), (0, x4), (3, 0), (3, 0), (3, 0)] [] (mk E c s (hh g)))
else
  (some ((0, 0), ((mk E c s (hh g)))))) :=
  (evk_at (r := (if cmpI .eq s0 s1 = true then
  (Ev prog clsT X d mc271 1249 [(2, x0), (2, 0), (2, 89), (2, 158), (0, x4), (3, 0), (3, 0), (3, 0)] [] (mk E c s (hh g)))
else
  (some ((0, 0), (mk E c s (hh g)))))) X [0, 3, 7, 13, 24, 25, 51, 77, 80, 107, 134, 137, 190, 243, 246, 253, 260, 263, 265, 267, 270, 272, 274, 277, 311, 345, 348, 356, 364, 367, 383, 396, 409, 412, 428, 440, 452, 455, 462, 469, 472, 484, 496, 499, 511, 523, 526, 543, 560, 563, 575, 587, 590, 603, 616, 619, 635, 647, 659, 662, 674, 686, 689, 701, 713, 716, 728, 740, 743, 760, 777, 780, 796, 812, 815, 831, 847, 850, 857, 864, 867, 874, 881, 884, 901, 918, 921, 933, 945, 948, 964, 980, 983, 985, 987, 990, 997, 1004, 1007, 1019, 1031, 1034, 1042, 1050, 1053, 1069, 1092, 1115, 1118, 1133, 1150, 1167, 1170, 1182, 1194, 1197, 1213, 1229, 1232, 1239, 1246, 1249] 4 rfl).trans (by simp (maxSteps := 10000000) only [bindI, Option.bind_some, if_true_, and_self, ite_true, true_and, true_or, or_true])
set_option maxRecDepth 100000 in
theorem r271_526 (d : Nat) (x0 x4 : Int) : Ev prog clsT X d mc271 526 [(2, x0), (2, 0), (2, 89), (2, 158), (0, x4), (3, 0), (3, 0), (3, 0)] [] (mk E c s (hh g)) =
  ((aget X 100 ((mk E c s (hh g))) x0 ((w32 (x4 + 1)))).bind fun v1 =>
  (aget X 100 ((mk E c s (hh g))) x0 ((w32 (x4 + 2)))).bind fun v2 =>
  (aget X 100 ((mk E c s (hh g))) x0 ((w32 (x4 + 3)))).bind fun v3 =>
  (Call prog clsT X d 102 [(2, 0), (0, v1), (0, v2), (0, v3)] ((mk E c s (hh g)))).bind fun r4 => if r4.1.1 = 4 then none else
  Ev prog clsT X d mc271 543 [(2, x0), (2, 0), (2, 89), (2, 158), (0, x4), (3, 0), (3, 0), (3, 0)] (pushR r4.1 []) r4.2) :=
  (evk_at (r := ((aget X 100 ((mk E c s (hh g))) x0 ((w32 (x4 + 1)))).bind fun v1 =>
  (aget X 100 ((mk E c s (hh g))) x0 ((w32 (x4 + 2)))).bind fun v2 =>
  (aget X 100 ((mk E c s (hh g))) x0 ((w32 (x4 + 3)))).bind fun v3 =>
  if (2 : Nat) = 2 ∧ rcv ((mk E c s (hh g))) 0 12 = true then
  ((Call prog clsT X d 102 [(2, 0), (0, v1), (0, v2), (0, v3)] ((mk E c s (hh g)))).bind fun r4 => if r4.1.1 = 4 then none else
  Ev prog clsT X d mc271 543 [(2, x0), (2, 0), (2, 89), (2, 158), (0, x4), (3, 0), (3, 0), (3, 0)] (pushR r4.1 []) r4.2) else none)) X [0, 3, 7, 13, 24, 25, 51, 77, 80, 107, 134, 137, 190, 243, 246, 253, 260, 263, 265, 267, 270, 272, 274, 277, 311, 345, 348, 356, 364, 367, 383, 396, 409, 412, 428, 440, 452, 455, 462, 469, 472, 484, 496, 499, 511, 523, 526, 543, 560, 563, 575, 587, 590, 603, 616, 619, 635, 647, 659, 662, 674, 686, 689, 701, 713, 716, 728, 740, 743, 760, 777, 780, 796, 812, 815, 831, 847, 850, 857, 864, 867, 874, 881, 884, 901, 918, 921, 933, 945, 948, 964, 980, 983, 985, 987, 990, 997, 1004, 1007, 1019, 1031, 1034, 1042, 1050, 1053, 1069, 1092, 1115, 1118, 1133, 1150, 1167, 1170, 1182, 1194, 1197, 1213, 1229, 1232, 1239, 1246, 1249] 18 rfl).trans (by simp (maxSteps := 10000000) only [R0_12, bindI, Option.bind_some, if_true_, and_self, ite_true, true_and, true_or, or_true])
set_option maxRecDepth 100000 in
theorem r271_543 (d : Nat) (x0 x4 s0 : Int) : Ev prog clsT X d mc271 543 [(2, x0), (2, 0), (2, 89), (2, 158), (0, x4), (3, 0), (3, 0), (3, 0)] [(0, s0)] (mk E c s (hh g)) =
  ((aget X 100 ((mk E c s (hh g))) x0 ((w32 (x4 + 1)))).bind fun v1 =>
  (aget X 100 ((mk E c s (hh g))) x0 ((w32 (x4 + 2)))).bind fun v2 =>
  (aget X 100 ((mk E c s (hh g))) x0 ((w32 (x4 + 3)))).bind fun v3 =>
  (Call prog clsT X d 201 [(2, 89), (0, v1), (0, v2), (0, v3)] ((mk E c s (hh g)))).bind fun r4 => if r4.1.1 = 4 then none else
  Ev prog clsT X d mc271 560 [(2, x0), (2, 0), (2, 89), (2, 158), (0, x4), (3, 0), (3, 0), (3, 0)] (pushR r4.1 [(0, s0)]) r4.2) :=
  (evk_at (r := ((aget X 100 ((mk E c s (hh g))) x0 ((w32 (x4 + 1)))).bind fun v1 =>
  (aget X 100 ((mk E c s (hh g))) x0 ((w32 (x4 + 2)))).bind fun v2 =>
  (aget X 100 ((mk E c s (hh g))) x0 ((w32 (x4 + 3)))).bind fun v3 =>
  if (2 : Nat) = 2 ∧ rcv ((mk E c s (hh g))) 89 13 = true then
  ((Call prog clsT X d 201 [(2, 89), (0, v1), (0, v2), (0, v3)] ((mk E c s (hh g)))).bind fun r4 => if r4.1.1 = 4 then none else
  Ev prog clsT X d mc271 560 [(2, x0), (2, 0), (2, 89), (2, 158), (0, x4), (3, 0), (3, 0), (3, 0)] (pushR r4.1 [(0, s0)]) r4.2) else none)) X [0, 3, 7, 13, 24, 25, 51, 77, 80, 107, 134, 137, 190, 243, 246, 253, 260, 263, 265, 267, 270, 272, 274, 277, 311, 345, 348, 356, 364, 367, 383, 396, 409, 412, 428, 440, 452, 455, 462, 469, 472, 484, 496, 499, 511, 523, 526, 543, 560, 563, 575, 587, 590, 603, 616, 619, 635, 647, 659, 662, 674, 686, 689, 701, 713, 716, 728, 740, 743, 760, 777, 780, 796, 812, 815, 831, 847, 850, 857, 864, 867, 874, 881, 884, 901, 918, 921, 933, 945, 948, 964, 980, 983, 985, 987, 990, 997, 1004, 1007, 1019, 1031, 1034, 1042, 1050, 1053, 1069, 1092, 1115, 1118, 1133, 1150, 1167, 1170, 1182, 1194, 1197, 1213, 1229, 1232, 1239, 1246, 1249] 18 rfl).trans (by simp (maxSteps := 10000000) only [R89_13, bindI, Option.bind_some, if_true_, and_self, ite_true, true_and, true_or, or_true])
set_option maxRecDepth 100000 in
theorem r271_560 (d : Nat) (x0 x4 s0 s1 : Int) : Ev prog clsT X d mc271 560 [(2, x0), (2, 0), (2, 89), (2, 158), (0, x4), (3, 0), (3, 0), (3, 0)] [(0, s1), (0, s0)] (mk E c s (hh g)) =
  (if cmpI .eq s0 s1 = true then
  (Ev prog clsT X d mc271 1249 [(2, x0), (2, 0), (2, 89), (2, 158), (0, x4), (3, 0), (3, 0), (3, 0)] [] (mk E c s (hh g)))
else
  (some ((0, 0), ((mk E c s (hh g)))))) :=
  (evk_at (r := (if cmpI .eq s0 s1 = true then
  (Ev prog clsT X d mc271 1249 [(2, x0), (2, 0), (2, 89), (2, 158), (0, x4), (3, 0), (3, 0), (3, 0)] [] (mk E c s (hh g)))
else
  (some ((0, 0), (mk E c s (hh g)))))) X [0, 3, 7, 13, 24, 25, 51, 77, 80, 107, 134, 137, 190, 243, 246, 253, 260, 263, 265, 267, 270, 272, 274, 277, 311, 345, 348, 356, 364, 367, 383, 396, 409, 412, 428, 440, 452, 455, 462, 469, 472, 484, 496, 499, 511, 523, 526, 543, 560, 563, 575, 587, 590, 603, 616, 619, 635, 647, 659, 662, 674, 686, 689, 701, 713, 716, 728, 740, 743, 760, 777, 780, 796, 812, 815, 831, 847, 850, 857, 864, 867, 874, 881, 884, 901, 918, 921, 933, 945, 948, 964, 980, 983, 985, 987, 990, 997, 1004, 1007, 1019, 1031, 1034, 1042, 1050, 1053, 1069, 1092, 1115, 1118, 1133, 1150, 1167, 1170, 1182, 1194, 1197, 1213, 1229, 1232, 1239, 1246, 1249] 4 rfl).trans (by simp (maxSteps := 10000000) only [bindI, Option.bind_some, if_true_, and_self, ite_true, true_and, true_or, or_true])
set_option maxRecDepth 100000 in
theorem r271_563 (d : Nat) (x0 x4 : Int) : Ev prog clsT X d mc271 563 [(2, x0), (2, 0), (2, 89), (2, 158), (0, x4), (3, 0), (3, 0), (3, 0)] [] (mk E c s (hh g)) =
  ((aget X 100 ((mk E c s (hh g))) x0 ((w32 (x4 + 1)))).bind fun v1 =>
  (aget X 100 ((mk E c s (hh g))) x0 ((w32 (x4 + 2)))).bind fun v2 =>
  (Call prog clsT X d 103 [(2, 0), (0, v1), (0, v2)] ((mk E c s (hh g)))).bind fun r3 => if r3.1.1 = 4 then none else
  Ev prog clsT X d mc271 575 [(2, x0), (2, 0), (2, 89), (2, 158), (0, x4), (3, 0), (3, 0), (3, 0)] (pushR r3.1 []) r3.2) :=
  (evk_at (r := ((aget X 100 ((mk E c s (hh g))) x0 ((w32 (x4 + 1)))).bind fun v1 =>
  (aget X 100 ((mk E c s (hh g))) x0 ((w32 (x4 + 2)))).bind fun v2 =>
  if (2 : Nat) = 2 ∧ rcv ((mk E c s (hh g))) 0 12 = true then
  ((Call prog clsT X d 103 [(2, 0), (0, v1), (0, v2)] ((mk E c s (hh g)))).bind fun r3 => if r3.1.1 = 4 then none else
  Ev prog clsT X d mc271 575 [(2, x0), (2, 0), (2, 89), (2, 158), (0, x4), (3, 0), (3, 0), (3, 0)] (pushR r3.1 []) r3.2) else none)) X [0, 3, 7, 13, 24, 25, 51, 77, 80, 107, 134, 137, 190, 243, 246, 253, 260, 263, 265, 267, 270, 272, 274, 277, 311, 345, 348, 356, 364, 367, 383, 396, 409, 412, 428, 440, 452, 455, 462, 469, 472, 484, 496, 499, 511, 523, 526, 543, 560, 563, 575, 587, 590, 603, 616, 619, 635, 647, 659, 662, 674, 686, 689, 701, 713, 716, 728, 740, 743, 760, 777, 780, 796, 812, 815, 831, 847, 850, 857, 864, 867, 874, 881, 884, 901, 918, 921, 933, 945, 948, 964, 980, 983, 985, 987, 990, 997, 1004, 1007, 1019, 1031, 1034, 1042, 1050, 1053, 1069, 1092, 1115, 1118, 1133, 1150, 1167, 1170, 1182, 1194, 1197, 1213, 1229, 1232, 1239, 1246, 1249] 13 rfl).trans (by simp (maxSteps := 10000000) only [R0_12, bindI, Option.bind_some, if_true_, and_self, ite_true, true_and, true_or, or_true])
set_option maxRecDepth 100000 in
theorem r271_575 (d : Nat) (x0 x4 s0 : Int) : Ev prog clsT X d mc271 575 [(2, x0), (2, 0), (2, 89), (2, 158), (0, x4), (3, 0), (3, 0), (3, 0)] [(0, s0)] (mk E c s (hh g)) =
  ((aget X 100 ((mk E c s (hh g))) x0 ((w32 (x4 + 1)))).bind fun v1 =>
  (aget X 100 ((mk E c s (hh g))) x0 ((w32 (x4 + 2)))).bind fun v2 =>
  (Call prog clsT X d 203 [(2, 89), (0, v1), (0, v2)] ((mk E c s (hh g)))).bind fun r3 => if r3.1.1 = 4 then none else
  Ev prog clsT X d mc271 587 [(2, x0), (2, 0), (2, 89), (2, 158), (0, x4), (3, 0), (3, 0), (3, 0)] (pushR r3.1 [(0, s0)]) r3.2) :=
  (evk_at (r := ((aget X 100 ((mk E c s (hh g))) x0 ((w32 (x4 + 1)))).bind fun v1 =>
  (aget X 100 ((mk E c s (hh g))) x0 ((w32 (x4 + 2)))).bind fun v2 =>
  if (2 : Nat) = 2 ∧ rcv ((mk E c s (hh g))) 89 13 = true then
  ((Call prog clsT X d 203 [(2, 89), (0, v1), (0, v2)] ((mk E c s (hh g)))).bind fun r3 => if r3.1.1 = 4 then none else
  Ev prog clsT X d mc271 587 [(2, x0), (2, 0), (2, 89), (2, 158), (0, x4), (3, 0), (3, 0), (3, 0)] (pushR r3.1 [(0, s0)]) r3.2) else none)) X [0, 3, 7, 13, 24, 25, 51, 77, 80, 107, 134, 137, 190, 243, 246, 253, 260, 263, 265, 267, 270, 272, 274, 277, 311, 345, 348, 356, 364, 367, 383, 396, 409, 412, 428, 440, 452, 455, 462, 469, 472, 484, 496, 499, 511, 523, 526, 543, 560, 563, 575, 587, 590, 603, 616, 619, 635, 647, 659, 662, 674, 686, 689, 701, 713, 716, 728, 740, 743, 760, 777, 780, 796, 812, 815, 831, 847, 850, 857, 864, 867, 874, 881, 884, 901, 918, 921, 933, 945, 948, 964, 980, 983, 985, 987, 990, 997, 1004, 1007, 1019, 1031, 1034, 1042, 1050, 1053, 1069, 1092, 1115, 1118, 1133, 1150, 1167, 1170, 1182, 1194, 1197, 1213, 1229, 1232, 1239, 1246, 1249] 13 rfl).trans (by simp (maxSteps := 10000000) only [R89_13, bindI, Option.bind_some, if_true_, and_self, ite_true, true_and, true_or, or_true])
set_option maxRecDepth 100000 in
theorem r271_587 (d : Nat) (x0 x4 s0 s1 : Int) : Ev prog clsT X d mc271 587 [(2, x0), (2, 0), (2, 89), (2, 158), (0, x4), (3, 0), (3, 0), (3, 0)] [(0, s1), (0, s0)] (mk E c s (hh g)) =
  (if cmpI .eq s0 s1 = true then
  (Ev prog clsT X d mc271 1249 [(2, x0), (2, 0), (2, 89), (2, 158), (0, x4), (3, 0), (3, 0), (3, 0)] [] (mk E c s (hh g)))
else
  (some ((0, 0), ((mk E c s (hh g)))))) :=
  (evk_at (r := (if cmpI .eq s0 s1 = true then
  (Ev prog clsT X d mc271 1249 [(2, x0), (2, 0), (2, 89), (2, 158), (0, x4), (3, 0), (3, 0), (3, 0)] [] (mk E c s (hh g)))
else
  (some ((0, 0), (mk E c s (hh g)))))) X [0, 3, 7, 13, 24, 25, 51, 77, 80, 107, 134, 137, 190, 243, 246, 253, 260, 263, 265, 267, 270, 272, 274, 277, 311, 345, 348, 356, 364, 367, 383, 396, 409, 412, 428, 440, 452, 455, 462, 469, 472, 484, 496, 499, 511, 523, 526, 543, 560, 563, 575, 587, 590, 603, 616, 619, 635, 647, 659, 662, 674, 686, 689, 701, 713, 716, 728, 740, 743, 760, 777, 780, 796, 812, 815, 831, 847, 850, 857, 864, 867, 874, 881, 884, 901, 918, 921, 933, 945, 948, 964, 980, 983, 985, 987, 990, 997, 1004, 1007, 1019, 1031, 1034, 1042, 1050, 1053, 1069, 1092, 1115, 1118, 1133, 1150, 1167, 1170, 1182, 1194, 1197, 1213, 1229, 1232, 1239, 1246, 1249] 4 rfl).trans (by simp (maxSteps := 10000000) only [bindI, Option.bind_some, if_true_, and_self, ite_true, true_and, true_or, or_true])
set_option maxRecDepth 100000 in
theorem r271_590 (d : Nat) (x0 x4 : Int) : Ev prog clsT X d mc271 590 [(2, x0), (2, 0), (2, 89), (2, 158), (0, x4), (3, 0), (3, 0), (3, 0)] [] (mk E c s (hh g)) =
  ((aget X 100 ((mk E c s (hh g))) x0 ((w32 (x4 + 1)))).bind fun v1 =>
  (aget X 100 ((mk E c s (hh g))) x0 ((w32 (x4 + 2)))).bind fun v2 =>
  (Call prog clsT X d 268 [(2, 0), (0, v1), (0, v2), (2, 158)] ((mk E c s (hh g)))).bind fun r3 => if r3.1.1 = 4 then none else
  Ev prog clsT X d mc271 603 [(2, x0), (2, 0), (2, 89), (2, 158), (0, x4), (3, 0), (3, 0), (3, 0)] (pushR r3.1 []) r3.2) :=
  evk_at X [0, 3, 7, 13, 24, 25, 51, 77, 80, 107, 134, 137, 190, 243, 246, 253, 260, 263, 265, 267, 270, 272, 274, 277, 311, 345, 348, 356, 364, 367, 383, 396, 409, 412, 428, 440, 452, 455, 462, 469, 472, 484, 496, 499, 511, 523, 526, 543, 560, 563, 575, 587, 590, 603, 616, 619, 635, 647, 659, 662, 674, 686, 689, 701, 713, 716, 728, 740, 743, 760, 777, 780, 796, 812, 815, 831, 847, 850, 857, 864, 867, 874, 881, 884, 901, 918, 921, 933, 945, 948, 964, 980, 983, 985, 987, 990, 997, 1004, 1007, 1019, 1031, 1034, 1042, 1050, 1053, 1069, 1092, 1115, 1118, 1133, 1150, 1167, 1170, 1182, 1194, 1197, 1213, 1229, 1232, 1239, 1246, 1249] 14 rfl
set_option maxRecDepth 100000 in
theorem r271_603 (d : Nat) (x0 x4 s0 : Int) : Ev prog clsT X d mc271 603 [(2, x0), (2, 0), (2, 89), (2, 158), (0, x4), (3, 0), (3, 0), (3, 0)] [(0, s0)] (mk E c s (hh g)) =
  ((aget X 100 ((mk E c s (hh g))) x0 ((w32 (x4 + 1)))).bind fun v1 =>
  (aget X 100 ((mk E c s (hh g))) x0 ((w32 (x4 + 2)))).bind fun v2 =>
  (Call prog clsT X d 205 [(2, 89), (0, v1), (0, v2)] ((mk E c s (hh g)))).bind fun r3 => if r3.1.1 = 4 then none else
  Ev prog clsT X d mc271 616 [(2, x0), (2, 0), (2, 89), (2, 158), (0, x4), (0, s0), (3, 0), (3, 0)] (pushR r3.1 []) r3.2) :=
  (evk_at (r := ((aget X 100 ((mk E c s (hh g))) x0 ((w32 (x4 + 1)))).bind fun v1 =>
  (aget X 100 ((mk E c s (hh g))) x0 ((w32 (x4 + 2)))).bind fun v2 =>
  if (2 : Nat) = 2 ∧ rcv ((mk E c s (hh g))) 89 13 = true then
  ((Call prog clsT X d 205 [(2, 89), (0, v1), (0, v2)] ((mk E c s (hh g)))).bind fun r3 => if r3.1.1 = 4 then none else
  Ev prog clsT X d mc271 616 [(2, x0), (2, 0), (2, 89), (2, 158), (0, x4), (0, s0), (3, 0), (3, 0)] (pushR r3.1 []) r3.2) else none)) X [0, 3, 7, 13, 24, 25, 51, 77, 80, 107, 134, 137, 190, 243, 246, 253, 260, 263, 265, 267, 270, 272, 274, 277, 311, 345, 348, 356, 364, 367, 383, 396, 409, 412, 428, 440, 452, 455, 462, 469, 472, 484, 496, 499, 511, 523, 526, 543, 560, 563, 575, 587, 590, 603, 616, 619, 635, 647, 659, 662, 674, 686, 689, 701, 713, 716, 728, 740, 743, 760, 777, 780, 796, 812, 815, 831, 847, 850, 857, 864, 867, 874, 881, 884, 901, 918, 921, 933, 945, 948, 964, 980, 983, 985, 987, 990, 997, 1004, 1007, 1019, 1031, 1034, 1042, 1050, 1053, 1069, 1092, 1115, 1118, 1133, 1150, 1167, 1170, 1182, 1194, 1197, 1213, 1229, 1232, 1239, 1246, 1249] 14 rfl).trans (by simp (maxSteps := 10000000) only [R89_13, bindI, Option.bind_some, if_true_, and_self, ite_true, true_and, true_or, or_true])
set_option maxRecDepth 100000 in
theorem r271_616 (d : Nat) (x0 x4 x5 s0 : Int) : Ev prog clsT X d mc271 616 [(2, x0), (2, 0), (2, 89), (2, 158), (0, x4), (0, x5), (3, 0), (3, 0)] [(0, s0)] (mk E c s (hh g)) =
  ((Call prog clsT X d 150 [(2, 89)] ((mk E c s (hh g)))).bind fun r1 => if r1.1.1 = 4 then none else
  Ev prog clsT X d mc271 619 [(2, x0), (2, 0), (2, 89), (2, 158), (0, x4), (0, x5), (0, s0), (3, 0)] (pushR r1.1 []) r1.2) :=
  (evk_at (r := (if (2 : Nat) = 2 ∧ rcv ((mk E c s (hh g))) 89 13 = true then
  ((Call prog clsT X d 150 [(2, 89)] ((mk E c s (hh g)))).bind fun r1 => if r1.1.1 = 4 then none else
  Ev prog clsT X d mc271 619 [(2, x0), (2, 0), (2, 89), (2, 158), (0, x4), (0, x5), (0, s0), (3, 0)] (pushR r1.1 []) r1.2) else none)) X [0, 3, 7, 13, 24, 25, 51, 77, 80, 107, 134, 137, 190, 243, 246, 253, 260, 263, 265, 267, 270, 272, 274, 277, 311, 345, 348, 356, 364, 367, 383, 396, 409, 412, 428, 440, 452, 455, 462, 469, 472, 484, 496, 499, 511, 523, 526, 543, 560, 563, 575, 587, 590, 603, 616, 619, 635, 647, 659, 662, 674, 686, 689, 701, 713, 716, 728, 740, 743, 760, 777, 780, 796, 812, 815, 831, 847, 850, 857, 864, 867, 874, 881, 884, 901, 918, 921, 933, 945, 948, 964, 980, 983, 985, 987, 990, 997, 1004, 1007, 1019, 1031, 1034, 1042, 1050, 1053, 1069, 1092, 1115, 1118, 1133, 1150, 1167, 1170, 1182, 1194, 1197, 1213, 1229, 1232, 1239, 1246, 1249] 4 rfl).trans (by simp (maxSteps := 10000000) only [R89_13, bindI, Option.bind_some, if_true_, and_self, ite_true, true_and, true_or, or_true])
set_option maxRecDepth 100000 in
theorem r271_619 (d : Nat) (x0 x4 x5 x6 s0 : Int) : Ev prog clsT X d mc271 619 [(2, x0), (2, 0), (2, 89), (2, 158), (0, x4), (0, x5), (0, x6), (3, 0)] [(0, s0)] (mk E c s (hh g)) =
  (if cmpI .eq s0 x5 = true then
  (if cmpI .ne x5 0 = true then
    (Ev prog clsT X d mc271 1249 [(2, x0), (2, 0), (2, 89), (2, 158), (0, x4), (0, x5), (0, x6), (3, 0)] [] (mk E c s (hh g)))
  else
    (if cmpI .eq ((lcmpI ((g 158 0)) x6)) 0 = true then
      (Ev prog clsT X d mc271 1249 [(2, x0), (2, 0), (2, 89), (2, 158), (0, x4), (0, x5), (0, x6), (3, 0)] [] (mk E c s (hh g)))
    else
      (some ((0, 0), ((mk E c s (hh g)))))))
else
  (some ((0, 0), ((mk E c s (hh g)))))) :=
  (evk_at (r := (if cmpI .eq s0 x5 = true then
  (if cmpI .ne x5 0 = true then
    (Ev prog clsT X d mc271 1249 [(2, x0), (2, 0), (2, 89), (2, 158), (0, x4), (0, x5), (0, x6), (3, 0)] [] (mk E c s (hh g)))
  else
    ((aget X 101 ((mk E c s (hh g))) 158 0).bind fun v1 =>
      if cmpI .eq ((lcmpI v1 x6)) 0 = true then
      (Ev prog clsT X d mc271 1249 [(2, x0), (2, 0), (2, 89), (2, 158), (0, x4), (0, x5), (0, x6), (3, 0)] [] (mk E c s (hh g)))
    else
      (some ((0, 0), (mk E c s (hh g))))))
else
  (some ((0, 0), (mk E c s (hh g)))))) X [0, 3, 7, 13, 24, 25, 51, 77, 80, 107, 134, 137, 190, 243, 246, 253, 260, 263, 265, 267, 270, 272, 274, 277, 311, 345, 348, 356, 364, 367, 383, 396, 409, 412, 428, 440, 452, 455, 462, 469, 472, 484, 496, 499, 511, 523, 526, 543, 560, 563, 575, 587, 590, 603, 616, 619, 635, 647, 659, 662, 674, 686, 689, 701, 713, 716, 728, 740, 743, 760, 777, 780, 796, 812, 815, 831, 847, 850, 857, 864, 867, 874, 881, 884, 901, 918, 921, 933, 945, 948, 964, 980, 983, 985, 987, 990, 997, 1004, 1007, 1019, 1031, 1034, 1042, 1050, 1053, 1069, 1092, 1115, 1118, 1133, 1150, 1167, 1170, 1182, 1194, 1197, 1213, 1229, 1232, 1239, 1246, 1249] 14 rfl).trans (by simp (maxSteps := 10000000) only [inbL 0 1 rfl, tn0, ↓A158, bindI, Option.bind_some, if_true_, and_self, ite_true, true_and, true_or, or_true])
set_option maxRecDepth 100000 in
theorem r271_635 (d : Nat) (x0 x4 : Int) : Ev prog clsT X d mc271 635 [(2, x0), (2, 0), (2, 89), (2, 158), (0, x4), (3, 0), (3, 0), (3, 0)] [] (mk E c s (hh g)) =
  ((aget X 100 ((mk E c s (hh g))) x0 ((w32 (x4 + 1)))).bind fun v1 =>
  (aget X 100 ((mk E c s (hh g))) x0 ((w32 (x4 + 2)))).bind fun v2 =>
  (Call prog clsT X d 105 [(2, 0), (0, v1), (0, v2)] ((mk E c s (hh g)))).bind fun r3 => if r3.1.1 = 4 then none else
  Ev prog clsT X d mc271 647 [(2, x0), (2, 0), (2, 89), (2, 158), (0, x4), (3, 0), (3, 0), (3, 0)] (pushR r3.1 []) r3.2) :=
  (evk_at (r := ((aget X 100 ((mk E c s (hh g))) x0 ((w32 (x4 + 1)))).bind fun v1 =>
  (aget X 100 ((mk E c s (hh g))) x0 ((w32 (x4 + 2)))).bind fun v2 =>
  if (2 : Nat) = 2 ∧ rcv ((mk E c s (hh g))) 0 12 = true then
  ((Call prog clsT X d 105 [(2, 0), (0, v1), (0, v2)] ((mk E c s (hh g)))).bind fun r3 => if r3.1.1 = 4 then none else
  Ev prog clsT X d mc271 647 [(2, x0), (2, 0), (2, 89), (2, 158), (0, x4), (3, 0), (3, 0), (3, 0)] (pushR r3.1 []) r3.2) else none)) X [0, 3, 7, 13, 24, 25, 51, 77, 80, 107, 134, 137, 190, 243, 246, 253, 260, 263, 265, 267, 270, 272, 274, 277, 311, 345, 348, 356, 364, 367, 383, 396, 409, 412, 428, 440, 452, 455, 462, 469, 472, 484, 496, 499, 511, 523, 526, 543, 560, 563, 575, 587, 590, 603, 616, 619, 635, 647, 659, 662, 674, 686, 689, 701, 713, 716, 728, 740, 743, 760, 777, 780, 796, 812, 815, 831, 847, 850, 857, 864, 867, 874, 881, 884, 901, 918, 921, 933, 945, 948, 964, 980, 983, 985, 987, 990, 997, 1004, 1007, 1019, 1031, 1034, 1042, 1050, 1053, 1069, 1092, 1115, 1118, 1133, 1150, 1167, 1170, 1182, 1194, 1197, 1213, 1229, 1232, 1239, 1246, 1249] 13 rfl).trans (by simp (maxSteps := 10000000) only [R0_12, bindI, Option.bind_some, if_true_, and_self, ite_true, true_and, true_or, or_true])
set_option maxRecDepth 100000 in
theorem r271_647 (d : Nat) (x0 x4 s0 : Int) : Ev prog clsT X d mc271 647 [(2, x0), (2, 0), (2, 89), (2, 158), (0, x4), (3, 0), (3, 0), (3, 0)] [(0, s0)] (mk E c s (hh g)) =
  ((aget X 100 ((mk E c s (hh g))) x0 ((w32 (x4 + 1)))).bind fun v1 =>
  (aget X 100 ((mk E c s (hh g))) x0 ((w32 (x4 + 2)))).bind fun v2 =>
  (Call prog clsT X d 208 [(2, 89), (0, v1), (0, v2)] ((mk E c s (hh g)))).bind fun r3 => if r3.1.1 = 4 then none else
  Ev prog clsT X d mc271 659 [(2, x0), (2, 0), (2, 89), (2, 158), (0, x4), (3, 0), (3, 0), (3, 0)] (pushR r3.1 [(0, s0)]) r3.2) :=
  (evk_at (r := ((aget X 100 ((mk E c s (hh g))) x0 ((w32 (x4 + 1)))).bind fun v1 =>
  (aget X 100 ((mk E c s (hh g))) x0 ((w32 (x4 + 2)))).bind fun v2 =>
  if (2 : Nat) = 2 ∧ rcv ((mk E c s (hh g))) 89 13 = true then
  ((Call prog clsT X d 208 [(2, 89), (0, v1), (0, v2)] ((mk E c s (hh g)))).bind fun r3 => if r3.1.1 = 4 then none else
  Ev prog clsT X d mc271 659 [(2, x0), (2, 0), (2, 89), (2, 158), (0, x4), (3, 0), (3, 0), (3, 0)] (pushR r3.1 [(0, s0)]) r3.2) else none)) X [0, 3, 7, 13, 24, 25, 51, 77, 80, 107, 134, 137, 190, 243, 246, 253, 260, 263, 265, 267, 270, 272, 274, 277, 311, 345, 348, 356, 364, 367, 383, 396, 409, 412, 428, 440, 452, 455, 462, 469, 472, 484, 496, 499, 511, 523, 526, 543, 560, 563, 575, 587, 590, 603, 616, 619, 635, 647, 659, 662, 674, 686, 689, 701, 713, 716, 728, 740, 743, 760, 777, 780, 796, 812, 815, 831, 847, 850, 857, 864, 867, 874, 881, 884, 901, 918, 921, 933, 945, 948, 964, 980, 983, 985, 987, 990, 997, 1004, 1007, 1019, 1031, 1034, 1042, 1050, 1053, 1069, 1092, 1115, 1118, 1133, 1150, 1167, 1170, 1182, 1194, 1197, 1213, 1229, 1232, 1239, 1246, 1249] 13 rfl).trans (by simp (maxSteps := 10000000) only [R89_13, bindI, Option.bind_some, if_true_, and_self, ite_true, true_and, true_or, or_true])
set_option maxRecDepth 100000 in
theorem r271_659 (d : Nat) (x0 x4 s0 s1 : Int) : Ev prog clsT X d mc271 659 [(2, x0), (2, 0), (2, 89), (2, 158), (0, x4), (3, 0), (3, 0), (3, 0)] [(0, s1), (0, s0)] (mk E c s (hh g)) =
  (if cmpI .eq s0 s1 = true then
  (Ev prog clsT X d mc271 1249 [(2, x0), (2, 0), (2, 89), (2, 158), (0, x4), (3, 0), (3, 0), (3, 0)] [] (mk E c s (hh g)))
else
  (some ((0, 0), ((mk E c s (hh g)))))) :=
  (evk_at (r := (if cmpI .eq s0 s1 = true then
  (Ev prog clsT X d mc271 1249 [(2, x0), (2, 0), (2, 89), (2, 158), (0, x4), (3, 0), (3, 0), (3, 0)] [] (mk E c s (hh g)))
else
  (some ((0, 0), (mk E c s (hh g)))))) X [0, 3, 7, 13, 24, 25, 51, 77, 80, 107, 134, 137, 190, 243, 246, 253, 260, 263, 265, 267, 270, 272, 274, 277, 311, 345, 348, 356, 364, 367, 383, 396, 409, 412, 428, 440, 452, 455, 462, 469, 472, 484, 496, 499, 511, 523, 526, 543, 560, 563, 575, 587, 590, 603, 616, 619, 635, 647, 659, 662, 674, 686, 689, 701, 713, 716, 728, 740, 743, 760, 777, 780, 796, 812, 815, 831, 847, 850, 857, 864, 867, 874, 881, 884, 901, 918, 921, 933, 945, 948, 964, 980, 983, 985, 987, 990, 997, 1004, 1007, 1019, 1031, 1034, 1042, 1050, 1053, 1069, 1092, 1115, 1118, 1133, 1150, 1167, 1170, 1182, 1194, 1197, 1213, 1229, 1232, 1239, 1246, 1249] 4 rfl).trans (by simp (maxSteps := 10000000) only [bindI, Option.bind_some, if_true_, and_self, ite_true, true_and, true_or, or_true])
set_option maxRecDepth 100000 in
theorem r271_662 (d : Nat) (x0 x4 : Int) : Ev prog clsT X d mc271 662 [(2, x0), (2, 0), (2, 89), (2, 158), (0, x4), (3, 0), (3, 0), (3, 0)] [] (mk E c s (hh g)) =
  ((aget X 100 ((mk E c s (hh g))) x0 ((w32 (x4 + 1)))).bind fun v1 =>
  (aget X 100 ((mk E c s (hh g))) x0 ((w32 (x4 + 2)))).bind fun v2 =>
  (Call prog clsT X d 110 [(2, 0), (0, v1), (0, v2)] ((mk E c s (hh g)))).bind fun r3 => if r3.1.1 = 4 then none else
  Ev prog clsT X d mc271 674 [(2, x0), (2, 0), (2, 89), (2, 158), (0, x4), (3, 0), (3, 0), (3, 0)] (pushR r3.1 []) r3.2) :=
  (evk_at (r := ((aget X 100 ((mk E c s (hh g))) x0 ((w32 (x4 + 1)))).bind fun v1 =>
  (aget X 100 ((mk E c s (hh g))) x0 ((w32 (x4 + 2)))).bind fun v2 =>
  if (2 : Nat) = 2 ∧ rcv ((mk E c s (hh g))) 0 12 = true then
  ((Call prog clsT X d 110 [(2, 0), (0, v1), (0, v2)] ((mk E c s (hh g)))).bind fun r3 => if r3.1.1 = 4 then none else
  Ev prog clsT X d mc271 674 [(2, x0), (2, 0), (2, 89), (2, 158), (0, x4), (3, 0), (3, 0), (3, 0)] (pushR r3.1 []) r3.2) else none)) X [0, 3, 7, 13, 24, 25, 51, 77, 80, 107, 134, 137, 190, 243, 246, 253, 260, 263, 265, 267, 270, 272, 274, 277, 311, 345, 348, 356, 364, 367, 383, 396, 409, 412, 428, 440, 452, 455, 462, 469, 472, 484, 496, 499, 511, 523, 526, 543, 560, 563, 575, 587, 590, 603, 616, 619, 635, 647, 659, 662, 674, 686, 689, 701, 713, 716, 728, 740, 743, 760, 777, 780, 796, 812, 815, 831, 847, 850, 857, 864, 867, 874, 881, 884, 901, 918, 921, 933, 945, 948, 964, 980, 983, 985, 987, 990, 997, 1004, 1007, 1019, 1031, 1034, 1042, 1050, 1053, 1069, 1092, 1115, 1118, 1133, 1150, 1167, 1170, 1182, 1194, 1197, 1213, 1229, 1232, 1239, 1246, 1249] 13 rfl).trans (by simp (maxSteps := 10000000) only [R0_12, bindI, Option.bind_some, if_true_, and_self, ite_true, true_and, true_or, or_true])
set_option maxRecDepth 100000 in
theorem r271_674 (d : Nat) (x0 x4 s0 : Int) : Ev prog clsT X d mc271 674 [(2, x0), (2, 0), (2, 89), (2, 158), (0, x4), (3, 0), (3, 0), (3, 0)] [(0, s0)] (mk E c s (hh g)) =
  ((aget X 100 ((mk E c s (hh g))) x0 ((w32 (x4 + 1)))).bind fun v1 =>
  (aget X 100 ((mk E c s (hh g))) x0 ((w32 (x4 + 2)))).bind fun v2 =>
  (Call prog clsT X d 213 [(2, 89), (0, v1), (0, v2)] ((mk E c s (hh g)))).bind fun r3 => if r3.1.1 = 4 then none else
  Ev prog clsT X d mc271 686 [(2, x0), (2, 0), (2, 89), (2, 158), (0, x4), (3, 0), (3, 0), (3, 0)] (pushR r3.1 [(0, s0)]) r3.2) :=
  (evk_at (r := ((aget X 100 ((mk E c s (hh g))) x0 ((w32 (x4 + 1)))).bind fun v1 =>
  (aget X 100 ((mk E c s (hh g))) x0 ((w32 (x4 + 2)))).bind fun v2 =>
  if (2 : Nat) = 2 ∧ rcv ((mk E c s (hh g))) 89 13 = true then
  ((Call prog clsT X d 213 [(2, 89), (0, v1), (0, v2)] ((mk E c s (hh g)))).bind fun r3 => if r3.1.1 = 4 then none else
  Ev prog clsT X d mc271 686 [(2, x0), (2, 0), (2, 89), (2, 158), (0, x4), (3, 0), (3, 0), (3, 0)] (pushR r3.1 [(0, s0)]) r3.2) else none)) X [0, 3, 7, 13, 24, 25, 51, 77, 80, 107, 134, 137, 190, 243, 246, 253, 260, 263, 265, 267, 270, 272, 274, 277, 311, 345, 348, 356, 364, 367, 383, 396, 409, 412, 428, 440, 452, 455, 462, 469, 472, 484, 496, 499, 511, 523, 526, 543, 560, 563, 575, 587, 590, 603, 616, 619, 635, 647, 659, 662, 674, 686, 689, 701, 713, 716, 728, 740, 743, 760, 777, 780, 796, 812, 815, 831, 847, 850, 857, 864, 867, 874, 881, 884, 901, 918, 921, 933, 945, 948, 964, 980, 983, 985, 987, 990, 997, 1004, 1007, 1019, 1031, 1034, 1042, 1050, 1053, 1069, 1092, 1115, 1118, 1133, 1150, 1167, 1170, 1182, 1194, 1197, 1213, 1229, 1232, 1239, 1246, 1249] 13 rfl).trans (by simp (maxSteps := 10000000) only [R89_13, bindI, Option.bind_some, if_true_, and_self, ite_true, true_and, true_or, or_true])
set_option maxRecDepth 100000 in
theorem r271_686 (d : Nat) (x0 x4 s0 s1 : Int) : Ev prog clsT X d mc271 686 [(2, x0), (2, 0), (2, 89), (2, 158), (0, x4), (3, 0), (3, 0), (3, 0)] [(0, s1), (0, s0)] (mk E c s (hh g)) =
  (if cmpI .eq s0 s1 = true then
  (Ev prog clsT X d mc271 1249 [(2, x0), (2, 0), (2, 89), (2, 158), (0, x4), (3, 0), (3, 0), (3, 0)] [] (mk E c s (hh g)))
else
  (some ((0, 0), ((mk E c s (hh g)))))) :=
  (evk_at (r := (if cmpI .eq s0 s1 = true then
  (Ev prog clsT X d mc271 1249 [(2, x0), (2, 0), (2, 89), (2, 158), (0, x4), (3, 0), (3, 0), (3, 0)] [] (mk E c s (hh g)))
else
  (some ((0, 0), (mk E c s (hh g)))))) X [0, 3, 7, 13, 24, 25, 51, 77, 80, 107, 134, 137, 190, 243, 246, 253, 260, 263, 265, 267, 270, 272, 274, 277, 311, 345, 348, 356, 364, 367, 383, 396, 409, 412, 428, 440, 452, 455, 462, 469, 472, 484, 496, 499, 511, 523, 526, 543, 560, 563, 575, 587, 590, 603, 616, 619, 635, 647, 659, 662, 674, 686, 689, 701, 713, 716, 728, 740, 743, 760, 777, 780, 796, 812, 815, 831, 847, 850, 857, 864, 867, 874, 881, 884, 901, 918, 921, 933, 945, 948, 964, 980, 983, 985, 987, 990, 997, 1004, 1007, 1019, 1031, 1034, 1042, 1050, 1053, 1069, 1092, 1115, 1118, 1133, 1150, 1167, 1170, 1182, 1194, 1197, 1213, 1229, 1232, 1239, 1246, 1249] 4 rfl).trans (by simp (maxSteps := 10000000) only [bindI, Option.bind_some, if_true_, and_self, ite_true, true_and, true_or, or_true])
set_option maxRecDepth 100000 in
theorem r271_689 (d : Nat) (x0 x4 : Int) : Ev prog clsT X d mc271 689 [(2, x0), (2, 0), (2, 89), (2, 158), (0, x4), (3, 0), (3, 0), (3, 0)] [] (mk E c s (hh g)) =
  ((aget X 100 ((mk E c s (hh g))) x0 ((w32 (x4 + 1)))).bind fun v1 =>
  (aget X 100 ((mk E c s (hh g))) x0 ((w32 (x4 + 2)))).bind fun v2 =>
  (Call prog clsT X d 111 [(2, 0), (0, v1), (0, v2)] ((mk E c s (hh g)))).bind fun r3 => if r3.1.1 = 4 then none else
  Ev prog clsT X d mc271 701 [(2, x0), (2, 0), (2, 89), (2, 158), (0, x4), (3, 0), (3, 0), (3, 0)] (pushR r3.1 []) r3.2) :=
  (evk_at (r := ((aget X 100 ((mk E c s (hh g))) x0 ((w32 (x4 + 1)))).bind fun v1 =>
  (aget X 100 ((mk E c s (hh g))) x0 ((w32 (x4 + 2)))).bind fun v2 =>
  if (2 : Nat) = 2 ∧ rcv ((mk E c s (hh g))) 0 12 = true then
  ((Call prog clsT X d 111 [(2, 0), (0, v1), (0, v2)] ((mk E c s (hh g)))).bind fun r3 => if r3.1.1 = 4 then none else
  Ev prog clsT X d mc271 701 [(2, x0), (2, 0), (2, 89), (2, 158), (0, x4), (3, 0), (3, 0), (3, 0)] (pushR r3.1 []) r3.2) else none)) X [0, 3, 7, 13, 24, 25, 51, 77, 80, 107, 134, 137, 190, 243, 246, 253, 260, 263, 265, 267, 270, 272, 274, 277, 311, 345, 348, 356, 364, 367, 383, 396, 409, 412, 428, 440, 452, 455, 462, 469, 472, 484, 496, 499, 511, 523, 526, 543, 560, 563, 575, 587, 590, 603, 616, 619, 635, 647, 659, 662, 674, 686, 689, 701, 713, 716, 728, 740, 743, 760, 777, 780, 796, 812, 815, 831, 847, 850, 857, 864, 867, 874, 881, 884, 901, 918, 921, 933, 945, 948, 964, 980, 983, 985, 987, 990, 997, 1004, 1007, 1019, 1031, 1034, 1042, 1050, 1053, 1069, 1092, 1115, 1118, 1133, 1150, 1167, 1170, 1182, 1194, 1197, 1213, 1229, 1232, 1239, 1246, 1249] 13 rfl).trans (by simp (maxSteps := 10000000) only [R0_12, bindI, Option.bind_some, if_true_, and_self, ite_true, true_and, true_or, or_true])
set_option maxRecDepth 100000 in
theorem r271_701 (d : Nat) (x0 x4 s0 : Int) : Ev prog clsT X d mc271 701 [(2, x0), (2, 0), (2, 89), (2, 158), (0, x4), (3, 0), (3, 0), (3, 0)] [(0, s0)] (mk E c s (hh g)) =
  ((aget X 100 ((mk E c s (hh g))) x0 ((w32 (x4 + 1)))).bind fun v1 =>
  (aget X 100 ((mk E c s (hh g))) x0 ((w32 (x4 + 2)))).bind fun v2 =>
  (Call prog clsT X d 214 [(2, 89), (0, v1), (0, v2)] ((mk E c s (hh g)))).bind fun r3 => if r3.1.1 = 4 then none else
  Ev prog clsT X d mc271 713 [(2, x0), (2, 0), (2, 89), (2, 158), (0, x4), (3, 0), (3, 0), (3, 0)] (pushR r3.1 [(0, s0)]) r3.2) :=
  (evk_at (r := ((aget X 100 ((mk E c s (hh g))) x0 ((w32 (x4 + 1)))).bind fun v1 =>
  (aget X 100 ((mk E c s (hh g))) x0 ((w32 (x4 + 2)))).bind fun v2 =>
  if (2 : Nat) = 2 ∧ rcv ((mk E c s (hh g))) 89 13 = true then
  ((Call prog clsT X d 214 [(2, 89), (0, v1), (0, v2)] ((mk E c s (hh g)))).bind fun r3 => if r3.1.1 = 4 then none else
  Ev prog clsT X d mc271 713 [(2, x0), (2, 0), (2, 89), (2, 158), (0, x4), (3, 0), (3, 0), (3, 0)] (pushR r3.1 [(0, s0)]) r3.2) else none)) X [0, 3, 7, 13, 24, 25, 51, 77, 80, 107, 134, 137, 190, 243, 246, 253, 260, 263, 265, 267, 270, 272, 274, 277, 311, 345, 348, 356, 364, 367, 383, 396, 409, 412, 428, 440, 452, 455, 462, 469, 472, 484, 496, 499, 511, 523, 526, 543, 560, 563, 575, 587, 590, 603, 616, 619, 635, 647, 659, 662, 674, 686, 689, 701, 713, 716, 728, 740, 743, 760, 777, 780, 796, 812, 815, 831, 847, 850, 857, 864, 867, 874, 881, 884, 901, 918, 921, 933, 945, 948, 964, 980, 983, 985, 987, 990, 997, 1004, 1007, 1019, 1031, 1034, 1042, 1050, 1053, 1069, 1092, 1115, 1118, 1133, 1150, 1167, 1170, 1182, 1194, 1197, 1213, 1229, 1232, 1239, 1246, 1249] 13 rfl).trans (by simp (maxSteps := 10000000) only [R89_13, bindI, Option.bind_some, if_true_, and_self, ite_true, true_and, true_or, or_true])
set_option maxRecDepth 100000 in
theorem r271_713 (d : Nat) (x0 x4 s0 s1 : Int) : Ev prog clsT X d mc271 713 [(2, x0), (2, 0), (2, 89), (2, 158), (0, x4), (3, 0), (3, 0), (3, 0)] [(0, s1), (0, s0)] (mk E c s (hh g)) =
  (if cmpI .eq s0 s1 = true then
  (Ev prog clsT X d mc271 1249 [(2, x0), (2, 0), (2, 89), (2, 158), (0, x4), (3, 0), (3, 0), (3, 0)] [] (mk E c s (hh g)))
else
  (some ((0, 0), ((mk E c s (hh g)))))) :=
  (evk_at (r := (if cmpI .eq s0 s1 = true then
  (Ev prog clsT X d mc271 1249 [(2, x0), (2, 0), (2, 89), (2, 158), (0, x4), (3, 0), (3, 0), (3, 0)] [] (mk E c s (hh g)))
else
  (some ((0, 0), (mk E c s (hh g)))))) X [0, 3, 7, 13, 24, 25, 51, 77, 80, 107, 134, 137, 190, 243, 246, 253, 260, 263, 265, 267, 270, 272, 274, 277, 311, 345, 348, 356, 364, 367, 383, 396, 409, 412, 428, 440, 452, 455, 462, 469, 472, 484, 496, 499, 511, 523, 526, 543, 560, 563, 575, 587, 590, 603, 616, 619, 635, 647, 659, 662, 674, 686, 689, 701, 713, 716, 728, 740, 743, 760, 777, 780, 796, 812, 815, 831, 847, 850, 857, 864, 867, 874, 881, 884, 901, 918, 921, 933, 945, 948, 964, 980, 983, 985, 987, 990, 997, 1004, 1007, 1019, 1031, 1034, 1042, 1050, 1053, 1069, 1092, 1115, 1118, 1133, 1150, 1167, 1170, 1182, 1194, 1197, 1213, 1229, 1232, 1239, 1246, 1249] 4 rfl).trans (by simp (maxSteps := 10000000) only [bindI, Option.bind_some, if_true_, and_self, ite_true, true_and, true_or, or_true])
set_option maxRecDepth 100000 in
theorem r271_716 (d : Nat) (x0 x4 : Int) : Ev prog clsT X d mc271 716 [(2, x0), (2, 0), (2, 89), (2, 158), (0, x4), (3, 0), (3, 0), (3, 0)] [] (mk E c s (hh g)) =
  ((aget X 100 ((mk E c s (hh g))) x0 ((w32 (x4 + 1)))).bind fun v1 =>
  (aget X 100 ((mk E c s (hh g))) x0 ((w32 (x4 + 2)))).bind fun v2 =>
  (Call prog clsT X d 112 [(2, 0), (0, v1), (0, v2)] ((mk E c s (hh g)))).bind fun r3 => if r3.1.1 = 4 then none else
  Ev prog clsT X d mc271 728 [(2, x0), (2, 0), (2, 89), (2, 158), (0, x4), (3, 0), (3, 0), (3, 0)] (pushR r3.1 []) r3.2) :=
  (evk_at (r := ((aget X 100 ((mk E c s (hh g))) x0 ((w32 (x4 + 1)))).bind fun v1 =>
  (aget X 100 ((mk E c s (hh g))) x0 ((w32 (x4 + 2)))).bind fun v2 =>
  if (2 : Nat) = 2 ∧ rcv ((mk E c s (hh g))) 0 12 = true then
  ((Call prog clsT X d 112 [(2, 0), (0, v1), (0, v2)] ((mk E c s (hh g)))).bind fun r3 => if r3.1.1 = 4 then none else
  Ev prog clsT X d mc271 728 [(2, x0), (2, 0), (2, 89), (2, 158), (0, x4), (3, 0), (3, 0), (3, 0)] (pushR r3.1 []) r3.2) else none)) X [0, 3, 7, 13, 24, 25, 51, 77, 80, 107, 134, 137, 190, 243, 246, 253, 260, 263, 265, 267, 270, 272, 274, 277, 311, 345, 348, 356, 364, 367, 383, 396, 409, 412, 428, 440, 452, 455, 462, 469, 472, 484, 496, 499, 511, 523, 526, 543, 560, 563, 575, 587, 590, 603, 616, 619, 635, 647, 659, 662, 674, 686, 689, 701, 713, 716, 728, 740, 743, 760, 777, 780, 796, 812, 815, 831, 847, 850, 857, 864, 867, 874, 881, 884, 901, 918, 921, 933, 945, 948, 964, 980, 983, 985, 987, 990, 997, 1004, 1007, 1019, 1031, 1034, 1042, 1050, 1053, 1069, 1092, 1115, 1118, 1133, 1150, 1167, 1170, 1182, 1194, 1197, 1213, 1229, 1232, 1239, 1246, 1249] 13 rfl).trans (by simp (maxSteps := 10000000) only [R0_12, bindI, Option.bind_some, if_true_, and_self, ite_true, true_and, true_or, or_true])
set_option maxRecDepth 100000 in
theorem r271_728 (d : Nat) (x0 x4 s0 : Int) : Ev prog clsT X d mc271 728 [(2, x0), (2, 0), (2, 89), (2, 158), (0, x4), (3, 0), (3, 0), (3, 0)] [(0, s0)] (mk E c s (hh g)) =
  ((aget X 100 ((mk E c s (hh g))) x0 ((w32 (x4 + 1)))).bind fun v1 =>
  (aget X 100 ((mk E c s (hh g))) x0 ((w32 (x4 + 2)))).bind fun v2 =>
  (Call prog clsT X d 215 [(2, 89), (0, v1), (0, v2)] ((mk E c s (hh g)))).bind fun r3 => if r3.1.1 = 4 then none else
  Ev prog clsT X d mc271 740 [(2, x0), (2, 0), (2, 89), (2, 158), (0, x4), (3, 0), (3, 0), (3, 0)] (pushR r3.1 [(0, s0)]) r3.2) :=
  (evk_at (r := ((aget X 100 ((mk E c s (hh g))) x0 ((w32 (x4 + 1)))).bind fun v1 =>
  (aget X 100 ((mk E c s (hh g))) x0 ((w32 (x4 + 2)))).bind fun v2 =>
  if (2 : Nat) = 2 ∧ rcv ((mk E c s (hh g))) 89 13 = true then
  ((Call prog clsT X d 215 [(2, 89), (0, v1), (0, v2)] ((mk E c s (hh g)))).bind fun r3 => if r3.1.1 = 4 then none else
  Ev prog clsT X d mc271 740 [(2, x0), (2, 0), (2, 89), (2, 158), (0, x4), (3, 0), (3, 0), (3, 0)] (pushR r3.1 [(0, s0)]) r3.2) else none)) X [0, 3, 7, 13, 24, 25, 51, 77, 80, 107, 134, 137, 190, 243, 246, 253, 260, 263, 265, 267, 270, 272, 274, 277, 311, 345, 348, 356, 364, 367, 383, 396, 409, 412, 428, 440, 452, 455, 462, 469, 472, 484, 496, 499, 511, 523, 526, 543, 560, 563, 575, 587, 590, 603, 616, 619, 635, 647, 659, 662, 674, 686, 689, 701, 713, 716, 728, 740, 743, 760, 777, 780, 796, 812, 815, 831, 847, 850, 857, 864, 867, 874, 881, 884, 901, 918, 921, 933, 945, 948, 964, 980, 983, 985, 987, 990, 997, 1004, 1007, 1019, 1031, 1034, 1042, 1050, 1053, 1069, 1092, 1115, 1118, 1133, 1150, 1167, 1170, 1182, 1194, 1197, 1213, 1229, 1232, 1239, 1246, 1249] 13 rfl).trans (by simp (maxSteps := 10000000) only [R89_13, bindI, Option.bind_some, if_true_, and_self, ite_true, true_and, true_or, or_true])
set_option maxRecDepth 100000 in
theorem r271_740 (d : Nat) (x0 x4 s0 s1 : Int) : Ev prog clsT X d mc271 740 [(2, x0), (2, 0), (2, 89), (2, 158), (0, x4), (3, 0), (3, 0), (3, 0)] [(0, s1), (0, s0)] (mk E c s (hh g)) =
  (if cmpI .eq s0 s1 = true then
  (Ev prog clsT X d mc271 1249 [(2, x0), (2, 0), (2, 89), (2, 158), (0, x4), (3, 0), (3, 0), (3, 0)] [] (mk E c s (hh g)))
else
  (some ((0, 0), ((mk E c s (hh g)))))) :=
  (evk_at (r := (if cmpI .eq s0 s1 = true then
  (Ev prog clsT X d mc271 1249 [(2, x0), (2, 0), (2, 89), (2, 158), (0, x4), (3, 0), (3, 0), (3, 0)] [] (mk E c s (hh g)))
else
  (some ((0, 0), (mk E c s (hh g)))))) X [0, 3, 7, 13, 24, 25, 51, 77, 80, 107, 134, 137, 190, 243, 246, 253, 260, 263, 265, 267, 270, 272, 274, 277, 311, 345, 348, 356, 364, 367, 383, 396, 409, 412, 428, 440, 452, 455, 462, 469, 472, 484, 496, 499, 511, 523, 526, 543, 560, 563, 575, 587, 590, 603, 616, 619, 635, 647, 659, 662, 674, 686, 689, 701, 713, 716, 728, 740, 743, 760, 777, 780, 796, 812, 815, 831, 847, 850, 857, 864, 867, 874, 881, 884, 901, 918, 921, 933, 945, 948, 964, 980, 983, 985, 987, 990, 997, 1004, 1007, 1019, 1031, 1034, 1042, 1050, 1053, 1069, 1092, 1115, 1118, 1133, 1150, 1167, 1170, 1182, 1194, 1197, 1213, 1229, 1232, 1239, 1246, 1249] 4 rfl).trans (by simp (maxSteps := 10000000) only [bindI, Option.bind_some, if_true_, and_self, ite_true, true_and, true_or, or_true])
set_option maxRecDepth 100000 in
theorem r271_743 (d : Nat) (x0 x4 : Int) : Ev prog clsT X d mc271 743 [(2, x0), (2, 0), (2, 89), (2, 158), (0, x4), (3, 0), (3, 0), (3, 0)] [] (mk E c s (hh g)) =
  ((aget X 100 ((mk E c s (hh g))) x0 ((w32 (x4 + 1)))).bind fun v1 =>
  (aget X 100 ((mk E c s (hh g))) x0 ((w32 (x4 + 2)))).bind fun v2 =>
  (aget X 100 ((mk E c s (hh g))) x0 ((w32 (x4 + 3)))).bind fun v3 =>
  (Call prog clsT X d 113 [(2, 0), (0, v1), (0, v2), (0, v3)] ((mk E c s (hh g)))).bind fun r4 => if r4.1.1 = 4 then none else
  Ev prog clsT X d mc271 760 [(2, x0), (2, 0), (2, 89), (2, 158), (0, x4), (3, 0), (3, 0), (3, 0)] (pushR r4.1 []) r4.2) :=
  (evk_at (r := ((aget X 100 ((mk E c s (hh g))) x0 ((w32 (x4 + 1)))).bind fun v1 =>
  (aget X 100 ((mk E c s (hh g))) x0 ((w32 (x4 + 2)))).bind fun v2 =>
  (aget X 100 ((mk E c s (hh g))) x0 ((w32 (x4 + 3)))).bind fun v3 =>
  if (2 : Nat) = 2 ∧ rcv ((mk E c s (hh g))) 0 12 = true then
  ((Call prog clsT X d 113 [(2, 0), (0, v1), (0, v2), (0, v3)] ((mk E c s (hh g)))).bind fun r4 => if r4.1.1 = 4 then none else
  Ev prog clsT X d mc271 760 [(2, x0), (2, 0), (2, 89), (2, 158), (0, x4), (3, 0), (3, 0), (3, 0)] (pushR r4.1 []) r4.2) else none)) X [0, 3, 7, 13, 24, 25, 51, 77, 80, 107, 134, 137, 190, 243, 246, 253, 260, 263, 265, 267, 270, 272, 274, 277, 311, 345, 348, 356, 364, 367, 383, 396, 409, 412, 428, 440, 452, 455, 462, 469, 472, 484, 496, 499, 511, 523, 526, 543, 560, 563, 575, 587, 590, 603, 616, 619, 635, 647, 659, 662, 674, 686, 689, 701, 713, 716, 728, 740, 743, 760, 777, 780, 796, 812, 815, 831, 847, 850, 857, 864, 867, 874, 881, 884, 901, 918, 921, 933, 945, 948, 964, 980, 983, 985, 987, 990, 997, 1004, 1007, 1019, 1031, 1034, 1042, 1050, 1053, 1069, 1092, 1115, 1118, 1133, 1150, 1167, 1170, 1182, 1194, 1197, 1213, 1229, 1232, 1239, 1246, 1249] 18 rfl).trans (by simp (maxSteps := 10000000) only [R0_12, bindI, Option.bind_some, if_true_, and_self, ite_true, true_and, true_or, or_true])
set_option maxRecDepth 100000 in
theorem r271_760 (d : Nat) (x0 x4 s0 : Int) : Ev prog clsT X d mc271 760 [(2, x0), (2, 0), (2, 89), (2, 158), (0, x4), (3, 0), (3, 0), (3, 0)] [(0, s0)] (mk E c s (hh g)) =
  ((aget X 100 ((mk E c s (hh g))) x0 ((w32 (x4 + 1)))).bind fun v1 =>
  (aget X 100 ((mk E c s (hh g))) x0 ((w32 (x4 + 2)))).bind fun v2 =>
  (aget X 100 ((mk E c s (hh g))) x0 ((w32 (x4 + 3)))).bind fun v3 =>
  (Call prog clsT X d 216 [(2, 89), (0, v1), (0, v2), (0, v3)] ((mk E c s (hh g)))).bind fun r4 => if r4.1.1 = 4 then none else
  Ev prog clsT X d mc271 777 [(2, x0), (2, 0), (2, 89), (2, 158), (0, x4), (3, 0), (3, 0), (3, 0)] (pushR r4.1 [(0, s0)]) r4.2) :=
  (evk_at (r := ((aget X 100 ((mk E c s (hh g))) x0 ((w32 (x4 + 1)))).bind fun v1 =>
  (aget X 100 ((mk E c s (hh g))) x0 ((w32 (x4 + 2)))).bind fun v2 =>
  (aget X 100 ((mk E c s (hh g))) x0 ((w32 (x4 + 3)))).bind fun v3 =>
  if (2 : Nat) = 2 ∧ rcv ((mk E c s (hh g))) 89 13 = true then
  ((Call prog clsT X d 216 [(2, 89), (0, v1), (0, v2), (0, v3)] ((mk E c s (hh g)))).bind fun r4 => if r4.1.1 = 4 then none else
  Ev prog clsT X d mc271 777 [(2, x0), (2, 0), (2, 89), (2, 158), (0, x4), (3, 0), (3, 0), (3, 0)] (pushR r4.1 [(0, s0)]) r4.2) else none)) X [0, 3, 7, 13, 24, 25, 51, 77, 80, 107, 134, 137, 190, 243, 246, 253, 260, 263, 265, 267, 270, 272, 274, 277, 311, 345, 348, 356, 364, 367, 383, 396, 409, 412, 428, 440, 452, 455, 462, 469, 472, 484, 496, 499, 511, 523, 526, 543, 560, 563, 575, 587, 590, 603, 616, 619, 635, 647, 659, 662, 674, 686, 689, 701, 713, 716, 728, 740, 743, 760, 777, 780, 796, 812, 815, 831, 847, 850, 857, 864, 867, 874, 881, 884, 901, 918, 921, 933, 945, 948, 964, 980, 983, 985, 987, 990, 997, 1004, 1007, 1019, 1031, 1034, 1042, 1050, 1053, 1069, 1092, 1115, 1118, 1133, 1150, 1167, 1170, 1182, 1194, 1197, 1213, 1229, 1232, 1239, 1246, 1249] 18 rfl).trans (by simp (maxSteps := 10000000) only [R89_13, bindI, Option.bind_some, if_true_, and_self, ite_true, true_and, true_or, or_true])
set_option maxRecDepth 100000 in
theorem r271_777 (d : Nat) (x0 x4 s0 s1 : Int) : Ev prog clsT X d mc271 777 [(2, x0), (2, 0), (2, 89), (2, 158), (0, x4), (3, 0), (3, 0), (3, 0)] [(0, s1), (0, s0)] (mk E c s (hh g)) =
  (if cmpI .eq s0 s1 = true then
  (Ev prog clsT X d mc271 1249 [(2, x0), (2, 0), (2, 89), (2, 158), (0, x4), (3, 0), (3, 0), (3, 0)] [] (mk E c s (hh g)))
else
  (some ((0, 0), ((mk E c s (hh g)))))) :=
  (evk_at (r := (if cmpI .eq s0 s1 = true then
  (Ev prog clsT X d mc271 1249 [(2, x0), (2, 0), (2, 89), (2, 158), (0, x4), (3, 0), (3, 0), (3, 0)] [] (mk E c s (hh g)))
else
  (some ((0, 0), (mk E c s (hh g)))))) X [0, 3, 7, 13, 24, 25, 51, 77, 80, 107, 134, 137, 190, 243, 246, 253, 260, 263, 265, 267, 270, 272, 274, 277, 311, 345, 348, 356, 364, 367, 383, 396, 409, 412, 428, 440, 452, 455, 462, 469, 472, 484, 496, 499, 511, 523, 526, 543, 560, 563, 575, 587, 590, 603, 616, 619, 635, 647, 659, 662, 674, 686, 689, 701, 713, 716, 728, 740, 743, 760, 777, 780, 796, 812, 815, 831, 847, 850, 857, 864, 867, 874, 881, 884, 901, 918, 921, 933, 945, 948, 964, 980, 983, 985, 987, 990, 997, 1004, 1007, 1019, 1031, 1034, 1042, 1050, 1053, 1069, 1092, 1115, 1118, 1133, 1150, 1167, 1170, 1182, 1194, 1197, 1213, 1229, 1232, 1239, 1246, 1249] 4 rfl).trans (by simp (maxSteps := 10000000) only [bindI, Option.bind_some, if_true_, and_self, ite_true, true_and, true_or, or_true])
set_option maxRecDepth 100000 in
theorem r271_780 (d : Nat) (x0 x4 : Int) : Ev prog clsT X d mc271 780 [(2, x0), (2, 0), (2, 89), (2, 158), (0, x4), (3, 0), (3, 0), (3, 0)] [] (mk E c s (hh g)) =
  ((aget X 100 ((mk E c s (hh g))) x0 ((w32 (x4 + 1)))).bind fun v1 =>
  (aget X 100 ((mk E c s (hh g))) x0 ((w32 (x4 + 2)))).bind fun v2 =>
  if cmpI .eq v2 0 = true then
  ((Call prog clsT X d 114 [(2, 0), (0, v1), (0, 0)] ((mk E c s (hh g)))).bind fun r3 => if r3.1.1 = 4 then none else
    Ev prog clsT X d mc271 796 [(2, x0), (2, 0), (2, 89), (2, 158), (0, x4), (3, 0), (3, 0), (3, 0)] (pushR r3.1 []) r3.2)
else
  ((Call prog clsT X d 114 [(2, 0), (0, v1), (0, 1)] ((mk E c s (hh g)))).bind fun r4 => if r4.1.1 = 4 then none else
    Ev prog clsT X d mc271 796 [(2, x0), (2, 0), (2, 89), (2, 158), (0, x4), (3, 0), (3, 0), (3, 0)] (pushR r4.1 []) r4.2)) :=
  (evk_at (r := ((aget X 100 ((mk E c s (hh g))) x0 ((w32 (x4 + 1)))).bind fun v1 =>
  (aget X 100 ((mk E c s (hh g))) x0 ((w32 (x4 + 2)))).bind fun v2 =>
  if cmpI .eq v2 0 = true then
  (if (2 : Nat) = 2 ∧ rcv ((mk E c s (hh g))) 0 12 = true then
    ((Call prog clsT X d 114 [(2, 0), (0, v1), (0, 0)] ((mk E c s (hh g)))).bind fun r3 => if r3.1.1 = 4 then none else
    Ev prog clsT X d mc271 796 [(2, x0), (2, 0), (2, 89), (2, 158), (0, x4), (3, 0), (3, 0), (3, 0)] (pushR r3.1 []) r3.2) else none)
else
  (if (2 : Nat) = 2 ∧ rcv ((mk E c s (hh g))) 0 12 = true then
    ((Call prog clsT X d 114 [(2, 0), (0, v1), (0, 1)] ((mk E c s (hh g)))).bind fun r4 => if r4.1.1 = 4 then none else
    Ev prog clsT X d mc271 796 [(2, x0), (2, 0), (2, 89), (2, 158), (0, x4), (3, 0), (3, 0), (3, 0)] (pushR r4.1 []) r4.2) else none))) X [0, 3, 7, 13, 24, 25, 51, 77, 80, 107, 134, 137, 190, 243, 246, 253, 260, 263, 265, 267, 270, 272, 274, 277, 311, 345, 348, 356, 364, 367, 383, 396, 409, 412, 428, 440, 452, 455, 462, 469, 472, 484, 496, 499, 511, 523, 526, 543, 560, 563, 575, 587, 590, 603, 616, 619, 635, 647, 659, 662, 674, 686, 689, 701, 713, 716, 728, 740, 743, 760, 777, 780, 796, 812, 815, 831, 847, 850, 857, 864, 867, 874, 881, 884, 901, 918, 921, 933, 945, 948, 964, 980, 983, 985, 987, 990, 997, 1004, 1007, 1019, 1031, 1034, 1042, 1050, 1053, 1069, 1092, 1115, 1118, 1133, 1150, 1167, 1170, 1182, 1194, 1197, 1213, 1229, 1232, 1239, 1246, 1249] 16 rfl).trans (by simp (maxSteps := 10000000) only [R0_12, bindI, Option.bind_some, if_true_, and_self, ite_true, true_and, true_or, or_true])
set_option maxRecDepth 100000 in
theorem r271_796 (d : Nat) (x0 x4 s0 : Int) : Ev prog clsT X d mc271 796 [(2, x0), (2, 0), (2, 89), (2, 158), (0, x4), (3, 0), (3, 0), (3, 0)] [(0, s0)] (mk E c s (hh g)) =
  ((aget X 100 ((mk E c s (hh g))) x0 ((w32 (x4 + 1)))).bind fun v1 =>
  (aget X 100 ((mk E c s (hh g))) x0 ((w32 (x4 + 2)))).bind fun v2 =>
  if cmpI .eq v2 0 = true then
  ((Call prog clsT X d 217 [(2, 89), (0, v1), (0, 0)] ((mk E c s (hh g)))).bind fun r3 => if r3.1.1 = 4 then none else
    Ev prog clsT X d mc271 812 [(2, x0), (2, 0), (2, 89), (2, 158), (0, x4), (3, 0), (3, 0), (3, 0)] (pushR r3.1 [(0, s0)]) r3.2)
else
  ((Call prog clsT X d 217 [(2, 89), (0, v1), (0, 1)] ((mk E c s (hh g)))).bind fun r4 => if r4.1.1 = 4 then none else
    Ev prog clsT X d mc271 812 [(2, x0), (2, 0), (2, 89), (2, 158), (0, x4), (3, 0), (3, 0), (3, 0)] (pushR r4.1 [(0, s0)]) r4.2)) :=
  (evk_at (r := ((aget X 100 ((mk E c s (hh g))) x0 ((w32 (x4 + 1)))).bind fun v1 =>
  (aget X 100 ((mk E c s (hh g))) x0 ((w32 (x4 + 2)))).bind fun v2 =>
  if cmpI .eq v2 0 = true then
  (if (2 : Nat) = 2 ∧ rcv ((mk E c s (hh g))) 89 13 = true then
    ((Call prog clsT X d 217 [(2, 89), (0, v1), (0, 0)] ((mk E c s (hh g)))).bind fun r3 => if r3.1.1 = 4 then none else
    Ev prog clsT X d mc271 812 [(2, x0), (2, 0), (2, 89), (2, 158), (0, x4), (3, 0), (3, 0), (3, 0)] (pushR r3.1 [(0, s0)]) r3.2) else none)
else
  (if (2 : Nat) = 2 ∧ rcv ((mk E c s (hh g))) 89 13 = true then
    ((Call prog clsT X d 217 [(2, 89), (0, v1), (0, 1)] ((mk E c s (hh g)))).bind fun r4 => if r4.1.1 = 4 then none else
    Ev prog clsT X d mc271 812 [(2, x0), (2, 0), (2, 89), (2, 158), (0, x4), (3, 0), (3, 0), (3, 0)] (pushR r4.1 [(0, s0)]) r4.2) else none))) X [0, 3, 7, 13, 24, 25, 51, 77, 80, 107, 134, 137, 190, 243, 246, 253, 260, 263, 265, 267, 270, 272, 274, 277, 311, 345, 348, 356, 364, 367, 383, 396, 409, 412, 428, 440, 452, 455, 462, 469, 472, 484, 496, 499, 511, 523, 526, 543, 560, 563, 575, 587, 590, 603, 616, 619, 635, 647, 659, 662, 674, 686, 689, 701, 713, 716, 728, 740, 743, 760, 777, 780, 796, 812, 815, 831, 847, 850, 857, 864, 867, 874, 881, 884, 901, 918, 921, 933, 945, 948, 964, 980, 983, 985, 987, 990, 997, 1004, 1007, 1019, 1031, 1034, 1042, 1050, 1053, 1069, 1092, 1115, 1118, 1133, 1150, 1167, 1170, 1182, 1194, 1197, 1213, 1229, 1232, 1239, 1246, 1249] 16 rfl).trans (by simp (maxSteps := 10000000) only [R89_13, bindI, Option.bind_some, if_true_, and_self, ite_true, true_and, true_or, or_true])
set_option maxRecDepth 100000 in
theorem r271_812 (d : Nat) (x0 x4 s0 s1 : Int) : Ev prog clsT X d mc271 812 [(2, x0), (2, 0), (2, 89), (2, 158), (0, x4), (3, 0), (3, 0), (3, 0)] [(0, s1), (0, s0)] (mk E c s (hh g)) =
  (if cmpI .eq s0 s1 = true then
  (Ev prog clsT X d mc271 1249 [(2, x0), (2, 0), (2, 89), (2, 158), (0, x4), (3, 0), (3, 0), (3, 0)] [] (mk E c s (hh g)))
else
  (some ((0, 0), ((mk E c s (hh g)))))) :=
  (evk_at (r := (if cmpI .eq s0 s1 = true then
  (Ev prog clsT X d mc271 1249 [(2, x0), (2, 0), (2, 89), (2, 158), (0, x4), (3, 0), (3, 0), (3, 0)] [] (mk E c s (hh g)))
else
  (some ((0, 0), (mk E c s (hh g)))))) X [0, 3, 7, 13, 24, 25, 51, 77, 80, 107, 134, 137, 190, 243, 246, 253, 260, 263, 265, 267, 270, 272, 274, 277, 311, 345, 348, 356, 364, 367, 383, 396, 409, 412, 428, 440, 452, 455, 462, 469, 472, 484, 496, 499, 511, 523, 526, 543, 560, 563, 575, 587, 590, 603, 616, 619, 635, 647, 659, 662, 674, 686, 689, 701, 713, 716, 728, 740, 743, 760, 777, 780, 796, 812, 815, 831, 847, 850, 857, 864, 867, 874, 881, 884, 901, 918, 921, 933, 945, 948, 964, 980, 983, 985, 987, 990, 997, 1004, 1007, 1019, 1031, 1034, 1042, 1050, 1053, 1069, 1092, 1115, 1118, 1133, 1150, 1167, 1170, 1182, 1194, 1197, 1213, 1229, 1232, 1239, 1246, 1249] 4 rfl).trans (by simp (maxSteps := 10000000) only [bindI, Option.bind_some, if_true_, and_self, ite_true, true_and, true_or, or_true])
set_option maxRecDepth 100000 in
theorem r271_815 (d : Nat) (x0 x4 : Int) : Ev prog clsT X d mc271 815 [(2, x0), (2, 0), (2, 89), (2, 158), (0, x4), (3, 0), (3, 0), (3, 0)] [] (mk E c s (hh g)) =
  ((aget X 100 ((mk E c s (hh g))) x0 ((w32 (x4 + 1)))).bind fun v1 =>
  if cmpI .eq v1 0 = true then
  ((aget X 100 ((mk E c s (hh g))) x0 ((w32 (x4 + 2)))).bind fun v2 =>
    (Call prog clsT X d 116 [(2, 0), (0, 0), (0, v2)] ((mk E c s (hh g)))).bind fun r3 => if r3.1.1 = 4 then none else
    Ev prog clsT X d mc271 831 [(2, x0), (2, 0), (2, 89), (2, 158), (0, x4), (3, 0), (3, 0), (3, 0)] (pushR r3.1 []) r3.2)
else
  ((aget X 100 ((mk E c s (hh g))) x0 ((w32 (x4 + 2)))).bind fun v4 =>
    (Call prog clsT X d 116 [(2, 0), (0, 1), (0, v4)] ((mk E c s (hh g)))).bind fun r5 => if r5.1.1 = 4 then none else
    Ev prog clsT X d mc271 831 [(2, x0), (2, 0), (2, 89), (2, 158), (0, x4), (3, 0), (3, 0), (3, 0)] (pushR r5.1 []) r5.2)) :=
  (evk_at (r := ((aget X 100 ((mk E c s (hh g))) x0 ((w32 (x4 + 1)))).bind fun v1 =>
  if cmpI .eq v1 0 = true then
  ((aget X 100 ((mk E c s (hh g))) x0 ((w32 (x4 + 2)))).bind fun v2 =>
    if (2 : Nat) = 2 ∧ rcv ((mk E c s (hh g))) 0 12 = true then
    ((Call prog clsT X d 116 [(2, 0), (0, 0), (0, v2)] ((mk E c s (hh g)))).bind fun r3 => if r3.1.1 = 4 then none else
    Ev prog clsT X d mc271 831 [(2, x0), (2, 0), (2, 89), (2, 158), (0, x4), (3, 0), (3, 0), (3, 0)] (pushR r3.1 []) r3.2) else none)
else
  ((aget X 100 ((mk E c s (hh g))) x0 ((w32 (x4 + 2)))).bind fun v4 =>
    if (2 : Nat) = 2 ∧ rcv ((mk E c s (hh g))) 0 12 = true then
    ((Call prog clsT X d 116 [(2, 0), (0, 1), (0, v4)] ((mk E c s (hh g)))).bind fun r5 => if r5.1.1 = 4 then none else
    Ev prog clsT X d mc271 831 [(2, x0), (2, 0), (2, 89), (2, 158), (0, x4), (3, 0), (3, 0), (3, 0)] (pushR r5.1 []) r5.2) else none))) X [0, 3, 7, 13, 24, 25, 51, 77, 80, 107, 134, 137, 190, 243, 246, 253, 260, 263, 265, 267, 270, 272, 274, 277, 311, 345, 348, 356, 364, 367, 383, 396, 409, 412, 428, 440, 452, 455, 462, 469, 472, 484, 496, 499, 511, 523, 526, 543, 560, 563, 575, 587, 590, 603, 616, 619, 635, 647, 659, 662, 674, 686, 689, 701, 713, 716, 728, 740, 743, 760, 777, 780, 796, 812, 815, 831, 847, 850, 857, 864, 867, 874, 881, 884, 901, 918, 921, 933, 945, 948, 964, 980, 983, 985, 987, 990, 997, 1004, 1007, 1019, 1031, 1034, 1042, 1050, 1053, 1069, 1092, 1115, 1118, 1133, 1150, 1167, 1170, 1182, 1194, 1197, 1213, 1229, 1232, 1239, 1246, 1249] 16 rfl).trans (by simp (maxSteps := 10000000) only [R0_12, bindI, Option.bind_some, if_true_, and_self, ite_true, true_and, true_or, or_true])
set_option maxRecDepth 100000 in
theorem r271_831 (d : Nat) (x0 x4 s0 : Int) : Ev prog clsT X d mc271 831 [(2, x0), (2, 0), (2, 89), (2, 158), (0, x4), (3, 0), (3, 0), (3, 0)] [(0, s0)] (mk E c s (hh g)) =
  ((aget X 100 ((mk E c s (hh g))) x0 ((w32 (x4 + 1)))).bind fun v1 =>
  if cmpI .eq v1 0 = true then
  ((aget X 100 ((mk E c s (hh g))) x0 ((w32 (x4 + 2)))).bind fun v2 =>
    (Call prog clsT X d 219 [(2, 89), (0, 0), (0, v2)] ((mk E c s (hh g)))).bind fun r3 => if r3.1.1 = 4 then none else
    Ev prog clsT X d mc271 847 [(2, x0), (2, 0), (2, 89), (2, 158), (0, x4), (3, 0), (3, 0), (3, 0)] (pushR r3.1 [(0, s0)]) r3.2)
else
  ((aget X 100 ((mk E c s (hh g))) x0 ((w32 (x4 + 2)))).bind fun v4 =>
    (Call prog clsT X d 219 [(2, 89), (0, 1), (0, v4)] ((mk E c s (hh g)))).bind fun r5 => if r5.1.1 = 4 then none else
    Ev prog clsT X d mc271 847 [(2, x0), (2, 0), (2, 89), (2, 158), (0, x4), (3, 0), (3, 0), (3, 0)] (pushR r5.1 [(0, s0)]) r5.2)) :=
  (evk_at (r := ((aget X 100 ((mk E c s (hh g))) x0 ((w32 (x4 + 1)))).bind fun v1 =>
  if cmpI .eq v1 0 = true then
  ((aget X 100 ((mk E c s (hh g))) x0 ((w32 (x4 + 2)))).bind fun v2 =>
    if (2 : Nat) = 2 ∧ rcv ((mk E c s (hh g))) 89 13 = true then
    ((Call prog clsT X d 219 [(2, 89), (0, 0), (0, v2)] ((mk E c s (hh g)))).bind fun r3 => if r3.1.1 = 4 then none else
    Ev prog clsT X d mc271 847 [(2, x0), (2, 0), (2, 89), (2, 158), (0, x4), (3, 0), (3, 0), (3, 0)] (pushR r3.1 [(0, s0)]) r3.2) else none)
else
  ((aget X 100 ((mk E c s (hh g))) x0 ((w32 (x4 + 2)))).bind fun v4 =>
    if (2 : Nat) = 2 ∧ rcv ((mk E c s (hh g))) 89 13 = true then
    ((Call prog clsT X d 219 [(2, 89), (0, 1), (0, v4)] ((mk E c s (hh g)))).bind fun r5 => if r5.1.1 = 4 then none else
    Ev prog clsT X d mc271 847 [(2, x0), (2, 0), (2, 89), (2, 158), (0, x4), (3, 0), (3, 0), (3, 0)] (pushR r5.1 [(0, s0)]) r5.2) else none))) X [0, 3, 7, 13, 24, 25, 51, 77, 80, 107, 134, 137, 190, 243, 246, 253, 260, 263, 265, 267, 270, 272, 274, 277, 311, 345, 348, 356, 364, 367, 383, 396, 409, 412, 428, 440, 452, 455, 462, 469, 472, 484, 496, 499, 511, 523, 526, 543, 560, 563, 575, 587, 590, 603, 616, 619, 635, 647, 659, 662, 674, 686, 689, 701, 713, 716, 728, 740, 743, 760, 777, 780, 796, 812, 815, 831, 847, 850, 857, 864, 867, 874, 881, 884, 901, 918, 921, 933, 945, 948, 964, 980, 983, 985, 987, 990, 997, 1004, 1007, 1019, 1031, 1034, 1042, 1050, 1053, 1069, 1092, 1115, 1118, 1133, 1150, 1167, 1170, 1182, 1194, 1197, 1213, 1229, 1232, 1239, 1246, 1249] 16 rfl).trans (by simp (maxSteps := 10000000) only [R89_13, bindI, Option.bind_some, if_true_, and_self, ite_true, true_and, true_or, or_true])
set_option maxRecDepth 100000 in
theorem r271_847 (d : Nat) (x0 x4 s0 s1 : Int) : Ev prog clsT X d mc271 847 [(2, x0), (2, 0), (2, 89), (2, 158), (0, x4), (3, 0), (3, 0), (3, 0)] [(0, s1), (0, s0)] (mk E c s (hh g)) =
  (if cmpI .eq s0 s1 = true then
  (Ev prog clsT X d mc271 1249 [(2, x0), (2, 0), (2, 89), (2, 158), (0, x4), (3, 0), (3, 0), (3, 0)] [] (mk E c s (hh g)))
else
  (some ((0, 0), ((mk E c s (hh g)))))) :=
  (evk_at (r := (if cmpI .eq s0 s1 = true then
  (Ev prog clsT X d mc271 1249 [(2, x0), (2, 0), (2, 89), (2, 158), (0, x4), (3, 0), (3, 0), (3, 0)] [] (mk E c s (hh g)))
else
  (some ((0, 0), (mk E c s (hh g)))))) X [0, 3, 7, 13, 24, 25, 51, 77, 80, 107, 134, 137, 190, 243, 246, 253, 260, 263, 265, 267, 270, 272, 274, 277, 311, 345, 348, 356, 364, 367, 383, 396, 409, 412, 428, 440, 452, 455, 462, 469, 472, 484, 496, 499, 511, 523, 526, 543, 560, 563, 575, 587, 590, 603, 616, 619, 635, 647, 659, 662, 674, 686, 689, 701, 713, 716, 728, 740, 743, 760, 777, 780, 796, 812, 815, 831, 847, 850, 857, 864, 867, 874, 881, 884, 901, 918, 921, 933, 945, 948, 964, 980, 983, 985, 987, 990, 997, 1004, 1007, 1019, 1031, 1034, 1042, 1050, 1053, 1069, 1092, 1115, 1118, 1133, 1150, 1167, 1170, 1182, 1194, 1197, 1213, 1229, 1232, 1239, 1246, 1249] 4 rfl).trans (by simp (maxSteps := 10000000) only [bindI, Option.bind_some, if_true_, and_self, ite_true, true_and, true_or, or_true])
set_option maxRecDepth 100000 in
theorem r271_850 (d : Nat) (x0 x4 : Int) : Ev prog clsT X d mc271 850 [(2, x0), (2, 0), (2, 89), (2, 158), (0, x4), (3, 0), (3, 0), (3, 0)] [] (mk E c s (hh g)) =
  ((aget X 100 ((mk E c s (hh g))) x0 ((w32 (x4 + 1)))).bind fun v1 =>
  (Call prog clsT X d 117 [(2, 0), (0, v1)] ((mk E c s (hh g)))).bind fun r2 => if r2.1.1 = 4 then none else
  Ev prog clsT X d mc271 857 [(2, x0), (2, 0), (2, 89), (2, 158), (0, x4), (3, 0), (3, 0), (3, 0)] (pushR r2.1 []) r2.2) :=
  (evk_at (r := ((aget X 100 ((mk E c s (hh g))) x0 ((w32 (x4 + 1)))).bind fun v1 =>
  if (2 : Nat) = 2 ∧ rcv ((mk E c s (hh g))) 0 12 = true then
  ((Call prog clsT X d 117 [(2, 0), (0, v1)] ((mk E c s (hh g)))).bind fun r2 => if r2.1.1 = 4 then none else
  Ev prog clsT X d mc271 857 [(2, x0), (2, 0), (2, 89), (2, 158), (0, x4), (3, 0), (3, 0), (3, 0)] (pushR r2.1 []) r2.2) else none)) X [0, 3, 7, 13, 24, 25, 51, 77, 80, 107, 134, 137, 190, 243, 246, 253, 260, 263, 265, 267, 270, 272, 274, 277, 311, 345, 348, 356, 364, 367, 383, 396, 409, 412, 428, 440, 452, 455, 462, 469, 472, 484, 496, 499, 511, 523, 526, 543, 560, 563, 575, 587, 590, 603, 616, 619, 635, 647, 659, 662, 674, 686, 689, 701, 713, 716, 728, 740, 743, 760, 777, 780, 796, 812, 815, 831, 847, 850, 857, 864, 867, 874, 881, 884, 901, 918, 921, 933, 945, 948, 964, 980, 983, 985, 987, 990, 997, 1004, 1007, 1019, 1031, 1034, 1042, 1050, 1053, 1069, 1092, 1115, 1118, 1133, 1150, 1167, 1170, 1182, 1194, 1197, 1213, 1229, 1232, 1239, 1246, 1249] 8 rfl).trans (by simp (maxSteps := 10000000) only [R0_12, bindI, Option.bind_some, if_true_, and_self, ite_true, true_and, true_or, or_true])
set_option maxRecDepth 100000 in
theorem r271_857 (d : Nat) (x0 x4 s0 : Int) : Ev prog clsT X d mc271 857 [(2, x0), (2, 0), (2, 89), (2, 158), (0, x4), (3, 0), (3, 0), (3, 0)] [(0, s0)] (mk E c s (hh g)) =
  ((aget X 100 ((mk E c s (hh g))) x0 ((w32 (x4 + 1)))).bind fun v1 =>
  (Call prog clsT X d 221 [(2, 89), (0, v1)] ((mk E c s (hh g)))).bind fun r2 => if r2.1.1 = 4 then none else
  Ev prog clsT X d mc271 864 [(2, x0), (2, 0), (2, 89), (2, 158), (0, x4), (3, 0), (3, 0), (3, 0)] (pushR r2.1 [(0, s0)]) r2.2) :=
  (evk_at (r := ((aget X 100 ((mk E c s (hh g))) x0 ((w32 (x4 + 1)))).bind fun v1 =>
  if (2 : Nat) = 2 ∧ rcv ((mk E c s (hh g))) 89 13 = true then
  ((Call prog clsT X d 221 [(2, 89), (0, v1)] ((mk E c s (hh g)))).bind fun r2 => if r2.1.1 = 4 then none else
  Ev prog clsT X d mc271 864 [(2, x0), (2, 0), (2, 89), (2, 158), (0, x4), (3, 0), (3, 0), (3, 0)] (pushR r2.1 [(0, s0)]) r2.2) else none)) X [0, 3, 7, 13, 24, 25, 51, 77, 80, 107, 134, 137, 190, 243, 246, 253, 260, 263, 265, 267, 270, 272, 274, 277, 311, 345, 348, 356, 364, 367, 383, 396, 409, 412, 428, 440, 452, 455, 462, 469, 472, 484, 496, 499, 511, 523, 526, 543, 560, 563, 575, 587, 590, 603, 616, 619, 635, 647, 659, 662, 674, 686, 689, 701, 713, 716, 728, 740, 743, 760, 777, 780, 796, 812, 815, 831, 847, 850, 857, 864, 867, 874, 881, 884, 901, 918, 921, 933, 945, 948, 964, 980, 983, 985, 987, 990, 997, 1004, 1007, 1019, 1031, 1034, 1042, 1050, 1053, 1069, 1092, 1115, 1118, 1133, 1150, 1167, 1170, 1182, 1194, 1197, 1213, 1229, 1232, 1239, 1246, 1249] 8 rfl).trans (by simp (maxSteps := 10000000) only [R89_13, bindI, Option.bind_some, if_true_, and_self, ite_true, true_and, true_or, or_true])
set_option maxRecDepth 100000 in
theorem r271_864 (d : Nat) (x0 x4 s0 s1 : Int) : Ev prog clsT X d mc271 864 [(2, x0), (2, 0), (2, 89), (2, 158), (0, x4), (3, 0), (3, 0), (3, 0)] [(0, s1), (0, s0)] (mk E c s (hh g)) =
  (if cmpI .eq s0 s1 = true then
  (Ev prog clsT X d mc271 1249 [(2, x0), (2, 0), (2, 89), (2, 158), (0, x4), (3, 0), (3, 0), (3, 0)] [] (mk E c s (hh g)))
else
  (some ((0, 0), ((mk E c s (hh g)))))) :=
  (evk_at (r := (if cmpI .eq s0 s1 = true then
  (Ev prog clsT X d mc271 1249 [(2, x0), (2, 0), (2, 89), (2, 158), (0, x4), (3, 0), (3, 0), (3, 0)] [] (mk E c s (hh g)))
else
  (some ((0, 0), (mk E c s (hh g)))))) X [0, 3, 7, 13, 24, 25, 51, 77, 80, 107, 134, 137, 190, 243, 246, 253, 260, 263, 265, 267, 270, 272, 274, 277, 311, 345, 348, 356, 364, 367, 383, 396, 409, 412, 428, 440, 452, 455, 462, 469, 472, 484, 496, 499, 511, 523, 526, 543, 560, 563, 575, 587, 590, 603, 616, 619, 635, 647, 659, 662, 674, 686, 689, 701, 713, 716, 728, 740, 743, 760, 777, 780, 796, 812, 815, 831, 847, 850, 857, 864, 867, 874, 881, 884, 901, 918, 921, 933, 945, 948, 964, 980, 983, 985, 987, 990, 997, 1004, 1007, 1019, 1031, 1034, 1042, 1050, 1053, 1069, 1092, 1115, 1118, 1133, 1150, 1167, 1170, 1182, 1194, 1197, 1213, 1229, 1232, 1239, 1246, 1249] 4 rfl).trans (by simp (maxSteps := 10000000) only [bindI, Option.bind_some, if_true_, and_self, ite_true, true_and, true_or, or_true])
set_option maxRecDepth 100000 in
theorem r271_867 (d : Nat) (x0 x4 : Int) : Ev prog clsT X d mc271 867 [(2, x0), (2, 0), (2, 89), (2, 158), (0, x4), (3, 0), (3, 0), (3, 0)] [] (mk E c s (hh g)) =
  ((aget X 100 ((mk E c s (hh g))) x0 ((w32 (x4 + 1)))).bind fun v1 =>
  (Call prog clsT X d 118 [(2, 0), (0, v1)] ((mk E c s (hh g)))).bind fun r2 => if r2.1.1 = 4 then none else
  Ev prog clsT X d mc271 874 [(2, x0), (2, 0), (2, 89), (2, 158), (0, x4), (3, 0), (3, 0), (3, 0)] (pushR r2.1 []) r2.2) :=
  (evk_at (r := ((aget X 100 ((mk E c s (hh g))) x0 ((w32 (x4 + 1)))).bind fun v1 =>
  if (2 : Nat) = 2 ∧ rcv ((mk E c s (hh g))) 0 12 = true then
  ((Call prog clsT X d 118 [(2, 0), (0, v1)] ((mk E c s (hh g)))).bind fun r2 => if r2.1.1 = 4 then none else
  Ev prog clsT X d mc271 874 [(2, x0), (2, 0), (2, 89), (2, 158), (0, x4), (3, 0), (3, 0), (3, 0)] (pushR r2.1 []) r2.2) else none)) X [0, 3, 7, 13, 24, 25, 51, 77, 80, 107, 134, 137, 190, 243, 246, 253, 260, 263, 265, 267, 270, 272, 274, 277, 311, 345, 348, 356, 364, 367, 383, 396, 409, 412, 428, 440, 452, 455, 462, 469, 472, 484, 496, 499, 511, 523, 526, 543, 560, 563, 575, 587, 590, 603, 616, 619, 635, 647, 659, 662, 674, 686, 689, 701, 713, 716, 728, 740, 743, 760, 777, 780, 796, 812, 815, 831, 847, 850, 857, 864, 867, 874, 881, 884, 901, 918, 921, 933, 945, 948, 964, 980, 983, 985, 987, 990, 997, 1004, 1007, 1019, 1031, 1034, 1042, 1050, 1053, 1069, 1092, 1115, 1118, 1133, 1150, 1167, 1170, 1182, 1194, 1197, 1213, 1229, 1232, 1239, 1246, 1249] 8 rfl).trans (by simp (maxSteps := 10000000) only [R0_12, bindI, Option.bind_some, if_true_, and_self, ite_true, true_and, true_or, or_true])
set_option maxRecDepth 100000 in
theorem r271_874 (d : Nat) (x0 x4 s0 : Int) : Ev prog clsT X d mc271 874 [(2, x0), (2, 0), (2, 89), (2, 158), (0, x4), (3, 0), (3, 0), (3, 0)] [(0, s0)] (mk E c s (hh g)) =
  ((aget X 100 ((mk E c s (hh g))) x0 ((w32 (x4 + 1)))).bind fun v1 =>
  (Call prog clsT X d 222 [(2, 89), (0, v1)] ((mk E c s (hh g)))).bind fun r2 => if r2.1.1 = 4 then none else
  Ev prog clsT X d mc271 881 [(2, x0), (2, 0), (2, 89), (2, 158), (0, x4), (3, 0), (3, 0), (3, 0)] (pushR r2.1 [(0, s0)]) r2.2) :=
  (evk_at (r := ((aget X 100 ((mk E c s (hh g))) x0 ((w32 (x4 + 1)))).bind fun v1 =>
  if (2 : Nat) = 2 ∧ rcv ((mk E c s (hh g))) 89 13 = true then
  ((Call prog clsT X d 222 [(2, 89), (0, v1)] ((mk E c s (hh g)))).bind fun r2 => if r2.1.1 = 4 then none else
  Ev prog clsT X d mc271 881 [(2, x0), (2, 0), (2, 89), (2, 158), (0, x4), (3, 0), (3, 0), (3, 0)] (pushR r2.1 [(0, s0)]) r2.2) else none)) X [0, 3, 7, 13, 24, 25, 51, 77, 80, 107, 134, 137, 190, 243, 246, 253, 260, 263, 265, 267, 270, 272, 274, 277, 311, 345, 348, 356, 364, 367, 383, 396, 409, 412, 428, 440, 452, 455, 462, 469, 472, 484, 496, 499, 511, 523, 526, 543, 560, 563, 575, 587, 590, 603, 616, 619, 635, 647, 659, 662, 674, 686, 689, 701, 713, 716, 728, 740, 743, 760, 777, 780, 796, 812, 815, 831, 847, 850, 857, 864, 867, 874, 881, 884, 901, 918, 921, 933, 945, 948, 964, 980, 983, 985, 987, 990, 997, 1004, 1007, 1019, 1031, 1034, 1042, 1050, 1053, 1069, 1092, 1115, 1118, 1133, 1150, 1167, 1170, 1182, 1194, 1197, 1213, 1229, 1232, 1239, 1246, 1249] 8 rfl).trans (by simp (maxSteps := 10000000) only [R89_13, bindI, Option.bind_some, if_true_, and_self, ite_true, true_and, true_or, or_true])
set_option maxRecDepth 100000 in
theorem r271_881 (d : Nat) (x0 x4 s0 s1 : Int) : Ev prog clsT X d mc271 881 [(2, x0), (2, 0), (2, 89), (2, 158), (0, x4), (3, 0), (3, 0), (3, 0)] [(0, s1), (0, s0)] (mk E c s (hh g)) =
  (if cmpI .eq s0 s1 = true then
  (Ev prog clsT X d mc271 1249 [(2, x0), (2, 0), (2, 89), (2, 158), (0, x4), (3, 0), (3, 0), (3, 0)] [] (mk E c s (hh g)))
else
  (some ((0, 0), ((mk E c s (hh g)))))) :=
  (evk_at (r := (if cmpI .eq s0 s1 = true then
  (Ev prog clsT X d mc271 1249 [(2, x0), (2, 0), (2, 89), (2, 158), (0, x4), (3, 0), (3, 0), (3, 0)] [] (mk E c s (hh g)))
else
  (some ((0, 0), (mk E c s (hh g)))))) X [0, 3, 7, 13, 24, 25, 51, 77, 80, 107, 134, 137, 190, 243, 246, 253, 260, 263, 265, 267, 270, 272, 274, 277, 311, 345, 348, 356, 364, 367, 383, 396, 409, 412, 428, 440, 452, 455, 462, 469, 472, 484, 496, 499, 511, 523, 526, 543, 560, 563, 575, 587, 590, 603, 616, 619, 635, 647, 659, 662, 674, 686, 689, 701, 713, 716, 728, 740, 743, 760, 777, 780, 796, 812, 815, 831, 847, 850, 857, 864, 867, 874, 881, 884, 901, 918, 921, 933, 945, 948, 964, 980, 983, 985, 987, 990, 997, 1004, 1007, 1019, 1031, 1034, 1042, 1050, 1053, 1069, 1092, 1115, 1118, 1133, 1150, 1167, 1170, 1182, 1194, 1197, 1213, 1229, 1232, 1239, 1246, 1249] 4 rfl).trans (by simp (maxSteps := 10000000) only [bindI, Option.bind_some, if_true_, and_self, ite_true, true_and, true_or, or_true])
set_option maxRecDepth 100000 in
theorem r271_884 (d : Nat) (x0 x4 : Int) : Ev prog clsT X d mc271 884 [(2, x0), (2, 0), (2, 89), (2, 158), (0, x4), (3, 0), (3, 0), (3, 0)] [] (mk E c s (hh g)) =
  ((aget X 100 ((mk E c s (hh g))) x0 ((w32 (x4 + 1)))).bind fun v1 =>
  (aget X 100 ((mk E c s (hh g))) x0 ((w32 (x4 + 2)))).bind fun v2 =>
  (aget X 100 ((mk E c s (hh g))) x0 ((w32 (x4 + 3)))).bind fun v3 =>
  (Call prog clsT X d 120 [(2, 0), (0, v1), (0, v2), (0, v3)] ((mk E c s (hh g)))).bind fun r4 => if r4.1.1 = 4 then none else
  Ev prog clsT X d mc271 901 [(2, x0), (2, 0), (2, 89), (2, 158), (0, x4), (3, 0), (3, 0), (3, 0)] (pushR r4.1 []) r4.2) :=
  (evk_at (r := ((aget X 100 ((mk E c s (hh g))) x0 ((w32 (x4 + 1)))).bind fun v1 =>
  (aget X 100 ((mk E c s (hh g))) x0 ((w32 (x4 + 2)))).bind fun v2 =>
  (aget X 100 ((mk E c s (hh g))) x0 ((w32 (x4 + 3)))).bind fun v3 =>
  if (2 : Nat) = 2 ∧ rcv ((mk E c s (hh g))) 0 12 = true then
  ((Call prog clsT X d 120 [(2, 0), (0, v1), (0, v2), (0, v3)] ((mk E c s (hh g)))).bind fun r4 => if r4.1.1 = 4 then none else
  Ev prog clsT X d mc271 901 [(2, x0), (2, 0), (2, 89), (2, 158), (0, x4), (3, 0), (3, 0), (3, 0)] (pushR r4.1 []) r4.2) else none)) X [0, 3, 7, 13, 24, 25, 51, 77, 80, 107, 134, 137, 190, 243, 246, 253, 260, 263, 265, 267, 270, 272, 274, 277, 311, 345, 348, 356, 364, 367, 383, 396, 409, 412, 428, 440, 452, 455, 462, 469, 472, 484, 496, 499, 511, 523, 526, 543, 560, 563, 575, 587, 590, 603, 616, 619, 635, 647, 659, 662, 674, 686, 689, 701, 713, 716, 728, 740, 743, 760, 777, 780, 796, 812, 815, 831, 847, 850, 857, 864, 867, 874, 881, 884, 901, 918, 921, 933, 945, 948, 964, 980, 983, 985, 987, 990, 997, 1004, 1007, 1019, 1031, 1034, 1042, 1050, 1053, 1069, 1092, 1115, 1118, 1133, 1150, 1167, 1170, 1182, 1194, 1197, 1213, 1229, 1232, 1239, 1246, 1249] 18 rfl).trans (by simp (maxSteps := 10000000) only [R0_12, bindI, Option.bind_some, if_true_, and_self, ite_true, true_and, true_or, or_true])
set_option maxRecDepth 100000 in
theorem r271_901 (d : Nat) (x0 x4 s0 : Int) : Ev prog clsT X d mc271 901 [(2, x0), (2, 0), (2, 89), (2, 158), (0, x4), (3, 0), (3, 0), (3, 0)] [(0, s0)] (mk E c s (hh g)) =
  ((aget X 100 ((mk E c s (hh g))) x0 ((w32 (x4 + 1)))).bind fun v1 =>
  (aget X 100 ((mk E c s (hh g))) x0 ((w32 (x4 + 2)))).bind fun v2 =>
  (aget X 100 ((mk E c s (hh g))) x0 ((w32 (x4 + 3)))).bind fun v3 =>
  (Call prog clsT X d 225 [(2, 89), (0, v1), (0, v2), (0, v3)] ((mk E c s (hh g)))).bind fun r4 => if r4.1.1 = 4 then none else
  Ev prog clsT X d mc271 918 [(2, x0), (2, 0), (2, 89), (2, 158), (0, x4), (3, 0), (3, 0), (3, 0)] (pushR r4.1 [(0, s0)]) r4.2) :=
  (evk_at (r := ((aget X 100 ((mk E c s (hh g))) x0 ((w32 (x4 + 1)))).bind fun v1 =>
  (aget X 100 ((mk E c s (hh g))) x0 ((w32 (x4 + 2)))).bind fun v2 =>
  (aget X 100 ((mk E c s (hh g))) x0 ((w32 (x4 + 3)))).bind fun v3 =>
  if (2 : Nat) = 2 ∧ rcv ((mk E c s (hh g))) 89 13 = true then
  ((Call prog clsT X d 225 [(2, 89), (0, v1), (0, v2), (0, v3)] ((mk E c s (hh g)))).bind fun r4 => if r4.1.1 = 4 then none else
  Ev prog clsT X d mc271 918 [(2, x0), (2, 0), (2, 89), (2, 158), (0, x4), (3, 0), (3, 0), (3, 0)] (pushR r4.1 [(0, s0)]) r4.2) else none)) X [0, 3, 7, 13, 24, 25, 51, 77, 80, 107, 134, 137, 190, 243, 246, 253, 260, 263, 265, 267, 270, 272, 274, 277, 311, 345, 348, 356, 364, 367, 383, 396, 409, 412, 428, 440, 452, 455, 462, 469, 472, 484, 496, 499, 511, 523, 526, 543, 560, 563, 575, 587, 590, 603, 616, 619, 635, 647, 659, 662, 674, 686, 689, 701, 713, 716, 728, 740, 743, 760, 777, 780, 796, 812, 815, 831, 847, 850, 857, 864, 867, 874, 881, 884, 901, 918, 921, 933, 945, 948, 964, 980, 983, 985, 987, 990, 997, 1004, 1007, 1019, 1031, 1034, 1042, 1050, 1053, 1069, 1092, 1115, 1118, 1133, 1150, 1167, 1170, 1182, 1194, 1197, 1213, 1229, 1232, 1239, 1246, 1249] 18 rfl).trans (by simp (maxSteps := 10000000) only [R89_13, bindI, Option.bind_some, if_true_, and_self, ite_true, true_and, true_or, or_true])
set_option maxRecDepth 100000 in
theorem r271_918 (d : Nat) (x0 x4 s0 s1 : Int) : Ev prog clsT X d mc271 918 [(2, x0), (2, 0), (2, 89), (2, 158), (0, x4), (3, 0), (3, 0), (3, 0)] [(0, s1), (0, s0)] (mk E c s (hh g)) =
  (if cmpI .eq s0 s1 = true then
  (Ev prog clsT X d mc271 1249 [(2, x0), (2, 0), (2, 89), (2, 158), (0, x4), (3, 0), (3, 0), (3, 0)] [] (mk E c s (hh g)))
else
  (some ((0, 0), ((mk E c s (hh g)))))) :=
  (evk_at (r := (if cmpI .eq s0 s1 = true then
  (Ev prog clsT X d mc271 1249 [(2, x0), (2, 0), (2, 89), (2, 158), (0, x4), (3, 0), (3, 0), (3, 0)] [] (mk E c s (hh g)))
else
  (some ((0, 0), (mk E c s (hh g)))))) X [0, 3, 7, 13, 24, 25, 51, 77, 80, 107, 134, 137, 190, 243, 246, 253, 260, 263, 265, 267, 270, 272, 274, 277, 311, 345, 348, 356, 364, 367, 383, 396, 409, 412, 428, 440, 452, 455, 462, 469, 472, 484, 496, 499, 511, 523, 526, 543, 560, 563, 575, 587, 590, 603, 616, 619, 635, 647, 659, 662, 674, 686, 689, 701, 713, 716, 728, 740, 743, 760, 777, 780, 796, 812, 815, 831, 847, 850, 857, 864, 867, 874, 881, 884, 901, 918, 921, 933, 945, 948, 964, 980, 983, 985, 987, 990, 997, 1004, 1007, 1019, 1031, 1034, 1042, 1050, 1053, 1069, 1092, 1115, 1118, 1133, 1150, 1167, 1170, 1182, 1194, 1197, 1213, 1229, 1232, 1239, 1246, 1249] 4 rfl).trans (by simp (maxSteps := 10000000) only [bindI, Option.bind_some, if_true_, and_self, ite_true, true_and, true_or, or_true])
set_option maxRecDepth 100000 in
theorem r271_921 (d : Nat) (x0 x4 : Int) : Ev prog clsT X d mc271 921 [(2, x0), (2, 0), (2, 89), (2, 158), (0, x4), (3, 0), (3, 0), (3, 0)] [] (mk E c s (hh g)) =
  ((aget X 100 ((mk E c s (hh g))) x0 ((w32 (x4 + 1)))).bind fun v1 =>
  (aget X 100 ((mk E c s (hh g))) x0 ((w32 (x4 + 2)))).bind fun v2 =>
  (Call prog clsT X d 121 [(2, 0), (0, v1), (0, v2)] ((mk E c s (hh g)))).bind fun r3 => if r3.1.1 = 4 then none else
  Ev prog clsT X d mc271 933 [(2, x0), (2, 0), (2, 89), (2, 158), (0, x4), (3, 0), (3, 0), (3, 0)] (pushR r3.1 []) r3.2) :=
  (evk_at (r := ((aget X 100 ((mk E c s (hh g))) x0 ((w32 (x4 + 1)))).bind fun v1 =>
  (aget X 100 ((mk E c s (hh g))) x0 ((w32 (x4 + 2)))).bind fun v2 =>
  if (2 : Nat) = 2 ∧ rcv ((mk E c s (hh g))) 0 12 = true then
  ((Call prog clsT X d 121 [(2, 0), (0, v1), (0, v2)] ((mk E c s (hh g)))).bind fun r3 => if r3.1.1 = 4 then none else
  Ev prog clsT X d mc271 933 [(2, x0), (2, 0), (2, 89), (2, 158), (0, x4), (3, 0), (3, 0), (3, 0)] (pushR r3.1 []) r3.2) else none)) X [0, 3, 7, 13, 24, 25, 51, 77, 80, 107, 134, 137, 190, 243, 246, 253, 260, 263, 265, 267, 270, 272, 274, 277, 311, 345, 348, 356, 364, 367, 383, 396, 409, 412, 428, 440, 452, 455, 462, 469, 472, 484, 496, 499, 511, 523, 526, 543, 560, 563, 575, 587, 590, 603, 616, 619, 635, 647, 659, 662, 674, 686, 689, 701, 713, 716, 728, 740, 743, 760, 777, 780, 796, 812, 815, 831, 847, 850, 857, 864, 867, 874, 881, 884, 901, 918, 921, 933, 945, 948, 964, 980, 983, 985, 987, 990, 997, 1004, 1007, 1019, 1031, 1034, 1042, 1050, 1053, 1069, 1092, 1115, 1118, 1133, 1150, 1167, 1170, 1182, 1194, 1197, 1213, 1229, 1232, 1239, 1246, 1249] 13 rfl).trans (by simp (maxSteps := 10000000) only [R0_12, bindI, Option.bind_some, if_true_, and_self, ite_true, true_and, true_or, or_true])
set_option maxRecDepth 100000 in
theorem r271_933 (d : Nat) (x0 x4 s0 : Int) : Ev prog clsT X d mc271 933 [(2, x0), (2, 0), (2, 89), (2, 158), (0, x4), (3, 0), (3, 0), (3, 0)] [(0, s0)] (mk E c s (hh g)) =
  ((aget X 100 ((mk E c s (hh g))) x0 ((w32 (x4 + 1)))).bind fun v1 =>
  (aget X 100 ((mk E c s (hh g))) x0 ((w32 (x4 + 2)))).bind fun v2 =>
  (Call prog clsT X d 226 [(2, 89), (0, v1), (0, v2)] ((mk E c s (hh g)))).bind fun r3 => if r3.1.1 = 4 then none else
  Ev prog clsT X d mc271 945 [(2, x0), (2, 0), (2, 89), (2, 158), (0, x4), (3, 0), (3, 0), (3, 0)] (pushR r3.1 [(0, s0)]) r3.2) :=
  (evk_at (r := ((aget X 100 ((mk E c s (hh g))) x0 ((w32 (x4 + 1)))).bind fun v1 =>
  (aget X 100 ((mk E c s (hh g))) x0 ((w32 (x4 + 2)))).bind fun v2 =>
  if (2 : Nat) = 2 ∧ rcv ((mk E c s (hh g))) 89 13 = true then
  ((Call prog clsT X d 226 [(2, 89), (0, v1), (0, v2)] ((mk E c s (hh g)))).bind fun r3 => if r3.1.1 = 4 then none else
  Ev prog clsT X d mc271 945 [(2, x0), (2, 0), (2, 89), (2, 158), (0, x4), (3, 0), (3, 0), (3, 0)] (pushR r3.1 [(0, s0)]) r3.2) else none)) X [0, 3, 7, 13, 24, 25, 51, 77, 80, 107, 134, 137, 190, 243, 246, 253, 260, 263, 265, 267, 270, 272, 274, 277, 311, 345, 348, 356, 364, 367, 383, 396, 409, 412, 428, 440, 452, 455, 462, 469, 472, 484, 496, 499, 511, 523, 526, 543, 560, 563, 575, 587, 590, 603, 616, 619, 635, 647, 659, 662, 674, 686, 689, 701, 713, 716, 728, 740, 743, 760, 777, 780, 796, 812, 815, 831, 847, 850, 857, 864, 867, 874, 881, 884, 901, 918, 921, 933, 945, 948, 964, 980, 983, 985, 987, 990, 997, 1004, 1007, 1019, 1031, 1034, 1042, 1050, 1053, 1069, 1092, 1115, 1118, 1133, 1150, 1167, 1170, 1182, 1194, 1197, 1213, 1229, 1232, 1239, 1246, 1249] 13 rfl).trans (by simp (maxSteps := 10000000) only [R89_13, bindI, Option.bind_some, if_true_, and_self, ite_true, true_and, true_or, or_true])
set_option maxRecDepth 100000 in
theorem r271_945 (d : Nat) (x0 x4 s0 s1 : Int) : Ev prog clsT X d mc271 945 [(2, x0), (2, 0), (2, 89), (2, 158), (0, x4), (3, 0), (3, 0), (3, 0)] [(0, s1), (0, s0)] (mk E c s (hh g)) =
  (if cmpI .eq s0 s1 = true then
  (Ev prog clsT X d mc271 1249 [(2, x0), (2, 0), (2, 89), (2, 158), (0, x4), (3, 0), (3, 0), (3, 0)] [] (mk E c s (hh g)))
else
  (some ((0, 0), ((mk E c s (hh g)))))) :=
  (evk_at (r := (if cmpI .eq s0 s1 = true then
  (Ev prog clsT X d mc271 1249 [(2, x0), (2, 0), (2, 89), (2, 158), (0, x4), (3, 0), (3, 0), (3, 0)] [] (mk E c s (hh g)))
else
  (some ((0, 0), (mk E c s (hh g)))))) X [0, 3, 7, 13, 24, 25, 51, 77, 80, 107, 134, 137, 190, 243, 246, 253, 260, 263, 265, 267, 270, 272, 274, 277, 311, 345, 348, 356, 364, 367, 383, 396, 409, 412, 428, 440, 452, 455, 462, 469, 472, 484, 496, 499, 511, 523, 526, 543, 560, 563, 575, 587, 590, 603, 616, 619, 635, 647, 659, 662, 674, 686, 689, 701, 713, 716, 728, 740, 743, 760, 777, 780, 796, 812, 815, 831, 847, 850, 857, 864, 867, 874, 881, 884, 901, 918, 921, 933, 945, 948, 964, 980, 983, 985, 987, 990, 997, 1004, 1007, 1019, 1031, 1034, 1042, 1050, 1053, 1069, 1092, 1115, 1118, 1133, 1150, 1167, 1170, 1182, 1194, 1197, 1213, 1229, 1232, 1239, 1246, 1249] 4 rfl).trans (by simp (maxSteps := 10000000) only [bindI, Option.bind_some, if_true_, and_self, ite_true, true_and, true_or, or_true])
set_option maxRecDepth 100000 in
theorem r271_948 (d : Nat) (x0 x4 : Int) : Ev prog clsT X d mc271 948 [(2, x0), (2, 0), (2, 89), (2, 158), (0, x4), (3, 0), (3, 0), (3, 0)] [] (mk E c s (hh g)) =
  ((aget X 100 ((mk E c s (hh g))) x0 ((w32 (x4 + 1)))).bind fun v1 =>
  if cmpI .eq v1 0 = true then
  ((aget X 100 ((mk E c s (hh g))) x0 ((w32 (x4 + 2)))).bind fun v2 =>
    (Call prog clsT X d 122 [(2, 0), (0, 0), (0, v2)] ((mk E c s (hh g)))).bind fun r3 => if r3.1.1 = 4 then none else
    Ev prog clsT X d mc271 964 [(2, x0), (2, 0), (2, 89), (2, 158), (0, x4), (3, 0), (3, 0), (3, 0)] (pushR r3.1 []) r3.2)
else
  ((aget X 100 ((mk E c s (hh g))) x0 ((w32 (x4 + 2)))).bind fun v4 =>
    (Call prog clsT X d 122 [(2, 0), (0, 1), (0, v4)] ((mk E c s (hh g)))).bind fun r5 => if r5.1.1 = 4 then none else
    Ev prog clsT X d mc271 964 [(2, x0), (2, 0), (2, 89), (2, 158), (0, x4), (3, 0), (3, 0), (3, 0)] (pushR r5.1 []) r5.2)) :=
  (evk_at (r := ((aget X 100 ((mk E c s (hh g))) x0 ((w32 (x4 + 1)))).bind fun v1 =>
  if cmpI .eq v1 0 = true then
  ((aget X 100 ((mk E c s (hh g))) x0 ((w32 (x4 + 2)))).bind fun v2 =>
    if (2 : Nat) = 2 ∧ rcv ((mk E c s (hh g))) 0 12 = true then
    ((Call prog clsT X d 122 [(2, 0), (0, 0), (0, v2)] ((mk E c s (hh g)))).bind fun r3 => if r3.1.1 = 4 then none else
    Ev prog clsT X d mc271 964 [(2, x0), (2, 0), (2, 89), (2, 158), (0, x4), (3, 0), (3, 0), (3, 0)] (pushR r3.1 []) r3.2) else none)
else
  ((aget X 100 ((mk E c s (hh g))) x0 ((w32 (x4 + 2)))).bind fun v4 =>
    if (2 : Nat) = 2 ∧ rcv ((mk E c s (hh g))) 0 12 = true then
    ((Call prog clsT X d 122 [(2, 0), (0, 1), (0, v4)] ((mk E c s (hh g)))).bind fun r5 => if r5.1.1 = 4 then none else
    Ev prog clsT X d mc271 964 [(2, x0), (2, 0), (2, 89), (2, 158), (0, x4), (3, 0), (3, 0), (3, 0)] (pushR r5.1 []) r5.2) else none))) X [0, 3, 7, 13, 24, 25, 51, 77, 80, 107, 134, 137, 190, 243, 246, 253, 260, 263, 265, 267, 270, 272, 274, 277, 311, 345, 348, 356, 364, 367, 383, 396, 409, 412, 428, 440, 452, 455, 462, 469, 472, 484, 496, 499, 511, 523, 526, 543, 560, 563, 575, 587, 590, 603, 616, 619, 635, 647, 659, 662, 674, 686, 689, 701, 713, 716, 728, 740, 743, 760, 777, 780, 796, 812, 815, 831, 847, 850, 857, 864, 867, 874, 881, 884, 901, 918, 921, 933, 945, 948, 964, 980, 983, 985, 987, 990, 997, 1004, 1007, 1019, 1031, 1034, 1042, 1050, 1053, 1069, 1092, 1115, 1118, 1133, 1150, 1167, 1170, 1182, 1194, 1197, 1213, 1229, 1232, 1239, 1246, 1249] 16 rfl).trans (by simp (maxSteps := 10000000) only [R0_12, bindI, Option.bind_some, if_true_, and_self, ite_true, true_and, true_or, or_true])
set_option maxRecDepth 100000 in
theorem r271_964 (d : Nat) (x0 x4 s0 : Int) : Ev prog clsT X d mc271 964 [(2, x0), (2, 0), (2, 89), (2, 158), (0, x4), (3, 0), (3, 0), (3, 0)] [(0, s0)] (mk E c s (hh g)) =
  ((aget X 100 ((mk E c s (hh g))) x0 ((w32 (x4 + 1)))).bind fun v1 =>
  if cmpI .eq v1 0 = true then
  ((aget X 100 ((mk E c s (hh g))) x0 ((w32 (x4 + 2)))).bind fun v2 =>
    (Call prog clsT X d 227 [(2, 89), (0, 0), (0, v2)] ((mk E c s (hh g)))).bind fun r3 => if r3.1.1 = 4 then none else
    Ev prog clsT X d mc271 980 [(2, x0), (2, 0), (2, 89), (2, 158), (0, x4), (3, 0), (3, 0), (3, 0)] (pushR r3.1 [(0, s0)]) r3.2)
else
  ((aget X 100 ((mk E c s (hh g))) x0 ((w32 (x4 + 2)))).bind fun v4 =>
    (Call prog clsT X d 227 [(2, 89), (0, 1), (0, v4)] ((mk E c s (hh g)))).bind fun r5 => if r5.1.1 = 4 then none else
    Ev prog clsT X d mc271 980 [(2, x0), (2, 0), (2, 89), (2, 158), (0, x4), (3, 0), (3, 0), (3, 0)] (pushR r5.1 [(0, s0)]) r5.2)) :=
  (evk_at (r := ((aget X 100 ((mk E c s (hh g))) x0 ((w32 (x4 + 1)))).bind fun v1 =>
  if cmpI .eq v1 0 = true then
  ((aget X 100 ((mk E c s (hh g))) x0 ((w32 (x4 + 2)))).bind fun v2 =>
    if (2 : Nat) = 2 ∧ rcv ((mk E c s (hh g))) 89 13 = true then
    ((Call prog clsT X d 227 [(2, 89), (0, 0), (0, v2)] ((mk E c s (hh g)))).bind fun r3 => if r3.1.1 = 4 then none else
    Ev prog clsT X d mc271 980 [(2, x0), (2, 0), (2, 89), (2, 158), (0, x4), (3, 0), (3, 0), (3, 0)] (pushR r3.1 [(0, s0)]) r3.2) else none)
else
  ((aget X 100 ((mk E c s (hh g))) x0 ((w32 (x4 + 2)))).bind fun v4 =>
    if (2 : Nat) = 2 ∧ rcv ((mk E c s (hh g))) 89 13 = true then
    ((Call prog clsT X d 227 [(2, 89), (0, 1), (0, v4)] ((mk E c s (hh g)))).bind fun r5 => if r5.1.1 = 4 then none else
    Ev prog clsT X d mc271 980 [(2, x0), (2, 0), (2, 89), (2, 158), (0, x4), (3, 0), (3, 0), (3, 0)] (pushR r5.1 [(0, s0)]) r5.2) else none))) X [0, 3, 7, 13, 24, 25, 51, 77, 80, 107, 134, 137, 190, 243, 246, 253, 260, 263, 265, 267, 270, 272, 274, 277, 311, 345, 348, 356, 364, 367, 383, 396, 409, 412, 428, 440, 452, 455, 462, 469, 472, 484, 496, 499, 511, 523, 526, 543, 560, 563, 575, 587, 590, 603, 616, 619, 635, 647, 659, 662, 674, 686, 689, 701, 713, 716, 728, 740, 743, 760, 777, 780, 796, 812, 815, 831, 847, 850, 857, 864, 867, 874, 881, 884, 901, 918, 921, 933, 945, 948, 964, 980, 983, 985, 987, 990, 997, 1004, 1007, 1019, 1031, 1034, 1042, 1050, 1053, 1069, 1092, 1115, 1118, 1133, 1150, 1167, 1170, 1182, 1194, 1197, 1213, 1229, 1232, 1239, 1246, 1249] 16 rfl).trans (by simp (maxSteps := 10000000) only [R89_13, bindI, Option.bind_some, if_true_, and_self, ite_true, true_and, true_or, or_true])
set_option maxRecDepth 100000 in
theorem r271_980 (d : Nat) (x0 x4 s0 s1 : Int) : Ev prog clsT X d mc271 980 [(2, x0), (2, 0), (2, 89), (2, 158), (0, x4), (3, 0), (3, 0), (3, 0)] [(0, s1), (0, s0)] (mk E c s (hh g)) =
  (if cmpI .eq s0 s1 = true then
  (Ev prog clsT X d mc271 1249 [(2, x0), (2, 0), (2, 89), (2, 158), (0, x4), (3, 0), (3, 0), (3, 0)] [] (mk E c s (hh g)))
else
  (some ((0, 0), ((mk E c s (hh g)))))) :=
  (evk_at (r := (if cmpI .eq s0 s1 = true then
  (Ev prog clsT X d mc271 1249 [(2, x0), (2, 0), (2, 89), (2, 158), (0, x4), (3, 0), (3, 0), (3, 0)] [] (mk E c s (hh g)))
else
  (some ((0, 0), (mk E c s (hh g)))))) X [0, 3, 7, 13, 24, 25, 51, 77, 80, 107, 134, 137, 190, 243, 246, 253, 260, 263, 265, 267, 270, 272, 274, 277, 311, 345, 348, 356, 364, 367, 383, 396, 409, 412, 428, 440, 452, 455, 462, 469, 472, 484, 496, 499, 511, 523, 526, 543, 560, 563, 575, 587, 590, 603, 616, 619, 635, 647, 659, 662, 674, 686, 689, 701, 713, 716, 728, 740, 743, 760, 777, 780, 796, 812, 815, 831, 847, 850, 857, 864, 867, 874, 881, 884, 901, 918, 921, 933, 945, 948, 964, 980, 983, 985, 987, 990, 997, 1004, 1007, 1019, 1031, 1034, 1042, 1050, 1053, 1069, 1092, 1115, 1118, 1133, 1150, 1167, 1170, 1182, 1194, 1197, 1213, 1229, 1232, 1239, 1246, 1249] 4 rfl).trans (by simp (maxSteps := 10000000) only [bindI, Option.bind_some, if_true_, and_self, ite_true, true_and, true_or, or_true])
set_option maxRecDepth 100000 in
theorem r271_983 (d : Nat) (x0 x4 : Int) : Ev prog clsT X d mc271 983 [(2, x0), (2, 0), (2, 89), (2, 158), (0, x4), (3, 0), (3, 0), (3, 0)] [] (mk E c s (hh g)) =
  ((Call prog clsT X d 124 [(2, 0)] ((mk E c s (hh g)))).bind fun r1 => if r1.1.1 = 4 then none else
  Ev prog clsT X d mc271 985 [(2, x0), (2, 0), (2, 89), (2, 158), (0, x4), (3, 0), (3, 0), (3, 0)] (pushR r1.1 []) r1.2) :=
  (evk_at (r := (if (2 : Nat) = 2 ∧ rcv ((mk E c s (hh g))) 0 12 = true then
  ((Call prog clsT X d 124 [(2, 0)] ((mk E c s (hh g)))).bind fun r1 => if r1.1.1 = 4 then none else
  Ev prog clsT X d mc271 985 [(2, x0), (2, 0), (2, 89), (2, 158), (0, x4), (3, 0), (3, 0), (3, 0)] (pushR r1.1 []) r1.2) else none)) X [0, 3, 7, 13, 24, 25, 51, 77, 80, 107, 134, 137, 190, 243, 246, 253, 260, 263, 265, 267, 270, 272, 274, 277, 311, 345, 348, 356, 364, 367, 383, 396, 409, 412, 428, 440, 452, 455, 462, 469, 472, 484, 496, 499, 511, 523, 526, 543, 560, 563, 575, 587, 590, 603, 616, 619, 635, 647, 659, 662, 674, 686, 689, 701, 713, 716, 728, 740, 743, 760, 777, 780, 796, 812, 815, 831, 847, 850, 857, 864, 867, 874, 881, 884, 901, 918, 921, 933, 945, 948, 964, 980, 983, 985, 987, 990, 997, 1004, 1007, 1019, 1031, 1034, 1042, 1050, 1053, 1069, 1092, 1115, 1118, 1133, 1150, 1167, 1170, 1182, 1194, 1197, 1213, 1229, 1232, 1239, 1246, 1249] 3 rfl).trans (by simp (maxSteps := 10000000) only [R0_12, bindI, Option.bind_some, if_true_, and_self, ite_true, true_and, true_or, or_true])
set_option maxRecDepth 100000 in
theorem r271_985 (d : Nat) (x0 x4 s0 : Int) : Ev prog clsT X d mc271 985 [(2, x0), (2, 0), (2, 89), (2, 158), (0, x4), (3, 0), (3, 0), (3, 0)] [(0, s0)] (mk E c s (hh g)) =
  ((Call prog clsT X d 230 [(2, 89)] ((mk E c s (hh g)))).bind fun r1 => if r1.1.1 = 4 then none else
  Ev prog clsT X d mc271 987 [(2, x0), (2, 0), (2, 89), (2, 158), (0, x4), (3, 0), (3, 0), (3, 0)] (pushR r1.1 [(0, s0)]) r1.2) :=
  (evk_at (r := (if (2 : Nat) = 2 ∧ rcv ((mk E c s (hh g))) 89 13 = true then
  ((Call prog clsT X d 230 [(2, 89)] ((mk E c s (hh g)))).bind fun r1 => if r1.1.1 = 4 then none else
  Ev prog clsT X d mc271 987 [(2, x0), (2, 0), (2, 89), (2, 158), (0, x4), (3, 0), (3, 0), (3, 0)] (pushR r1.1 [(0, s0)]) r1.2) else none)) X [0, 3, 7, 13, 24, 25, 51, 77, 80, 107, 134, 137, 190, 243, 246, 253, 260, 263, 265, 267, 270, 272, 274, 277, 311, 345, 348, 356, 364, 367, 383, 396, 409, 412, 428, 440, 452, 455, 462, 469, 472, 484, 496, 499, 511, 523, 526, 543, 560, 563, 575, 587, 590, 603, 616, 619, 635, 647, 659, 662, 674, 686, 689, 701, 713, 716, 728, 740, 743, 760, 777, 780, 796, 812, 815, 831, 847, 850, 857, 864, 867, 874, 881, 884, 901, 918, 921, 933, 945, 948, 964, 980, 983, 985, 987, 990, 997, 1004, 1007, 1019, 1031, 1034, 1042, 1050, 1053, 1069, 1092, 1115, 1118, 1133, 1150, 1167, 1170, 1182, 1194, 1197, 1213, 1229, 1232, 1239, 1246, 1249] 3 rfl).trans (by simp (maxSteps := 10000000) only [R89_13, bindI, Option.bind_some, if_true_, and_self, ite_true, true_and, true_or, or_true])
set_option maxRecDepth 100000 in
theorem r271_987 (d : Nat) (x0 x4 s0 s1 : Int) : Ev prog clsT X d mc271 987 [(2, x0), (2, 0), (2, 89), (2, 158), (0, x4), (3, 0), (3, 0), (3, 0)] [(0, s1), (0, s0)] (mk E c s (hh g)) =
  (if cmpI .eq s0 s1 = true then
  (Ev prog clsT X d mc271 1249 [(2, x0), (2, 0), (2, 89), (2, 158), (0, x4), (3, 0), (3, 0), (3, 0)] [] (mk E c s (hh g)))
else
  (some ((0, 0), ((mk E c s (hh g)))))) :=
  (evk_at (r := (if cmpI .eq s0 s1 = true then
  (Ev prog clsT X d mc271 1249 [(2, x0), (2, 0), (2, 89), (2, 158), (0, x4), (3, 0), (3, 0), (3, 0)] [] (mk E c s (hh g)))
else
  (some ((0, 0), (mk E c s (hh g)))))) X [0, 3, 7, 13, 24, 25, 51, 77, 80, 107, 134, 137, 190, 243, 246, 253, 260, 263, 265, 267, 270, 272, 274, 277, 311, 345, 348, 356, 364, 367, 383, 396, 409, 412, 428, 440, 452, 455, 462, 469, 472, 484, 496, 499, 511, 523, 526, 543, 560, 563, 575, 587, 590, 603, 616, 619, 635, 647, 659, 662, 674, 686, 689, 701, 713, 716, 728, 740, 743, 760, 777, 780, 796, 812, 815, 831, 847, 850, 857, 864, 867, 874, 881, 884, 901, 918, 921, 933, 945, 948, 964, 980, 983, 985, 987, 990, 997, 1004, 1007, 1019, 1031, 1034, 1042, 1050, 1053, 1069, 1092, 1115, 1118, 1133, 1150, 1167, 1170, 1182, 1194, 1197, 1213, 1229, 1232, 1239, 1246, 1249] 4 rfl).trans (by simp (maxSteps := 10000000) only [bindI, Option.bind_some, if_true_, and_self, ite_true, true_and, true_or, or_true])
set_option maxRecDepth 100000 in
theorem r271_990 (d : Nat) (x0 x4 : Int) : Ev prog clsT X d mc271 990 [(2, x0), (2, 0), (2, 89), (2, 158), (0, x4), (3, 0), (3, 0), (3, 0)] [] (mk E c s (hh g)) =
  ((aget X 100 ((mk E c s (hh g))) x0 ((w32 (x4 + 1)))).bind fun v1 =>
  (Call prog clsT X d 126 [(2, 0), (0, v1)] ((mk E c s (hh g)))).bind fun r2 => if r2.1.1 = 4 then none else
  Ev prog clsT X d mc271 997 [(2, x0), (2, 0), (2, 89), (2, 158), (0, x4), (3, 0), (3, 0), (3, 0)] (pushR r2.1 []) r2.2) :=
  (evk_at (r := ((aget X 100 ((mk E c s (hh g))) x0 ((w32 (x4 + 1)))).bind fun v1 =>
  if (2 : Nat) = 2 ∧ rcv ((mk E c s (hh g))) 0 12 = true then
  ((Call prog clsT X d 126 [(2, 0), (0, v1)] ((mk E c s (hh g)))).bind fun r2 => if r2.1.1 = 4 then none else
  Ev prog clsT X d mc271 997 [(2, x0), (2, 0), (2, 89), (2, 158), (0, x4), (3, 0), (3, 0), (3, 0)] (pushR r2.1 []) r2.2) else none)) X [0, 3, 7, 13, 24, 25, 51, 77, 80, 107, 134, 137, 190, 243, 246, 253, 260, 263, 265, 267, 270, 272, 274, 277, 311, 345, 348, 356, 364, 367, 383, 396, 409, 412, 428, 440, 452, 455, 462, 469, 472, 484, 496, 499, 511, 523, 526, 543, 560, 563, 575, 587, 590, 603, 616, 619, 635, 647, 659, 662, 674, 686, 689, 701, 713, 716, 728, 740, 743, 760, 777, 780, 796, 812, 815, 831, 847, 850, 857, 864, 867, 874, 881, 884, 901, 918, 921, 933, 945, 948, 964, 980, 983, 985, 987, 990, 997, 1004, 1007, 1019, 1031, 1034, 1042, 1050, 1053, 1069, 1092, 1115, 1118, 1133, 1150, 1167, 1170, 1182, 1194, 1197, 1213, 1229, 1232, 1239, 1246, 1249] 8 rfl).trans (by simp (maxSteps := 10000000) only [R0_12, bindI, Option.bind_some, if_true_, and_self, ite_true, true_and, true_or, or_true])
set_option maxRecDepth 100000 in
theorem r271_997 (d : Nat) (x0 x4 s0 : Int) : Ev prog clsT X d mc271 997 [(2, x0), (2, 0), (2, 89), (2, 158), (0, x4), (3, 0), (3, 0), (3, 0)] [(0, s0)] (mk E c s (hh g)) =
  ((aget X 100 ((mk E c s (hh g))) x0 ((w32 (x4 + 1)))).bind fun v1 =>
  (Call prog clsT X d 232 [(2, 89), (0, v1)] ((mk E c s (hh g)))).bind fun r2 => if r2.1.1 = 4 then none else
  Ev prog clsT X d mc271 1004 [(2, x0), (2, 0), (2, 89), (2, 158), (0, x4), (3, 0), (3, 0), (3, 0)] (pushR r2.1 [(0, s0)]) r2.2) :=
  (evk_at (r := ((aget X 100 ((mk E c s (hh g))) x0 ((w32 (x4 + 1)))).bind fun v1 =>
  if (2 : Nat) = 2 ∧ rcv ((mk E c s (hh g))) 89 13 = true then
  ((Call prog clsT X d 232 [(2, 89), (0, v1)] ((mk E c s (hh g)))).bind fun r2 => if r2.1.1 = 4 then none else
  Ev prog clsT X d mc271 1004 [(2, x0), (2, 0), (2, 89), (2, 158), (0, x4), (3, 0), (3, 0), (3, 0)] (pushR r2.1 [(0, s0)]) r2.2) else none)) X [0, 3, 7, 13, 24, 25, 51, 77, 80, 107, 134, 137, 190, 243, 246, 253, 260, 263, 265, 267, 270, 272, 274, 277, 311, 345, 348, 356, 364, 367, 383, 396, 409, 412, 428, 440, 452, 455, 462, 469, 472, 484, 496, 499, 511, 523, 526, 543, 560, 563, 575, 587, 590, 603, 616, 619, 635, 647, 659, 662, 674, 686, 689, 701, 713, 716, 728, 740, 743, 760, 777, 780, 796, 812, 815, 831, 847, 850, 857, 864, 867, 874, 881, 884, 901, 918, 921, 933, 945, 948, 964, 980, 983, 985, 987, 990, 997, 1004, 1007, 1019, 1031, 1034, 1042, 1050, 1053, 1069, 1092, 1115, 1118, 1133, 1150, 1167, 1170, 1182, 1194, 1197, 1213, 1229, 1232, 1239, 1246, 1249] 8 rfl).trans (by simp (maxSteps := 10000000) only [R89_13, bindI, Option.bind_some, if_true_, and_self, ite_true, true_and, true_or, or_true])
set_option maxRecDepth 100000 in
theorem r271_1004 (d : Nat) (x0 x4 s0 s1 : Int) : Ev prog clsT X d mc271 1004 [(2, x0), (2, 0), (2, 89), (2, 158), (0, x4), (3, 0), (3, 0), (3, 0)] [(0, s1), (0, s0)] (mk E c s (hh g)) =
  (if cmpI .eq s0 s1 = true then
  (Ev prog clsT X d mc271 1249 [(2, x0), (2, 0), (2, 89), (2, 158), (0, x4), (3, 0), (3, 0), (3, 0)] [] (mk E c s (hh g)))
else
  (some ((0, 0), ((mk E c s (hh g)))))) :=
  (evk_at (r := (if cmpI .eq s0 s1 = true then
  (Ev prog clsT X d mc271 1249 [(2, x0), (2, 0), (2, 89), (2, 158), (0, x4), (3, 0), (3, 0), (3, 0)] [] (mk E c s (hh g)))
else
  (some ((0, 0), (mk E c s (hh g)))))) X [0, 3, 7, 13, 24, 25, 51, 77, 80, 107, 134, 137, 190, 243, 246, 253, 260, 263, 265, 267, 270, 272, 274, 277, 311, 345, 348, 356, 364, 367, 383, 396, 409, 412, 428, 440, 452, 455, 462, 469, 472, 484, 496, 499, 511, 523, 526, 543, 560, 563, 575, 587, 590, 603, 616, 619, 635, 647, 659, 662, 674, 686, 689, 701, 713, 716, 728, 740, 743, 760, 777, 780, 796, 812, 815, 831, 847, 850, 857, 864, 867, 874, 881, 884, 901, 918, 921, 933, 945, 948, 964, 980, 983, 985, 987, 990, 997, 1004, 1007, 1019, 1031, 1034, 1042, 1050, 1053, 1069, 1092, 1115, 1118, 1133, 1150, 1167, 1170, 1182, 1194, 1197, 1213, 1229, 1232, 1239, 1246, 1249] 4 rfl).trans (by simp (maxSteps := 10000000) only [bindI, Option.bind_some, if_true_, and_self, ite_true, true_and, true_or, or_true])
set_option maxRecDepth 100000 in
theorem r271_1007 (d : Nat) (x0 x4 : Int) : Ev prog clsT X d mc271 1007 [(2, x0), (2, 0), (2, 89), (2, 158), (0, x4), (3, 0), (3, 0), (3, 0)] [] (mk E c s (hh g)) =
  ((aget X 100 ((mk E c s (hh g))) x0 ((w32 (x4 + 1)))).bind fun v1 =>
  (aget X 100 ((mk E c s (hh g))) x0 ((w32 (x4 + 2)))).bind fun v2 =>
  (Call prog clsT X d 129 [(2, 0), (0, v1), (0, v2)] ((mk E c s (hh g)))).bind fun r3 => if r3.1.1 = 4 then none else
  Ev prog clsT X d mc271 1019 [(2, x0), (2, 0), (2, 89), (2, 158), (0, x4), (3, 0), (3, 0), (3, 0)] (pushR r3.1 []) r3.2) :=
  (evk_at (r := ((aget X 100 ((mk E c s (hh g))) x0 ((w32 (x4 + 1)))).bind fun v1 =>
  (aget X 100 ((mk E c s (hh g))) x0 ((w32 (x4 + 2)))).bind fun v2 =>
  if (2 : Nat) = 2 ∧ rcv ((mk E c s (hh g))) 0 12 = true then
  ((Call prog clsT X d 129 [(2, 0), (0, v1), (0, v2)] ((mk E c s (hh g)))).bind fun r3 => if r3.1.1 = 4 then none else
  Ev prog clsT X d mc271 1019 [(2, x0), (2, 0), (2, 89), (2, 158), (0, x4), (3, 0), (3, 0), (3, 0)] (pushR r3.1 []) r3.2) else none)) X [0, 3, 7, 13, 24, 25, 51, 77, 80, 107, 134, 137, 190, 243, 246, 253, 260, 263, 265, 267, 270, 272, 274, 277, 311, 345, 348, 356, 364, 367, 383, 396, 409, 412, 428, 440, 452, 455, 462, 469, 472, 484, 496, 499, 511, 523, 526, 543, 560, 563, 575, 587, 590, 603, 616, 619, 635, 647, 659, 662, 674, 686, 689, 701, 713, 716, 728, 740, 743, 760, 777, 780, 796, 812, 815, 831, 847, 850, 857, 864, 867, 874, 881, 884, 901, 918, 921, 933, 945, 948, 964, 980, 983, 985, 987, 990, 997, 1004, 1007, 1019, 1031, 1034, 1042, 1050, 1053, 1069, 1092, 1115, 1118, 1133, 1150, 1167, 1170, 1182, 1194, 1197, 1213, 1229, 1232, 1239, 1246, 1249] 13 rfl).trans (by simp (maxSteps := 10000000) only [R0_12, bindI, Option.bind_some, if_true_, and_self, ite_true, true_and, true_or, or_true])
set_option maxRecDepth 100000 in
theorem r271_1019 (d : Nat) (x0 x4 s0 : Int) : Ev prog clsT X d mc271 1019 [(2, x0), (2, 0), (2, 89), (2, 158), (0, x4), (3, 0), (3, 0), (3, 0)] [(0, s0)] (mk E c s (hh g)) =
  ((aget X 100 ((mk E c s (hh g))) x0 ((w32 (x4 + 1)))).bind fun v1 =>
  (aget X 100 ((mk E c s (hh g))) x0 ((w32 (x4 + 2)))).bind fun v2 =>
  (Call prog clsT X d 236 [(2, 89), (0, v1), (0, v2)] ((mk E c s (hh g)))).bind fun r3 => if r3.1.1 = 4 then none else
  Ev prog clsT X d mc271 1031 [(2, x0), (2, 0), (2, 89), (2, 158), (0, x4), (3, 0), (3, 0), (3, 0)] (pushR r3.1 [(0, s0)]) r3.2) :=
  (evk_at (r := ((aget X 100 ((mk E c s (hh g))) x0 ((w32 (x4 + 1)))).bind fun v1 =>
  (aget X 100 ((mk E c s (hh g))) x0 ((w32 (x4 + 2)))).bind fun v2 =>
  if (2 : Nat) = 2 ∧ rcv ((mk E c s (hh g))) 89 13 = true then
  ((Call prog clsT X d 236 [(2, 89), (0, v1), (0, v2)] ((mk E c s (hh g)))).bind fun r3 => if r3.1.1 = 4 then none else
  Ev prog clsT X d mc271 1031 [(2, x0), (2, 0), (2, 89), (2, 158), (0, x4), (3, 0), (3, 0), (3, 0)] (pushR r3.1 [(0, s0)]) r3.2) else none)) X [0, 3, 7, 13, 24, 25, 51, 77, 80, 107, 134, 137, 190, 243, 246, 253, 260, 263, 265, 267, 270, 272, 274, 277, 311, 345, 348, 356, 364, 367, 383, 396, 409, 412, 428, 440, 452, 455, 462, 469, 472, 484, 496, 499, 511, 523, 526, 543, 560, 563, 575, 587, 590, 603, 616, 619, 635, 647, 659, 662, 674, 686, 689, 701, 713, 716, 728, 740, 743, 760, 777, 780, 796, 812, 815, 831, 847, 850, 857, 864, 867, 874, 881, 884, 901, 918, 921, 933, 945, 948, 964, 980, 983, 985, 987, 990, 997, 1004, 1007, 1019, 1031, 1034, 1042, 1050, 1053, 1069, 1092, 1115, 1118, 1133, 1150, 1167, 1170, 1182, 1194, 1197, 1213, 1229, 1232, 1239, 1246, 1249] 13 rfl).trans (by simp (maxSteps := 10000000) only [R89_13, bindI, Option.bind_some, if_true_, and_self, ite_true, true_and, true_or, or_true])
set_option maxRecDepth 100000 in
theorem r271_1031 (d : Nat) (x0 x4 s0 s1 : Int) : Ev prog clsT X d mc271 1031 [(2, x0), (2, 0), (2, 89), (2, 158), (0, x4), (3, 0), (3, 0), (3, 0)] [(0, s1), (0, s0)] (mk E c s (hh g)) =
  (if cmpI .eq s0 s1 = true then
  (Ev prog clsT X d mc271 1249 [(2, x0), (2, 0), (2, 89), (2, 158), (0, x4), (3, 0), (3, 0), (3, 0)] [] (mk E c s (hh g)))
else
  (some ((0, 0), ((mk E c s (hh g)))))) :=
  (evk_at (r := (if cmpI .eq s0 s1 = true then
  (Ev prog clsT X d mc271 1249 [(2, x0), (2, 0), (2, 89), (2, 158), (0, x4), (3, 0), (3, 0), (3, 0)] [] (mk E c s (hh g)))
else
  (some ((0, 0), (mk E c s (hh g)))))) X [0, 3, 7, 13, 24, 25, 51, 77, 80, 107, 134, 137, 190, 243, 246, 253, 260, 263, 265, 267, 270, 272, 274, 277, 311, 345, 348, 356, 364, 367, 383, 396, 409, 412, 428, 440, 452, 455, 462, 469, 472, 484, 496, 499, 511, 523, 526, 543, 560, 563, 575, 587, 590, 603, 616, 619, 635, 647, 659, 662, 674, 686, 689, 701, 713, 716, 728, 740, 743, 760, 777, 780, 796, 812, 815, 831, 847, 850, 857, 864, 867, 874, 881, 884, 901, 918, 921, 933, 945, 948, 964, 980, 983, 985, 987, 990, 997, 1004, 1007, 1019, 1031, 1034, 1042, 1050, 1053, 1069, 1092, 1115, 1118, 1133, 1150, 1167, 1170, 1182, 1194, 1197, 1213, 1229, 1232, 1239, 1246, 1249] 4 rfl).trans (by simp (maxSteps := 10000000) only [bindI, Option.bind_some, if_true_, and_self, ite_true, true_and, true_or, or_true])
set_option maxRecDepth 100000 in
theorem r271_1034 (d : Nat) (x0 x4 : Int) : Ev prog clsT X d mc271 1034 [(2, x0), (2, 0), (2, 89), (2, 158), (0, x4), (3, 0), (3, 0), (3, 0)] [] (mk E c s (hh g)) =
  ((aget X 100 ((mk E c s (hh g))) x0 ((w32 (x4 + 1)))).bind fun v1 =>
  (Call prog clsT X d 269 [(2, 0), (0, v1), (2, 158)] ((mk E c s (hh g)))).bind fun r2 => if r2.1.1 = 4 then none else
  Ev prog clsT X d mc271 1042 [(2, x0), (2, 0), (2, 89), (2, 158), (0, x4), (3, 0), (3, 0), (3, 0)] (pushR r2.1 []) r2.2) :=
  evk_at X [0, 3, 7, 13, 24, 25, 51, 77, 80, 107, 134, 137, 190, 243, 246, 253, 260, 263, 265, 267, 270, 272, 274, 277, 311, 345, 348, 356, 364, 367, 383, 396, 409, 412, 428, 440, 452, 455, 462, 469, 472, 484, 496, 499, 511, 523, 526, 543, 560, 563, 575, 587, 590, 603, 616, 619, 635, 647, 659, 662, 674, 686, 689, 701, 713, 716, 728, 740, 743, 760, 777, 780, 796, 812, 815, 831, 847, 850, 857, 864, 867, 874, 881, 884, 901, 918, 921, 933, 945, 948, 964, 980, 983, 985, 987, 990, 997, 1004, 1007, 1019, 1031, 1034, 1042, 1050, 1053, 1069, 1092, 1115, 1118, 1133, 1150, 1167, 1170, 1182, 1194, 1197, 1213, 1229, 1232, 1239, 1246, 1249] 9 rfl
set_option maxRecDepth 100000 in
theorem r271_1042 (d : Nat) (x0 x4 s0 : Int) : Ev prog clsT X d mc271 1042 [(2, x0), (2, 0), (2, 89), (2, 158), (0, x4), (3, 0), (3, 0), (3, 0)] [(0, s0)] (mk E c s (hh g)) =
  ((aget X 100 ((mk E c s (hh g))) x0 ((w32 (x4 + 1)))).bind fun v1 =>
  (Call prog clsT X d 237 [(2, 89), (0, v1)] ((mk E c s (hh g)))).bind fun r2 => if r2.1.1 = 4 then none else
  Ev prog clsT X d mc271 1050 [(2, x0), (2, 0), (2, 89), (2, 158), (0, x4), (0, s0), (3, 0), (3, 0)] (pushR r2.1 []) r2.2) :=
  (evk_at (r := ((aget X 100 ((mk E c s (hh g))) x0 ((w32 (x4 + 1)))).bind fun v1 =>
  if (2 : Nat) = 2 ∧ rcv ((mk E c s (hh g))) 89 13 = true then
  ((Call prog clsT X d 237 [(2, 89), (0, v1)] ((mk E c s (hh g)))).bind fun r2 => if r2.1.1 = 4 then none else
  Ev prog clsT X d mc271 1050 [(2, x0), (2, 0), (2, 89), (2, 158), (0, x4), (0, s0), (3, 0), (3, 0)] (pushR r2.1 []) r2.2) else none)) X [0, 3, 7, 13, 24, 25, 51, 77, 80, 107, 134, 137, 190, 243, 246, 253, 260, 263, 265, 267, 270, 272, 274, 277, 311, 345, 348, 356, 364, 367, 383, 396, 409, 412, 428, 440, 452, 455, 462, 469, 472, 484, 496, 499, 511, 523, 526, 543, 560, 563, 575, 587, 590, 603, 616, 619, 635, 647, 659, 662, 674, 686, 689, 701, 713, 716, 728, 740, 743, 760, 777, 780, 796, 812, 815, 831, 847, 850, 857, 864, 867, 874, 881, 884, 901, 918, 921, 933, 945, 948, 964, 980, 983, 985, 987, 990, 997, 1004, 1007, 1019, 1031, 1034, 1042, 1050, 1053, 1069, 1092, 1115, 1118, 1133, 1150, 1167, 1170, 1182, 1194, 1197, 1213, 1229, 1232, 1239, 1246, 1249] 9 rfl).trans (by simp (maxSteps := 10000000) only [R89_13, bindI, Option.bind_some, if_true_, and_self, ite_true, true_and, true_or, or_true])
set_option maxRecDepth 100000 in
theorem r271_1050 (d : Nat) (x0 x4 x5 s0 : Int) : Ev prog clsT X d mc271 1050 [(2, x0), (2, 0), (2, 89), (2, 158), (0, x4), (0, x5), (3, 0), (3, 0)] [(0, s0)] (mk E c s (hh g)) =
  ((Call prog clsT X d 150 [(2, 89)] ((mk E c s (hh g)))).bind fun r1 => if r1.1.1 = 4 then none else
  Ev prog clsT X d mc271 1053 [(2, x0), (2, 0), (2, 89), (2, 158), (0, x4), (0, x5), (0, s0), (3, 0)] (pushR r1.1 []) r1.2) :=
  (evk_at (r := (if (2 : Nat) = 2 ∧ rcv ((mk E c s (hh g))) 89 13 = true then
  ((Call prog clsT X d 150 [(2, 89)] ((mk E c s (hh g)))).bind fun r1 => if r1.1.1 = 4 then none else
  Ev prog clsT X d mc271 1053 [(2, x0), (2, 0), (2, 89), (2, 158), (0, x4), (0, x5), (0, s0), (3, 0)] (pushR r1.1 []) r1.2) else none)) X [0, 3, 7, 13, 24, 25, 51, 77, 80, 107, 134, 137, 190, 243, 246, 253, 260, 263, 265, 267, 270, 272, 274, 277, 311, 345, 348, 356, 364, 367, 383, 396, 409, 412, 428, 440, 452, 455, 462, 469, 472, 484, 496, 499, 511, 523, 526, 543, 560, 563, 575, 587, 590, 603, 616, 619, 635, 647, 659, 662, 674, 686, 689, 701, 713, 716, 728, 740, 743, 760, 777, 780, 796, 812, 815, 831, 847, 850, 857, 864, 867, 874, 881, 884, 901, 918, 921, 933, 945, 948, 964, 980, 983, 985, 987, 990, 997, 1004, 1007, 1019, 1031, 1034, 1042, 1050, 1053, 1069, 1092, 1115, 1118, 1133, 1150, 1167, 1170, 1182, 1194, 1197, 1213, 1229, 1232, 1239, 1246, 1249] 4 rfl).trans (by simp (maxSteps := 10000000) only [R89_13, bindI, Option.bind_some, if_true_, and_self, ite_true, true_and, true_or, or_true])
set_option maxRecDepth 100000 in
theorem r271_1053 (d : Nat) (x0 x4 x5 x6 s0 : Int) : Ev prog clsT X d mc271 1053 [(2, x0), (2, 0), (2, 89), (2, 158), (0, x4), (0, x5), (0, x6), (3, 0)] [(0, s0)] (mk E c s (hh g)) =
  (if cmpI .eq s0 x5 = true then
  (if cmpI .ne x5 0 = true then
    (Ev prog clsT X d mc271 1249 [(2, x0), (2, 0), (2, 89), (2, 158), (0, x4), (0, x5), (0, x6), (3, 0)] [] (mk E c s (hh g)))
  else
    (if cmpI .eq ((lcmpI ((g 158 0)) x6)) 0 = true then
      (Ev prog clsT X d mc271 1249 [(2, x0), (2, 0), (2, 89), (2, 158), (0, x4), (0, x5), (0, x6), (3, 0)] [] (mk E c s (hh g)))
    else
      (some ((0, 0), ((mk E c s (hh g)))))))
else
  (some ((0, 0), ((mk E c s (hh g)))))) :=
  (evk_at (r := (if cmpI .eq s0 x5 = true then
  (if cmpI .ne x5 0 = true then
    (Ev prog clsT X d mc271 1249 [(2, x0), (2, 0), (2, 89), (2, 158), (0, x4), (0, x5), (0, x6), (3, 0)] [] (mk E c s (hh g)))
  else
    ((aget X 101 ((mk E c s (hh g))) 158 0).bind fun v1 =>
      if cmpI .eq ((lcmpI v1 x6)) 0 = true then
      (Ev prog clsT X d mc271 1249 [(2, x0), (2, 0), (2, 89), (2, 158), (0, x4), (0, x5), (0, x6), (3, 0)] [] (mk E c s (hh g)))
    else
      (some ((0, 0), (mk E c s (hh g))))))
else
  (some ((0, 0), (mk E c s (hh g)))))) X [0, 3, 7, 13, 24, 25, 51, 77, 80, 107, 134, 137, 190, 243, 246, 253, 260, 263, 265, 267, 270, 272, 274, 277, 311, 345, 348, 356, 364, 367, 383, 396, 409, 412, 428, 440, 452, 455, 462, 469, 472, 484, 496, 499, 511, 523, 526, 543, 560, 563, 575, 587, 590, 603, 616, 619, 635, 647, 659, 662, 674, 686, 689, 701, 713, 716, 728, 740, 743, 760, 777, 780, 796, 812, 815, 831, 847, 850, 857, 864, 867, 874, 881, 884, 901, 918, 921, 933, 945, 948, 964, 980, 983, 985, 987, 990, 997, 1004, 1007, 1019, 1031, 1034, 1042, 1050, 1053, 1069, 1092, 1115, 1118, 1133, 1150, 1167, 1170, 1182, 1194, 1197, 1213, 1229, 1232, 1239, 1246, 1249] 14 rfl).trans (by simp (maxSteps := 10000000) only [inbL 0 1 rfl, tn0, ↓A158, bindI, Option.bind_some, if_true_, and_self, ite_true, true_and, true_or, or_true])
set_option maxRecDepth 100000 in
theorem r271_1069 (d : Nat) (x0 x4 : Int) : Ev prog clsT X d mc271 1069 [(2, x0), (2, 0), (2, 89), (2, 158), (0, x4), (3, 0), (3, 0), (3, 0)] [] (mk E c s (hh g)) =
  ((aget X 100 ((mk E c s (hh g))) x0 ((w32 (x4 + 1)))).bind fun v1 =>
  (aget X 100 ((mk E c s (hh g))) x0 ((w32 (x4 + 2)))).bind fun v2 =>
  (aget X 100 ((mk E c s (hh g))) x0 ((w32 (x4 + 3)))).bind fun v3 =>
  (aget X 100 ((mk E c s (hh g))) x0 ((w32 (x4 + 4)))).bind fun v4 =>
  (Call prog clsT X d 270 [(2, 0), (0, v1), (0, v2), (0, v3), (0, v4), (2, 158)] ((mk E c s (hh g)))).bind fun r5 => if r5.1.1 = 4 then none else
  Ev prog clsT X d mc271 1092 [(2, x0), (2, 0), (2, 89), (2, 158), (0, x4), (3, 0), (3, 0), (3, 0)] (pushR r5.1 []) r5.2) :=
  evk_at X [0, 3, 7, 13, 24, 25, 51, 77, 80, 107, 134, 137, 190, 243, 246, 253, 260, 263, 265, 267, 270, 272, 274, 277, 311, 345, 348, 356, 364, 367, 383, 396, 409, 412, 428, 440, 452, 455, 462, 469, 472, 484, 496, 499, 511, 523, 526, 543, 560, 563, 575, 587, 590, 603, 616, 619, 635, 647, 659, 662, 674, 686, 689, 701, 713, 716, 728, 740, 743, 760, 777, 780, 796, 812, 815, 831, 847, 850, 857, 864, 867, 874, 881, 884, 901, 918, 921, 933, 945, 948, 964, 980, 983, 985, 987, 990, 997, 1004, 1007, 1019, 1031, 1034, 1042, 1050, 1053, 1069, 1092, 1115, 1118, 1133, 1150, 1167, 1170, 1182, 1194, 1197, 1213, 1229, 1232, 1239, 1246, 1249] 24 rfl
set_option maxRecDepth 100000 in
theorem r271_1092 (d : Nat) (x0 x4 s0 : Int) : Ev prog clsT X d mc271 1092 [(2, x0), (2, 0), (2, 89), (2, 158), (0, x4), (3, 0), (3, 0), (3, 0)] [(0, s0)] (mk E c s (hh g)) =
  ((aget X 100 ((mk E c s (hh g))) x0 ((w32 (x4 + 1)))).bind fun v1 =>
  (aget X 100 ((mk E c s (hh g))) x0 ((w32 (x4 + 2)))).bind fun v2 =>
  (aget X 100 ((mk E c s (hh g))) x0 ((w32 (x4 + 3)))).bind fun v3 =>
  (aget X 100 ((mk E c s (hh g))) x0 ((w32 (x4 + 4)))).bind fun v4 =>
  (Call prog clsT X d 238 [(2, 89), (0, v1), (0, v2), (0, v3), (0, v4)] ((mk E c s (hh g)))).bind fun r5 => if r5.1.1 = 4 then none else
  Ev prog clsT X d mc271 1115 [(2, x0), (2, 0), (2, 89), (2, 158), (0, x4), (0, s0), (3, 0), (3, 0)] (pushR r5.1 []) r5.2) :=
  (evk_at (r := ((aget X 100 ((mk E c s (hh g))) x0 ((w32 (x4 + 1)))).bind fun v1 =>
  (aget X 100 ((mk E c s (hh g))) x0 ((w32 (x4 + 2)))).bind fun v2 =>
  (aget X 100 ((mk E c s (hh g))) x0 ((w32 (x4 + 3)))).bind fun v3 =>
  (aget X 100 ((mk E c s (hh g))) x0 ((w32 (x4 + 4)))).bind fun v4 =>
  if (2 : Nat) = 2 ∧ rcv ((mk E c s (hh g))) 89 13 = true then
  ((Call prog clsT X d 238 [(2, 89), (0, v1), (0, v2), (0, v3), (0, v4)] ((mk E c s (hh g)))).bind fun r5 => if r5.1.1 = 4 then none else
  Ev prog clsT X d mc271 1115 [(2, x0), (2, 0), (2, 89), (2, 158), (0, x4), (0, s0), (3, 0), (3, 0)] (pushR r5.1 []) r5.2) else none)) X [0, 3, 7, 13, 24, 25, 51, 77, 80, 107, 134, 137, 190, 243, 246, 253, 260, 263, 265, 267, 270, 272, 274, 277, 311, 345, 348, 356, 364, 367, 383, 396, 409, 412, 428, 440, 452, 455, 462, 469, 472, 484, 496, 499, 511, 523, 526, 543, 560, 563, 575, 587, 590, 603, 616, 619, 635, 647, 659, 662, 674, 686, 689, 701, 713, 716, 728, 740, 743, 760, 777, 780, 796, 812, 815, 831, 847, 850, 857, 864, 867, 874, 881, 884, 901, 918, 921, 933, 945, 948, 964, 980, 983, 985, 987, 990, 997, 1004, 1007, 1019, 1031, 1034, 1042, 1050, 1053, 1069, 1092, 1115, 1118, 1133, 1150, 1167, 1170, 1182, 1194, 1197, 1213, 1229, 1232, 1239, 1246, 1249] 24 rfl).trans (by simp (maxSteps := 10000000) only [R89_13, bindI, Option.bind_some, if_true_, and_self, ite_true, true_and, true_or, or_true])
set_option maxRecDepth 100000 in
theorem r271_1115 (d : Nat) (x0 x4 x5 s0 : Int) : Ev prog clsT X d mc271 1115 [(2, x0), (2, 0), (2, 89), (2, 158), (0, x4), (0, x5), (3, 0), (3, 0)] [(1, s0)] (mk E c s (hh g)) =
  ((Call prog clsT X d 150 [(2, 89)] ((mk E c s (hh g)))).bind fun r1 => if r1.1.1 = 4 then none else
  Ev prog clsT X d mc271 1118 [(2, x0), (2, 0), (2, 89), (2, 158), (0, x4), (0, x5), (1, s0), (3, 0)] (pushR r1.1 []) r1.2) :=
  (evk_at (r := (if (2 : Nat) = 2 ∧ rcv ((mk E c s (hh g))) 89 13 = true then
  ((Call prog clsT X d 150 [(2, 89)] ((mk E c s (hh g)))).bind fun r1 => if r1.1.1 = 4 then none else
  Ev prog clsT X d mc271 1118 [(2, x0), (2, 0), (2, 89), (2, 158), (0, x4), (0, x5), (1, s0), (3, 0)] (pushR r1.1 []) r1.2) else none)) X [0, 3, 7, 13, 24, 25, 51, 77, 80, 107, 134, 137, 190, 243, 246, 253, 260, 263, 265, 267, 270, 272, 274, 277, 311, 345, 348, 356, 364, 367, 383, 396, 409, 412, 428, 440, 452, 455, 462, 469, 472, 484, 496, 499, 511, 523, 526, 543, 560, 563, 575, 587, 590, 603, 616, 619, 635, 647, 659, 662, 674, 686, 689, 701, 713, 716, 728, 740, 743, 760, 777, 780, 796, 812, 815, 831, 847, 850, 857, 864, 867, 874, 881, 884, 901, 918, 921, 933, 945, 948, 964, 980, 983, 985, 987, 990, 997, 1004, 1007, 1019, 1031, 1034, 1042, 1050, 1053, 1069, 1092, 1115, 1118, 1133, 1150, 1167, 1170, 1182, 1194, 1197, 1213, 1229, 1232, 1239, 1246, 1249] 4 rfl).trans (by simp (maxSteps := 10000000) only [R89_13, bindI, Option.bind_some, if_true_, and_self, ite_true, true_and, true_or, or_true])
set_option maxRecDepth 100000 in
theorem r271_1118 (d : Nat) (x0 x4 x5 x6 s0 : Int) : Ev prog clsT X d mc271 1118 [(2, x0), (2, 0), (2, 89), (2, 158), (0, x4), (0, x5), (1, x6), (3, 0)] [(0, s0)] (mk E c s (hh g)) =
  (if cmpI .eq s0 x5 = true then
  (if cmpI .ne x5 0 = true then
    (Ev prog clsT X d mc271 1249 [(2, x0), (2, 0), (2, 89), (2, 158), (0, x4), (0, x5), (1, x6), (3, 0)] [] (mk E c s (hh g)))
  else
    (if cmpI .eq ((lcmpI ((g 158 0)) x6)) 0 = true then
      (Ev prog clsT X d mc271 1249 [(2, x0), (2, 0), (2, 89), (2, 158), (0, x4), (0, x5), (1, x6), (3, 0)] [] (mk E c s (hh g)))
    else
      (some ((0, 0), ((mk E c s (hh g)))))))
else
  (some ((0, 0), ((mk E c s (hh g)))))) :=
  (evk_at (r := (if cmpI .eq s0 x5 = true then
  (if cmpI .ne x5 0 = true then
    (Ev prog clsT X d mc271 1249 [(2, x0), (2, 0), (2, 89), (2, 158), (0, x4), (0, x5), (1, x6), (3, 0)] [] (mk E c s (hh g)))
  else
    ((aget X 101 ((mk E c s (hh g))) 158 0).bind fun v1 =>
      if cmpI .eq ((lcmpI v1 x6)) 0 = true then
      (Ev prog clsT X d mc271 1249 [(2, x0), (2, 0), (2, 89), (2, 158), (0, x4), (0, x5), (1, x6), (3, 0)] [] (mk E c s (hh g)))
    else
      (some ((0, 0), (mk E c s (hh g))))))
else
  (some ((0, 0), (mk E c s (hh g)))))) X [0, 3, 7, 13, 24, 25, 51, 77, 80, 107, 134, 137, 190, 243, 246, 253, 260, 263, 265, 267, 270, 272, 274, 277, 311, 345, 348, 356, 364, 367, 383, 396, 409, 412, 428, 440, 452, 455, 462, 469, 472, 484, 496, 499, 511, 523, 526, 543, 560, 563, 575, 587, 590, 603, 616, 619, 635, 647, 659, 662, 674, 686, 689, 701, 713, 716, 728, 740, 743, 760, 777, 780, 796, 812, 815, 831, 847, 850, 857, 864, 867, 874, 881, 884, 901, 918, 921, 933, 945, 948, 964, 980, 983, 985, 987, 990, 997, 1004, 1007, 1019, 1031, 1034, 1042, 1050, 1053, 1069, 1092, 1115, 1118, 1133, 1150, 1167, 1170, 1182, 1194, 1197, 1213, 1229, 1232, 1239, 1246, 1249] 13 rfl).trans (by simp (maxSteps := 10000000) only [inbL 0 1 rfl, tn0, ↓A158, bindI, Option.bind_some, if_true_, and_self, ite_true, true_and, true_or, or_true])
set_option maxRecDepth 100000 in
theorem r271_1133 (d : Nat) (x0 x4 : Int) : Ev prog clsT X d mc271 1133 [(2, x0), (2, 0), (2, 89), (2, 158), (0, x4), (3, 0), (3, 0), (3, 0)] [] (mk E c s (hh g)) =
  ((aget X 100 ((mk E c s (hh g))) x0 ((w32 (x4 + 1)))).bind fun v1 =>
  (aget X 100 ((mk E c s (hh g))) x0 ((w32 (x4 + 2)))).bind fun v2 =>
  (aget X 100 ((mk E c s (hh g))) x0 ((w32 (x4 + 3)))).bind fun v3 =>
  (Call prog clsT X d 131 [(2, 0), (0, v1), (0, v2), (0, v3)] ((mk E c s (hh g)))).bind fun r4 => if r4.1.1 = 4 then none else
  Ev prog clsT X d mc271 1150 [(2, x0), (2, 0), (2, 89), (2, 158), (0, x4), (3, 0), (3, 0), (3, 0)] (pushR r4.1 []) r4.2) :=
  (evk_at (r := ((aget X 100 ((mk E c s (hh g))) x0 ((w32 (x4 + 1)))).bind fun v1 =>
  (aget X 100 ((mk E c s (hh g))) x0 ((w32 (x4 + 2)))).bind fun v2 =>
  (aget X 100 ((mk E c s (hh g))) x0 ((w32 (x4 + 3)))).bind fun v3 =>
  if (2 : Nat) = 2 ∧ rcv ((mk E c s (hh g))) 0 12 = true then
  ((Call prog clsT X d 131 [(2, 0), (0, v1), (0, v2), (0, v3)] ((mk E c s (hh g)))).bind fun r4 => if r4.1.1 = 4 then none else
  Ev prog clsT X d mc271 1150 [(2, x0), (2, 0), (2, 89), (2, 158), (0, x4), (3, 0), (3, 0), (3, 0)] (pushR r4.1 []) r4.2) else none)) X [0, 3, 7, 13, 24, 25, 51, 77, 80, 107, 134, 137, 190, 243, 246, 253, 260, 263, 265, 267, 270, 272, 274, 277, 311, 345, 348, 356, 364, 367, 383, 396, 409, 412, 428, 440, 452, 455, 462, 469, 472, 484, 496, 499, 511, 523, 526, 543, 560, 563, 575, 587, 590, 603, 616, 619, 635, 647, 659, 662, 674, 686, 689, 701, 713, 716, 728, 740, 743, 760, 777, 780, 796, 812, 815, 831, 847, 850, 857, 864, 867, 874, 881, 884, 901, 918, 921, 933, 945, 948, 964, 980, 983, 985, 987, 990, 997, 1004, 1007, 1019, 1031, 1034, 1042, 1050, 1053, 1069, 1092, 1115, 1118, 1133, 1150, 1167, 1170, 1182, 1194, 1197, 1213, 1229, 1232, 1239, 1246, 1249] 18 rfl).trans (by simp (maxSteps := 10000000) only [R0_12, bindI, Option.bind_some, if_true_, and_self, ite_true, true_and, true_or, or_true])
set_option maxRecDepth 100000 in
theorem r271_1150 (d : Nat) (x0 x4 s0 : Int) : Ev prog clsT X d mc271 1150 [(2, x0), (2, 0), (2, 89), (2, 158), (0, x4), (3, 0), (3, 0), (3, 0)] [(0, s0)] (mk E c s (hh g)) =
  ((aget X 100 ((mk E c s (hh g))) x0 ((w32 (x4 + 1)))).bind fun v1 =>
  (aget X 100 ((mk E c s (hh g))) x0 ((w32 (x4 + 2)))).bind fun v2 =>
  (aget X 100 ((mk E c s (hh g))) x0 ((w32 (x4 + 3)))).bind fun v3 =>
  (Call prog clsT X d 242 [(2, 89), (0, v1), (0, v2), (0, v3)] ((mk E c s (hh g)))).bind fun r4 => if r4.1.1 = 4 then none else
  Ev prog clsT X d mc271 1167 [(2, x0), (2, 0), (2, 89), (2, 158), (0, x4), (3, 0), (3, 0), (3, 0)] (pushR r4.1 [(0, s0)]) r4.2) :=
  (evk_at (r := ((aget X 100 ((mk E c s (hh g))) x0 ((w32 (x4 + 1)))).bind fun v1 =>
  (aget X 100 ((mk E c s (hh g))) x0 ((w32 (x4 + 2)))).bind fun v2 =>
  (aget X 100 ((mk E c s (hh g))) x0 ((w32 (x4 + 3)))).bind fun v3 =>
  if (2 : Nat) = 2 ∧ rcv ((mk E c s (hh g))) 89 13 = true then
  ((Call prog clsT X d 242 [(2, 89), (0, v1), (0, v2), (0, v3)] ((mk E c s (hh g)))).bind fun r4 => if r4.1.1 = 4 then none else
  Ev prog clsT X d mc271 1167 [(2, x0), (2, 0), (2, 89), (2, 158), (0, x4), (3, 0), (3, 0), (3, 0)] (pushR r4.1 [(0, s0)]) r4.2) else none)) X [0, 3, 7, 13, 24, 25, 51, 77, 80, 107, 134, 137, 190, 243, 246, 253, 260, 263, 265, 267, 270, 272, 274, 277, 311, 345, 348, 356, 364, 367, 383, 396, 409, 412, 428, 440, 452, 455, 462, 469, 472, 484, 496, 499, 511, 523, 526, 543, 560, 563, 575, 587, 590, 603, 616, 619, 635, 647, 659, 662, 674, 686, 689, 701, 713, 716, 728, 740, 743, 760, 777, 780, 796, 812, 815, 831, 847, 850, 857, 864, 867, 874, 881, 884, 901, 918, 921, 933, 945, 948, 964, 980, 983, 985, 987, 990, 997, 1004, 1007, 1019, 1031, 1034, 1042, 1050, 1053, 1069, 1092, 1115, 1118, 1133, 1150, 1167, 1170, 1182, 1194, 1197, 1213, 1229, 1232, 1239, 1246, 1249] 18 rfl).trans (by simp (maxSteps := 10000000) only [R89_13, bindI, Option.bind_some, if_true_, and_self, ite_true, true_and, true_or, or_true])
set_option maxRecDepth 100000 in
theorem r271_1167 (d : Nat) (x0 x4 s0 s1 : Int) : Ev prog clsT X d mc271 1167 [(2, x0), (2, 0), (2, 89), (2, 158), (0, x4), (3, 0), (3, 0), (3, 0)] [(0, s1), (0, s0)] (mk E c s (hh g)) =
  (if cmpI .eq s0 s1 = true then
  (Ev prog clsT X d mc271 1249 [(2, x0), (2, 0), (2, 89), (2, 158), (0, x4), (3, 0), (3, 0), (3, 0)] [] (mk E c s (hh g)))
else
  (some ((0, 0), ((mk E c s (hh g)))))) :=
  (evk_at (r := (if cmpI .eq s0 s1 = true then
  (Ev prog clsT X d mc271 1249 [(2, x0), (2, 0), (2, 89), (2, 158), (0, x4), (3, 0), (3, 0), (3, 0)] [] (mk E c s (hh g)))
else
  (some ((0, 0), (mk E c s (hh g)))))) X [0, 3, 7, 13, 24, 25, 51, 77, 80, 107, 134, 137, 190, 243, 246, 253, 260, 263, 265, 267, 270, 272, 274, 277, 311, 345, 348, 356, 364, 367, 383, 396, 409, 412, 428, 440, 452, 455, 462, 469, 472, 484, 496, 499, 511, 523, 526, 543, 560, 563, 575, 587, 590, 603, 616, 619, 635, 647, 659, 662, 674, 686, 689, 701, 713, 716, 728, 740, 743, 760, 777, 780, 796, 812, 815, 831, 847, 850, 857, 864, 867, 874, 881, 884, 901, 918, 921, 933, 945, 948, 964, 980, 983, 985, 987, 990, 997, 1004, 1007, 1019, 1031, 1034, 1042, 1050, 1053, 1069, 1092, 1115, 1118, 1133, 1150, 1167, 1170, 1182, 1194, 1197, 1213, 1229, 1232, 1239, 1246, 1249] 4 rfl).trans (by simp (maxSteps := 10000000) only [bindI, Option.bind_some, if_true_, and_self, ite_true, true_and, true_or, or_true])
set_option maxRecDepth 100000 in
theorem r271_1170 (d : Nat) (x0 x4 : Int) : Ev prog clsT X d mc271 1170 [(2, x0), (2, 0), (2, 89), (2, 158), (0, x4), (3, 0), (3, 0), (3, 0)] [] (mk E c s (hh g)) =
  ((aget X 100 ((mk E c s (hh g))) x0 ((w32 (x4 + 1)))).bind fun v1 =>
  (aget X 100 ((mk E c s (hh g))) x0 ((w32 (x4 + 2)))).bind fun v2 =>
  (Call prog clsT X d 132 [(2, 0), (0, v1), (0, v2)] ((mk E c s (hh g)))).bind fun r3 => if r3.1.1 = 4 then none else
  Ev prog clsT X d mc271 1182 [(2, x0), (2, 0), (2, 89), (2, 158), (0, x4), (3, 0), (3, 0), (3, 0)] (pushR r3.1 []) r3.2) :=
  (evk_at (r := ((aget X 100 ((mk E c s (hh g))) x0 ((w32 (x4 + 1)))).bind fun v1 =>
  (aget X 100 ((mk E c s (hh g))) x0 ((w32 (x4 + 2)))).bind fun v2 =>
  if (2 : Nat) = 2 ∧ rcv ((mk E c s (hh g))) 0 12 = true then
  ((Call prog clsT X d 132 [(2, 0), (0, v1), (0, v2)] ((mk E c s (hh g)))).bind fun r3 => if r3.1.1 = 4 then none else
  Ev prog clsT X d mc271 1182 [(2, x0), (2, 0), (2, 89), (2, 158), (0, x4), (3, 0), (3, 0), (3, 0)] (pushR r3.1 []) r3.2) else none)) X [0, 3, 7, 13, 24, 25, 51, 77, 80, 107, 134, 137, 190, 243, 246, 253, 260, 263, 265, 267, 270, 272, 274, 277, 311, 345, 348, 356, 364, 367, 383, 396, 409, 412, 428, 440, 452, 455, 462, 469, 472, 484, 496, 499, 511, 523, 526, 543, 560, 563, 575, 587, 590, 603, 616, 619, 635, 647, 659, 662, 674, 686, 689, 701, 713, 716, 728, 740, 743, 760, 777, 780, 796, 812, 815, 831, 847, 850, 857, 864, 867, 874, 881, 884, 901, 918, 921, 933, 945, 948, 964, 980, 983, 985, 987, 990, 997, 1004, 1007, 1019, 1031, 1034, 1042, 1050, 1053, 1069, 1092, 1115, 1118, 1133, 1150, 1167, 1170, 1182, 1194, 1197, 1213, 1229, 1232, 1239, 1246, 1249] 13 rfl).trans (by simp (maxSteps := 10000000) only [R0_12, bindI, Option.bind_some, if_true_, and_self, ite_true, true_and, true_or, or_true])
set_option maxRecDepth 100000 in
theorem r271_1182 (d : Nat) (x0 x4 s0 : Int) : Ev prog clsT X d mc271 1182 [(2, x0), (2, 0), (2, 89), (2, 158), (0, x4), (3, 0), (3, 0), (3, 0)] [(0, s0)] (mk E c s (hh g)) =
  ((aget X 100 ((mk E c s (hh g))) x0 ((w32 (x4 + 1)))).bind fun v1 =>
  (aget X 100 ((mk E c s (hh g))) x0 ((w32 (x4 + 2)))).bind fun v2 =>
  (Call prog clsT X d 243 [(2, 89), (0, v1), (0, v2)] ((mk E c s (hh g)))).bind fun r3 => if r3.1.1 = 4 then none else
  Ev prog clsT X d mc271 1194 [(2, x0), (2, 0), (2, 89), (2, 158), (0, x4), (3, 0), (3, 0), (3, 0)] (pushR r3.1 [(0, s0)]) r3.2) :=
  (evk_at (r := ((aget X 100 ((mk E c s (hh g))) x0 ((w32 (x4 + 1)))).bind fun v1 =>
  (aget X 100 ((mk E c s (hh g))) x0 ((w32 (x4 + 2)))).bind fun v2 =>
  if (2 : Nat) = 2 ∧ rcv ((mk E c s (hh g))) 89 13 = true then
  ((Call prog clsT X d 243 [(2, 89), (0, v1), (0, v2)] ((mk E c s (hh g)))).bind fun r3 => if r3.1.1 = 4 then none else
  Ev prog clsT X d mc271 1194 [(2, x0), (2, 0), (2, 89), (2, 158), (0, x4), (3, 0), (3, 0), (3, 0)] (pushR r3.1 [(0, s0)]) r3.2) else none)) X [0, 3, 7, 13, 24, 25, 51, 77, 80, 107, 134, 137, 190, 243, 246, 253, 260, 263, 265, 267, 270, 272, 274, 277, 311, 345, 348, 356, 364, 367, 383, 396, 409, 412, 428, 440, 452, 455, 462, 469, 472, 484, 496, 499, 511, 523, 526, 543, 560, 563, 575, 587, 590, 603, 616, 619, 635, 647, 659, 662, 674, 686, 689, 701, 713, 716, 728, 740, 743, 760, 777, 780, 796, 812, 815, 831, 847, 850, 857, 864, 867, 874, 881, 884, 901, 918, 921, 933, 945, 948, 964, 980, 983, 985, 987, 990, 997, 1004, 1007, 1019, 1031, 1034, 1042, 1050, 1053, 1069, 1092, 1115, 1118, 1133, 1150, 1167, 1170, 1182, 1194, 1197, 1213, 1229, 1232, 1239, 1246, 1249] 13 rfl).trans (by simp (maxSteps := 10000000) only [R89_13, bindI, Option.bind_some, if_true_, and_self, ite_true, true_and, true_or, or_true])
set_option maxRecDepth 100000 in
theorem r271_1194 (d : Nat) (x0 x4 s0 s1 : Int) : Ev prog clsT X d mc271 1194 [(2, x0), (2, 0), (2, 89), (2, 158), (0, x4), (3, 0), (3, 0), (3, 0)] [(0, s1), (0, s0)] (mk E c s (hh g)) =
  (if cmpI .eq s0 s1 = true then
  (Ev prog clsT X d mc271 1249 [(2, x0), (2, 0), (2, 89), (2, 158), (0, x4), (3, 0), (3, 0), (3, 0)] [] (mk E c s (hh g)))
else
  (some ((0, 0), ((mk E c s (hh g)))))) :=
  (evk_at (r := (if cmpI .eq s0 s1 = true then
  (Ev prog clsT X d mc271 1249 [(2, x0), (2, 0), (2, 89), (2, 158), (0, x4), (3, 0), (3, 0), (3, 0)] [] (mk E c s (hh g)))
else
  (some ((0, 0), (mk E c s (hh g)))))) X [0, 3, 7, 13, 24, 25, 51, 77, 80, 107, 134, 137, 190, 243, 246, 253, 260, 263, 265, 267, 270, 272, 274, 277, 311, 345, 348, 356, 364, 367, 383, 396, 409, 412, 428, 440, 452, 455, 462, 469, 472, 484, 496, 499, 511, 523, 526, 543, 560, 563, 575, 587, 590, 603, 616, 619, 635, 647, 659, 662, 674, 686, 689, 701, 713, 716, 728, 740, 743, 760, 777, 780, 796, 812, 815, 831, 847, 850, 857, 864, 867, 874, 881, 884, 901, 918, 921, 933, 945, 948, 964, 980, 983, 985, 987, 990, 997, 1004, 1007, 1019, 1031, 1034, 1042, 1050, 1053, 1069, 1092, 1115, 1118, 1133, 1150, 1167, 1170, 1182, 1194, 1197, 1213, 1229, 1232, 1239, 1246, 1249] 4 rfl).trans (by simp (maxSteps := 10000000) only [bindI, Option.bind_some, if_true_, and_self, ite_true, true_and, true_or, or_true])
set_option maxRecDepth 100000 in
theorem r271_1197 (d : Nat) (x0 x4 : Int) : Ev prog clsT X d mc271 1197 [(2, x0), (2, 0), (2, 89), (2, 158), (0, x4), (3, 0), (3, 0), (3, 0)] [] (mk E c s (hh g)) =
  ((aget X 100 ((mk E c s (hh g))) x0 ((w32 (x4 + 1)))).bind fun v1 =>
  (aget X 100 ((mk E c s (hh g))) x0 ((w32 (x4 + 2)))).bind fun v2 =>
  if cmpI .eq v2 0 = true then
  ((Call prog clsT X d 135 [(2, 0), (0, v1), (0, 0)] ((mk E c s (hh g)))).bind fun r3 => if r3.1.1 = 4 then none else
    Ev prog clsT X d mc271 1213 [(2, x0), (2, 0), (2, 89), (2, 158), (0, x4), (3, 0), (3, 0), (3, 0)] (pushR r3.1 []) r3.2)
else
  ((Call prog clsT X d 135 [(2, 0), (0, v1), (0, 1)] ((mk E c s (hh g)))).bind fun r4 => if r4.1.1 = 4 then none else
    Ev prog clsT X d mc271 1213 [(2, x0), (2, 0), (2, 89), (2, 158), (0, x4), (3, 0), (3, 0), (3, 0)] (pushR r4.1 []) r4.2)) :=
  (evk_at (r := ((aget X 100 ((mk E c s (hh g))) x0 ((w32 (x4 + 1)))).bind fun v1 =>
  (aget X 100 ((mk E c s (hh g))) x0 ((w32 (x4 + 2)))).bind fun v2 =>
  if cmpI .eq v2 0 = true then
  (if (2 : Nat) = 2 ∧ rcv ((mk E c s (hh g))) 0 12 = true then
    ((Call prog clsT X d 135 [(2, 0), (0, v1), (0, 0)] ((mk E c s (hh g)))).bind fun r3 => if r3.1.1 = 4 then none else
    Ev prog clsT X d mc271 1213 [(2, x0), (2, 0), (2, 89), (2, 158), (0, x4), (3, 0), (3, 0), (3, 0)] (pushR r3.1 []) r3.2) else none)
else
  (if (2 : Nat) = 2 ∧ rcv ((mk E c s (hh g))) 0 12 = true then
    ((Call prog clsT X d 135 [(2, 0), (0, v1), (0, 1)] ((mk E c s (hh g)))).bind fun r4 => if r4.1.1 = 4 then none else
    Ev prog clsT X d mc271 1213 [(2, x0), (2, 0), (2, 89), (2, 158), (0, x4), (3, 0), (3, 0), (3, 0)] (pushR r4.1 []) r4.2) else none))) X [0, 3, 7, 13, 24, 25, 51, 77, 80, 107, 134, 137, 190, 243, 246, 253, 260, 263, 265, 267, 270, 272, 274, 277, 311, 345, 348, 356, 364, 367, 383, 396, 409, 412, 428, 440, 452, 455, 462, 469, 472, 484, 496, 499, 511, 523, 526, 543, 560, 563, 575, 587, 590, 603, 616, 619, 635, 647, 659, 662, 674, 686, 689, 701, 713, 716, 728, 740, 743, 760, 777, 780, 796, 812, 815, 831, 847, 850, 857, 864, 867, 874, 881, 884, 901, 918, 921, 933, 945, 948, 964, 980, 983, 985, 987, 990, 997, 1004, 1007, 1019, 1031, 1034, 1042, 1050, 1053, 1069, 1092, 1115, 1118, 1133, 1150, 1167, 1170, 1182, 1194, 1197, 1213, 1229, 1232, 1239, 1246, 1249] 16 rfl).trans (by simp (maxSteps := 10000000) only [R0_12, bindI, Option.bind_some, if_true_, and_self, ite_true, true_and, true_or, or_true])
set_option maxRecDepth 100000 in
theorem r271_1213 (d : Nat) (x0 x4 s0 : Int) : Ev prog clsT X d mc271 1213 [(2, x0), (2, 0), (2, 89), (2, 158), (0, x4), (3, 0), (3, 0), (3, 0)] [(0, s0)] (mk E c s (hh g)) =
  ((aget X 100 ((mk E c s (hh g))) x0 ((w32 (x4 + 1)))).bind fun v1 =>
  (aget X 100 ((mk E c s (hh g))) x0 ((w32 (x4 + 2)))).bind fun v2 =>
  if cmpI .eq v2 0 = true then
  ((Call prog clsT X d 246 [(2, 89), (0, v1), (0, 0)] ((mk E c s (hh g)))).bind fun r3 => if r3.1.1 = 4 then none else
    Ev prog clsT X d mc271 1229 [(2, x0), (2, 0), (2, 89), (2, 158), (0, x4), (3, 0), (3, 0), (3, 0)] (pushR r3.1 [(0, s0)]) r3.2)
else
  ((Call prog clsT X d 246 [(2, 89), (0, v1), (0, 1)] ((mk E c s (hh g)))).bind fun r4 => if r4.1.1 = 4 then none else
    Ev prog clsT X d mc271 1229 [(2, x0), (2, 0), (2, 89), (2, 158), (0, x4), (3, 0), (3, 0), (3, 0)] (pushR r4.1 [(0, s0)]) r4.2)) :=
  (evk_at (r := ((aget X 100 ((mk E c s (hh g))) x0 ((w32 (x4 + 1)))).bind fun v1 =>
  (aget X 100 ((mk E c s (hh g))) x0 ((w32 (x4 + 2)))).bind fun v2 =>
  if cmpI .eq v2 0 = true then
  (if (2 : Nat) = 2 ∧ rcv ((mk E c s (hh g))) 89 13 = true then
    ((Call prog clsT X d 246 [(2, 89), (0, v1), (0, 0)] ((mk E c s (hh g)))).bind fun r3 => if r3.1.1 = 4 then none else
    Ev prog clsT X d mc271 1229 [(2, x0), (2, 0), (2, 89), (2, 158), (0, x4), (3, 0), (3, 0), (3, 0)] (pushR r3.1 [(0, s0)]) r3.2) else none)
else
  (if (2 : Nat) = 2 ∧ rcv ((mk E c s (hh g))) 89 13 = true then
    ((Call prog clsT X d 246 [(2, 89), (0, v1), (0, 1)] ((mk E c s (hh g)))).bind fun r4 => if r4.1.1 = 4 then none else
    Ev prog clsT X d mc271 1229 [(2, x0), (2, 0), (2, 89), (2, 158), (0, x4), (3, 0), (3, 0), (3, 0)] (pushR r4.1 [(0, s0)]) r4.2) else none))) X [0, 3, 7, 13, 24, 25, 51, 77, 80, 107, 134, 137, 190, 243, 246, 253, 260, 263, 265, 267, 270, 272, 274, 277, 311, 345, 348, 356, 364, 367, 383, 396, 409, 412, 428, 440, 452, 455, 462, 469, 472, 484, 496, 499, 511, 523, 526, 543, 560, 563, 575, 587, 590, 603, 616, 619, 635, 647, 659, 662, 674, 686, 689, 701, 713, 716, 728, 740, 743, 760, 777, 780, 796, 812, 815, 831, 847, 850, 857, 864, 867, 874, 881, 884, 901, 918, 921, 933, 945, 948, 964, 980, 983, 985, 987, 990, 997, 1004, 1007, 1019, 1031, 1034, 1042, 1050, 1053, 1069, 1092, 1115, 1118, 1133, 1150, 1167, 1170, 1182, 1194, 1197, 1213, 1229, 1232, 1239, 1246, 1249] 16 rfl).trans (by simp (maxSteps := 10000000) only [R89_13, bindI, Option.bind_some, if_true_, and_self, ite_true, true_and, true_or, or_true])
set_option maxRecDepth 100000 in
theorem r271_1229 (d : Nat) (x0 x4 s0 s1 : Int) : Ev prog clsT X d mc271 1229 [(2, x0), (2, 0), (2, 89), (2, 158), (0, x4), (3, 0), (3, 0), (3, 0)] [(0, s1), (0, s0)] (mk E c s (hh g)) =
  (if cmpI .eq s0 s1 = true then
  (Ev prog clsT X d mc271 1249 [(2, x0), (2, 0), (2, 89), (2, 158), (0, x4), (3, 0), (3, 0), (3, 0)] [] (mk E c s (hh g)))
else
  (some ((0, 0), ((mk E c s (hh g)))))) :=
  (evk_at (r := (if cmpI .eq s0 s1 = true then
  (Ev prog clsT X d mc271 1249 [(2, x0), (2, 0), (2, 89), (2, 158), (0, x4), (3, 0), (3, 0), (3, 0)] [] (mk E c s (hh g)))
else
  (some ((0, 0), (mk E c s (hh g)))))) X [0, 3, 7, 13, 24, 25, 51, 77, 80, 107, 134, 137, 190, 243, 246, 253, 260, 263, 265, 267, 270, 272, 274, 277, 311, 345, 348, 356, 364, 367, 383, 396, 409, 412, 428, 440, 452, 455, 462, 469, 472, 484, 496, 499, 511, 523, 526, 543, 560, 563, 575, 587, 590, 603, 616, 619, 635, 647, 659, 662, 674, 686, 689, 701, 713, 716, 728, 740, 743, 760, 777, 780, 796, 812, 815, 831, 847, 850, 857, 864, 867, 874, 881, 884, 901, 918, 921, 933, 945, 948, 964, 980, 983, 985, 987, 990, 997, 1004, 1007, 1019, 1031, 1034, 1042, 1050, 1053, 1069, 1092, 1115, 1118, 1133, 1150, 1167, 1170, 1182, 1194, 1197, 1213, 1229, 1232, 1239, 1246, 1249] 4 rfl).trans (by simp (maxSteps := 10000000) only [bindI, Option.bind_some, if_true_, and_self, ite_true, true_and, true_or, or_true])
set_option maxRecDepth 100000 in
theorem r271_1232 (d : Nat) (x0 x4 : Int) : Ev prog clsT X d mc271 1232 [(2, x0), (2, 0), (2, 89), (2, 158), (0, x4), (3, 0), (3, 0), (3, 0)] [] (mk E c s (hh g)) =
  ((aget X 100 ((mk E c s (hh g))) x0 ((w32 (x4 + 1)))).bind fun v1 =>
  (Call prog clsT X d 136 [(2, 0), (0, v1)] ((mk E c s (hh g)))).bind fun r2 => if r2.1.1 = 4 then none else
  Ev prog clsT X d mc271 1239 [(2, x0), (2, 0), (2, 89), (2, 158), (0, x4), (3, 0), (3, 0), (3, 0)] (pushR r2.1 []) r2.2) :=
  (evk_at (r := ((aget X 100 ((mk E c s (hh g))) x0 ((w32 (x4 + 1)))).bind fun v1 =>
  if (2 : Nat) = 2 ∧ rcv ((mk E c s (hh g))) 0 12 = true then
  ((Call prog clsT X d 136 [(2, 0), (0, v1)] ((mk E c s (hh g)))).bind fun r2 => if r2.1.1 = 4 then none else
  Ev prog clsT X d mc271 1239 [(2, x0), (2, 0), (2, 89), (2, 158), (0, x4), (3, 0), (3, 0), (3, 0)] (pushR r2.1 []) r2.2) else none)) X [0, 3, 7, 13, 24, 25, 51, 77, 80, 107, 134, 137, 190, 243, 246, 253, 260, 263, 265, 267, 270, 272, 274, 277, 311, 345, 348, 356, 364, 367, 383, 396, 409, 412, 428, 440, 452, 455, 462, 469, 472, 484, 496, 499, 511, 523, 526, 543, 560, 563, 575, 587, 590, 603, 616, 619, 635, 647, 659, 662, 674, 686, 689, 701, 713, 716, 728, 740, 743, 760, 777, 780, 796, 812, 815, 831, 847, 850, 857, 864, 867, 874, 881, 884, 901, 918, 921, 933, 945, 948, 964, 980, 983, 985, 987, 990, 997, 1004, 1007, 1019, 1031, 1034, 1042, 1050, 1053, 1069, 1092, 1115, 1118, 1133, 1150, 1167, 1170, 1182, 1194, 1197, 1213, 1229, 1232, 1239, 1246, 1249] 8 rfl).trans (by simp (maxSteps := 10000000) only [R0_12, bindI, Option.bind_some, if_true_, and_self, ite_true, true_and, true_or, or_true])
set_option maxRecDepth 100000 in
theorem r271_1239 (d : Nat) (x0 x4 s0 : Int) : Ev prog clsT X d mc271 1239 [(2, x0), (2, 0), (2, 89), (2, 158), (0, x4), (3, 0), (3, 0), (3, 0)] [(0, s0)] (mk E c s (hh g)) =
  ((aget X 100 ((mk E c s (hh g))) x0 ((w32 (x4 + 1)))).bind fun v1 =>
  (Call prog clsT X d 247 [(2, 89), (0, v1)] ((mk E c s (hh g)))).bind fun r2 => if r2.1.1 = 4 then none else
  Ev prog clsT X d mc271 1246 [(2, x0), (2, 0), (2, 89), (2, 158), (0, x4), (3, 0), (3, 0), (3, 0)] (pushR r2.1 [(0, s0)]) r2.2) :=
  (evk_at (r := ((aget X 100 ((mk E c s (hh g))) x0 ((w32 (x4 + 1)))).bind fun v1 =>
  if (2 : Nat) = 2 ∧ rcv ((mk E c s (hh g))) 89 13 = true then
  ((Call prog clsT X d 247 [(2, 89), (0, v1)] ((mk E c s (hh g)))).bind fun r2 => if r2.1.1 = 4 then none else
  Ev prog clsT X d mc271 1246 [(2, x0), (2, 0), (2, 89), (2, 158), (0, x4), (3, 0), (3, 0), (3, 0)] (pushR r2.1 [(0, s0)]) r2.2) else none)) X [0, 3, 7, 13, 24, 25, 51, 77, 80, 107, 134, 137, 190, 243, 246, 253, 260, 263, 265, 267, 270, 272, 274, 277, 311, 345, 348, 356, 364, 367, 383, 396, 409, 412, 428, 440, 452, 455, 462, 469, 472, 484, 496, 499, 511, 523, 526, 543, 560, 563, 575, 587, 590, 603, 616, 619, 635, 647, 659, 662, 674, 686, 689, 701, 713, 716, 728, 740, 743, 760, 777, 780, 796, 812, 815, 831, 847, 850, 857, 864, 867, 874, 881, 884, 901, 918, 921, 933, 945, 948, 964, 980, 983, 985, 987, 990, 997, 1004, 1007, 1019, 1031, 1034, 1042, 1050, 1053, 1069, 1092, 1115, 1118, 1133, 1150, 1167, 1170, 1182, 1194, 1197, 1213, 1229, 1232, 1239, 1246, 1249] 8 rfl).trans (by simp (maxSteps := 10000000) only [R89_13, bindI, Option.bind_some, if_true_, and_self, ite_true, true_and, true_or, or_true])
set_option maxRecDepth 100000 in
theorem r271_1246 (d : Nat) (x0 x4 s0 s1 : Int) : Ev prog clsT X d mc271 1246 [(2, x0), (2, 0), (2, 89), (2, 158), (0, x4), (3, 0), (3, 0), (3, 0)] [(0, s1), (0, s0)] (mk E c s (hh g)) =
  (if cmpI .eq s0 s1 = true then
  (Ev prog clsT X d mc271 1249 [(2, x0), (2, 0), (2, 89), (2, 158), (0, x4), (3, 0), (3, 0), (3, 0)] [] (mk E c s (hh g)))
else
  (some ((0, 0), ((mk E c s (hh g)))))) :=
  (evk_at (r := (if cmpI .eq s0 s1 = true then
  (Ev prog clsT X d mc271 1249 [(2, x0), (2, 0), (2, 89), (2, 158), (0, x4), (3, 0), (3, 0), (3, 0)] [] (mk E c s (hh g)))
else
  (some ((0, 0), (mk E c s (hh g)))))) X [0, 3, 7, 13, 24, 25, 51, 77, 80, 107, 134, 137, 190, 243, 246, 253, 260, 263, 265, 267, 270, 272, 274, 277, 311, 345, 348, 356, 364, 367, 383, 396, 409, 412, 428, 440, 452, 455, 462, 469, 472, 484, 496, 499, 511, 523, 526, 543, 560, 563, 575, 587, 590, 603, 616, 619, 635, 647, 659, 662, 674, 686, 689, 701, 713, 716, 728, 740, 743, 760, 777, 780, 796, 812, 815, 831, 847, 850, 857, 864, 867, 874, 881, 884, 901, 918, 921, 933, 945, 948, 964, 980, 983, 985, 987, 990, 997, 1004, 1007, 1019, 1031, 1034, 1042, 1050, 1053, 1069, 1092, 1115, 1118, 1133, 1150, 1167, 1170, 1182, 1194, 1197, 1213, 1229, 1232, 1239, 1246, 1249] 4 rfl).trans (by simp (maxSteps := 10000000) only [bindI, Option.bind_some, if_true_, and_self, ite_true, true_and, true_or, or_true])
set_option maxRecDepth 100000 in
theorem r271_1249 (d : Nat) (x0 x4 : Int) (w5 w6 : MV) : Ev prog clsT X d mc271 1249 [(2, x0), (2, 0), (2, 89), (2, 158), (0, x4), w5, w6, (3, 0)] [] (mk E c s (hh g)) =
  (Ev prog clsT X d mc271 13 [(2, x0), (2, 0), (2, 89), (2, 158), (0, (w32 (x4 + 7))), w5, w6, (3, 0)] [] (mk E c s (hh g))) :=
  evk_at X [0, 3, 7, 13, 24, 25, 51, 77, 80, 107, 134, 137, 190, 243, 246, 253, 260, 263, 265, 267, 270, 272, 274, 277, 311, 345, 348, 356, 364, 367, 383, 396, 409, 412, 428, 440, 452, 455, 462, 469, 472, 484, 496, 499, 511, 523, 526, 543, 560, 563, 575, 587, 590, 603, 616, 619, 635, 647, 659, 662, 674, 686, 689, 701, 713, 716, 728, 740, 743, 760, 777, 780, 796, 812, 815, 831, 847, 850, 857, 864, 867, 874, 881, 884, 901, 918, 921, 933, 945, 948, 964, 980, 983, 985, 987, 990, 997, 1004, 1007, 1019, 1031, 1034, 1042, 1050, 1053, 1069, 1092, 1115, 1118, 1133, 1150, 1167, 1170, 1182, 1194, 1197, 1213, 1229, 1232, 1239, 1246, 1249] 4 rfl
end
