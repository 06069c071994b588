/-! Part 51.r2: printed by wip/whole/emit6.py: equations with the fixed cells put in. -/
section
variable (X : MExt) (E : List (Nat × Nat)) (c s : Nat) (g : Nat → Nat → Int)
theorem r146_0 (d : Nat) (x1 x2 x3 x4 : Int) : Ev prog clsT X d mc146 0 [(2, 0), (0, x1), (0, x2), (2, x3), (0, x4), (3, 0), (3, 0), (3, 0), (3, 0), (3, 0), (3, 0)] [] (mk E c s (hh g)) =
  (Ev prog clsT X d mc146 2 [(2, 0), (0, x1), (0, x2), (2, x3), (0, x4), (0, 0), (3, 0), (3, 0), (3, 0), (3, 0), (3, 0)] [] (mk E c s (hh g))) :=
  evk_at X [0, 2, 11, 16] 4 rfl
theorem rc146_ (d : Nat) (x1 x2 x3 x4 : Int) : Call prog clsT X (d + 1) 146 [(2, 0), (0, x1), (0, x2), (2, x3), (0, x4)] (mk E c s (hh g)) =
  (Ev prog clsT X d mc146 2 [(2, 0), (0, x1), (0, x2), (2, x3), (0, x4), (0, 0), (3, 0), (3, 0), (3, 0), (3, 0), (3, 0)] [] (mk E c s (hh g))) :=
  (show Call prog clsT X (d + 1) 146 [(2, 0), (0, x1), (0, x2), (2, x3), (0, x4)] (mk E c s (hh g)) = Ev prog clsT X d mc146 0 [(2, 0), (0, x1), (0, x2), (2, x3), (0, x4), (3, 0), (3, 0), (3, 0), (3, 0), (3, 0), (3, 0)] [] (mk E c s (hh g)) from rfl).trans (r146_0 X E c s g d x1 x2 x3 x4 )
theorem r146_2 (d : Nat) (x1 x2 x3 x4 x5 : Int) (w6 w7 w8 w9 w10 : MV) : Ev prog clsT X d mc146 2 [(2, 0), (0, x1), (0, x2), (2, x3), (0, x4), (0, x5), w6, w7, w8, w9, w10] [] (mk E c s (hh g)) =
  (if cmpI .gt x5 x4 = true then
  (some ((3, 0), ((mk E c s (hh g)))))
else
  ((Call prog clsT X d 147 [(2, 0), (0, x1), (0, x2), (2, x3), (0, x5)] ((mk E c s (hh g)))).bind fun r1 => if r1.1.1 = 4 then none else
    Ev prog clsT X d mc146 11 [(2, 0), (0, x1), (0, x2), (2, x3), (0, x4), (0, x5), (3, 0), (3, 0), (3, 0), (3, 0), (3, 0)] (pushR r1.1 []) r1.2)) :=
  (evk_at (r := (if cmpI .gt x5 x4 = true then
  (some ((3, 0), (mk E c s (hh g))))
else
  (if (2 : Nat) = 2 ∧ rcv ((mk E c s (hh g))) 0 12 = true then
    ((Call prog clsT X d 147 [(2, 0), (0, x1), (0, x2), (2, x3), (0, x5)] ((mk E c s (hh g)))).bind fun r1 => if r1.1.1 = 4 then none else
    Ev prog clsT X d mc146 11 [(2, 0), (0, x1), (0, x2), (2, x3), (0, x4), (0, x5), (3, 0), (3, 0), (3, 0), (3, 0), (3, 0)] (pushR r1.1 []) r1.2) else none))) X [0, 2, 11, 16] 10 rfl).trans (by simp (disch := decide) only [R0_12, bindI, Option.bind_some, if_true_, and_self, ite_true, true_and, true_or, or_true])
theorem r146_11 (d : Nat) (x1 x2 x3 x4 x5 s0 : Int) : Ev prog clsT X d mc146 11 [(2, 0), (0, x1), (0, x2), (2, x3), (0, x4), (0, x5), (3, 0), (3, 0), (3, 0), (3, 0), (3, 0)] [(1, s0)] (mk E c s (hh g)) =
  (Ev prog clsT X d mc146 16 [(2, 0), (0, x1), (0, x2), (2, x3), (0, x4), (0, x5), (1, s0), (3, 0), (0, x5), (0, 0), (3, 0)] [] (mk E c s (hh g))) :=
  evk_at X [0, 2, 11, 16] 7 rfl
theorem r147_0 (d : Nat) (x1 x2 x3 x4 : Int) : Ev prog clsT X d mc147 0 [(2, 0), (0, x1), (0, x2), (2, x3), (0, x4)] [] (mk E c s (hh g)) =
  (if cmpI .ne x4 0 = true then
  ((Call prog clsT X d 262 [(0, x4)] ((mk E c s (hh g)))).bind fun r1 => if r1.1.1 = 4 then none else
    Ev prog clsT X d mc147 6 [(2, 0), (0, x1), (0, x2), (2, x3), (0, x4)] (pushR r1.1 []) r1.2)
else
  (some ((1, 0), ((mk E c s (hh g)))))) :=
  (evk_at (r := (if cmpI .ne x4 0 = true then
  ((Call prog clsT X d 262 [(0, x4)] ((mk E c s (hh g)))).bind fun r1 => if r1.1.1 = 4 then none else
    Ev prog clsT X d mc147 6 [(2, 0), (0, x1), (0, x2), (2, x3), (0, x4)] (pushR r1.1 []) r1.2)
else
  (some ((1, 0), (mk E c s (hh g)))))) X [0, 6, 17, 19, 29, 32, 38, 45] 5 rfl).trans (by simp (disch := decide) only [bindI, Option.bind_some, if_true_, and_self, ite_true, true_and, true_or, or_true])
theorem rc147_ (d : Nat) (x1 x2 x3 x4 : Int) : Call prog clsT X (d + 1) 147 [(2, 0), (0, x1), (0, x2), (2, x3), (0, x4)] (mk E c s (hh g)) =
  (if cmpI .ne x4 0 = true then
  ((Call prog clsT X d 262 [(0, x4)] ((mk E c s (hh g)))).bind fun r1 => if r1.1.1 = 4 then none else
    Ev prog clsT X d mc147 6 [(2, 0), (0, x1), (0, x2), (2, x3), (0, x4)] (pushR r1.1 []) r1.2)
else
  (some ((1, 0), ((mk E c s (hh g)))))) :=
  (show Call prog clsT X (d + 1) 147 [(2, 0), (0, x1), (0, x2), (2, x3), (0, x4)] (mk E c s (hh g)) = Ev prog clsT X d mc147 0 [(2, 0), (0, x1), (0, x2), (2, x3), (0, x4)] [] (mk E c s (hh g)) from rfl).trans (r147_0 X E c s g d x1 x2 x3 x4 )
theorem r147_6 (d : Nat) (x1 x2 x3 x4 s0 : Int) : Ev prog clsT X d mc147 6 [(2, 0), (0, x1), (0, x2), (2, x3), (0, x4)] [(0, s0)] (mk E c s (hh g)) =
  (if cmpI .le s0 8 = true then
  ((Call prog clsT X d 148 [(2, 0), (0, x4)] ((mk E c s (hh g)))).bind fun r1 => if r1.1.1 = 4 then none else
    Ev prog clsT X d mc147 17 [(2, 0), (0, x1), (0, x2), (2, x3), (0, x4)] (pushR r1.1 [(2, 1), (2, 27)]) r1.2)
else
  (some ((1, (-4611686018427387904)), ((mk E c s (hh g)))))) :=
  (evk_at (r := (if cmpI .le s0 8 = true then
  ((fget 5654 ((mk E c s (hh g))) 0).bind fun v1 =>
    (fget 5634 ((mk E c s (hh g))) 0).bind fun v2 =>
    if (2 : Nat) = 2 ∧ rcv ((mk E c s (hh g))) 0 12 = true then
    ((Call prog clsT X d 148 [(2, 0), (0, x4)] ((mk E c s (hh g)))).bind fun r3 => if r3.1.1 = 4 then none else
    Ev prog clsT X d mc147 17 [(2, 0), (0, x1), (0, x2), (2, x3), (0, x4)] (pushR r3.1 [(2, v2), (2, v1)]) r3.2) else none)
else
  (some ((1, (-4611686018427387904)), (mk E c s (hh g)))))) X [0, 6, 17, 19, 29, 32, 38, 45] 10 rfl).trans (by simp (disch := decide) only [F5634_0, F5654_0, R0_12, bindI, Option.bind_some, if_true_, and_self, ite_true, true_and, true_or, or_true])
theorem r147_17 (d : Nat) (x1 x2 x3 x4 s2 : Int) : Ev prog clsT X d mc147 17 [(2, 0), (0, x1), (0, x2), (2, x3), (0, x4)] [(1, s2), (2, 1), (2, 27)] (mk E c s (hh g)) =
  ((Call prog clsT X d 76 [(2, 27), (2, 1), (1, s2), (2, x3)] ((mk E c s (hh g)))).bind fun r1 => if r1.1.1 = 4 then none else
  Ev prog clsT X d mc147 19 [(2, 0), (0, x1), (0, x2), (2, x3), (0, x4)] (pushR r1.1 []) r1.2) :=
  (evk_at (r := (if (2 : Nat) = 2 ∧ rcv ((mk E c s (hh g))) 27 9 = true then
  ((Call prog clsT X d 76 [(2, 27), (2, 1), (1, s2), (2, x3)] ((mk E c s (hh g)))).bind fun r1 => if r1.1.1 = 4 then none else
  Ev prog clsT X d mc147 19 [(2, 0), (0, x1), (0, x2), (2, x3), (0, x4)] (pushR r1.1 []) r1.2) else none)) X [0, 6, 17, 19, 29, 32, 38, 45] 3 rfl).trans (by simp (disch := decide) only [R27_9, bindI, Option.bind_some, if_true_, and_self, ite_true, true_and, true_or, or_true])
theorem r147_19 (d : Nat) (x1 x2 x3 x4 : Int) : Ev prog clsT X d mc147 19 [(2, 0), (0, x1), (0, x2), (2, x3), (0, x4)] [] (mk E c s (hh g)) =
  ((Call prog clsT X d 23 [(2, 30), (0, x1), (0, x2)] ((mk E c s (hh g)))).bind fun r1 => if r1.1.1 = 4 then none else
  Ev prog clsT X d mc147 29 [(2, 0), (0, x1), (0, x2), (2, x3), (0, x4)] (pushR r1.1 [(0, x1), (2, 1), (2, 27)]) r1.2) :=
  (evk_at (r := ((fget 5654 ((mk E c s (hh g))) 0).bind fun v1 =>
  (fget 5634 ((mk E c s (hh g))) 0).bind fun v2 =>
  (fget 5658 ((mk E c s (hh g))) 0).bind fun v3 =>
  if (2 : Nat) = 2 ∧ rcv ((mk E c s (hh g))) v3 3 = true then
  ((Call prog clsT X d 23 [(2, v3), (0, x1), (0, x2)] ((mk E c s (hh g)))).bind fun r4 => if r4.1.1 = 4 then none else
  Ev prog clsT X d mc147 29 [(2, 0), (0, x1), (0, x2), (2, x3), (0, x4)] (pushR r4.1 [(0, x1), (2, v2), (2, v1)]) r4.2) else none)) X [0, 6, 17, 19, 29, 32, 38, 45] 11 rfl).trans (by simp (disch := decide) only [F5634_0, F5654_0, F5658_0, R30_3, bindI, Option.bind_some, if_true_, and_self, ite_true, true_and, true_or, or_true])
theorem r147_29 (d : Nat) (x1 x2 x3 x4 s2 s3 : Int) : Ev prog clsT X d mc147 29 [(2, 0), (0, x1), (0, x2), (2, x3), (0, x4)] [(0, s3), (0, s2), (2, 1), (2, 27)] (mk E c s (hh g)) =
  ((Call prog clsT X d 77 [(2, 27), (2, 1), (0, s2), (0, (w32 (s3 + 1)))] ((mk E c s (hh g)))).bind fun r1 => if r1.1.1 = 4 then none else
  Ev prog clsT X d mc147 32 [(2, 0), (0, x1), (0, x2), (2, x3), (0, x4)] (pushR r1.1 []) r1.2) :=
  (evk_at (r := (if (2 : Nat) = 2 ∧ rcv ((mk E c s (hh g))) 27 9 = true then
  ((Call prog clsT X d 77 [(2, 27), (2, 1), (0, s2), (0, (w32 (s3 + 1)))] ((mk E c s (hh g)))).bind fun r1 => if r1.1.1 = 4 then none else
  Ev prog clsT X d mc147 32 [(2, 0), (0, x1), (0, x2), (2, x3), (0, x4)] (pushR r1.1 []) r1.2) else none)) X [0, 6, 17, 19, 29, 32, 38, 45] 4 rfl).trans (by simp (disch := decide) only [R27_9, bindI, Option.bind_some, if_true_, and_self, ite_true, true_and, true_or, or_true])
theorem r147_32 (d : Nat) (x1 x2 x3 x4 : Int) : Ev prog clsT X d mc147 32 [(2, 0), (0, x1), (0, x2), (2, x3), (0, x4)] [] (mk E c s (hh g)) =
  ((Call prog clsT X d 72 [(2, 27), (2, x3), (2, (g 0 3))] ((mk E c s (hh g)))).bind fun r1 => if r1.1.1 = 4 then none else
  Ev prog clsT X d mc147 38 [(2, 0), (0, x1), (0, x2), (2, x3), (0, x4)] (pushR r1.1 []) r1.2) :=
  (evk_at (r := ((fget 5654 ((mk E c s (hh g))) 0).bind fun v1 =>
  (fget 5646 ((mk E c s (hh g))) 0).bind fun v2 =>
  if (2 : Nat) = 2 ∧ rcv ((mk E c s (hh g))) v1 9 = true then
  ((Call prog clsT X d 72 [(2, v1), (2, x3), (2, v2)] ((mk E c s (hh g)))).bind fun r3 => if r3.1.1 = 4 then none else
  Ev prog clsT X d mc147 38 [(2, 0), (0, x1), (0, x2), (2, x3), (0, x4)] (pushR r3.1 []) r3.2) else none)) X [0, 6, 17, 19, 29, 32, 38, 45] 7 rfl).trans (by simp (disch := decide) only [F5646_0, F5654_0, R27_9, bindI, Option.bind_some, if_true_, and_self, ite_true, true_and, true_or, or_true])
theorem r147_38 (d : Nat) (x1 x2 x3 x4 s0 : Int) : Ev prog clsT X d mc147 38 [(2, 0), (0, x1), (0, x2), (2, x3), (0, x4)] [(0, s0)] (mk E c s (hh g)) =
  (if cmpI .ne s0 ((-1)) = true then
  (some ((1, (-4611686018427387904)), ((mk E c s (hh g)))))
else
  ((Call prog clsT X d 74 [(2, 27), (2, x3), (0, 6)] ((mk E c s (hh g)))).bind fun r1 => if r1.1.1 = 4 then none else
    Ev prog clsT X d mc147 45 [(2, 0), (0, x1), (0, x2), (2, x3), (0, x4)] (pushR r1.1 []) r1.2)) :=
  (evk_at (r := (if cmpI .ne s0 ((-1)) = true then
  (some ((1, (-4611686018427387904)), (mk E c s (hh g))))
else
  ((fget 5654 ((mk E c s (hh g))) 0).bind fun v1 =>
    if (2 : Nat) = 2 ∧ rcv ((mk E c s (hh g))) v1 9 = true then
    ((Call prog clsT X d 74 [(2, v1), (2, x3), (0, 6)] ((mk E c s (hh g)))).bind fun r2 => if r2.1.1 = 4 then none else
    Ev prog clsT X d mc147 45 [(2, 0), (0, x1), (0, x2), (2, x3), (0, x4)] (pushR r2.1 []) r2.2) else none))) X [0, 6, 17, 19, 29, 32, 38, 45] 8 rfl).trans (by simp (disch := decide) only [F5654_0, R27_9, bindI, Option.bind_some, if_true_, and_self, ite_true, true_and, true_or, or_true])
theorem r147_45 (d : Nat) (x1 x2 x3 x4 s0 : Int) : Ev prog clsT X d mc147 45 [(2, 0), (0, x1), (0, x2), (2, x3), (0, x4)] [(0, s0)] (mk E c s (hh g)) =
  (some ((1, s0), ((mk E c s (hh g))))) :=
  (evk_at (r := (some ((1, s0), (mk E c s (hh g))))) X [0, 6, 17, 19, 29, 32, 38, 45] 4 rfl).trans (by simp (disch := decide) only [bindI, Option.bind_some, if_true_, and_self, ite_true, true_and, true_or, or_true])
theorem r148_0 (d : Nat) (x1 : Int) : Ev prog clsT X d mc148 0 [(2, 0), (0, x1), (3, 0), (3, 0), (3, 0)] [] (mk E c s (hh g)) =
  (Ev prog clsT X d mc148 4 [(2, 0), (0, x1), (1, 0), (3, 0), (0, 0)] [] (mk E c s (hh g))) :=
  evk_at X [0, 4] 6 rfl
theorem rc148_ (d : Nat) (x1 : Int) : Call prog clsT X (d + 1) 148 [(2, 0), (0, x1)] (mk E c s (hh g)) =
  (Ev prog clsT X d mc148 4 [(2, 0), (0, x1), (1, 0), (3, 0), (0, 0)] [] (mk E c s (hh g))) :=
  (show Call prog clsT X (d + 1) 148 [(2, 0), (0, x1)] (mk E c s (hh g)) = Ev prog clsT X d mc148 0 [(2, 0), (0, x1), (3, 0), (3, 0), (3, 0)] [] (mk E c s (hh g)) from rfl).trans (r148_0 X E c s g d x1 )
theorem r148_4 (d : Nat) (x1 x2 x4 : Int) (w3 : MV) : Ev prog clsT X d mc148 4 [(2, 0), (0, x1), (1, x2), w3, (0, x4)] [] (mk E c s (hh g)) =
  (if cmpI .ge x4 10 = true then
  (some ((1, x2), ((mk E c s (hh g)))))
else
  (if cmpI .eq ((iand32 ((ishr32 x1 x4)) 1)) 0 = true then
    (Ev prog clsT X d mc148 4 [(2, 0), (0, x1), (1, (lor64 x2 0)), (3, 0), (0, (w32 (x4 + 1)))] [] (mk E c s (hh g)))
  else
    (if inb x4 10 = true then
      (Ev prog clsT X d mc148 4 [(2, 0), (0, x1), (1, (lor64 x2 ((lshl64 1 ((g 86 (Int.toNat x4))))))), (3, 0), (0, (w32 (x4 + 1)))] [] (mk E c s (hh g)))
    else none))) :=
  (evk_at (r := (if cmpI .ge x4 10 = true then
  (some ((1, x2), (mk E c s (hh g))))
else
  (if cmpI .eq ((iand32 ((ishr32 x1 x4)) 1)) 0 = true then
    (Ev prog clsT X d mc148 4 [(2, 0), (0, x1), (1, (lor64 x2 0)), (3, 0), (0, (w32 (x4 + 1)))] [] (mk E c s (hh g)))
  else
    ((fget 5686 ((mk E c s (hh g))) 0).bind fun v1 =>
      (aget X 100 ((mk E c s (hh g))) v1 x4).bind fun v2 =>
      Ev prog clsT X d mc148 4 [(2, 0), (0, x1), (1, (lor64 x2 ((lshl64 1 v2)))), (3, 0), (0, (w32 (x4 + 1)))] [] (mk E c s (hh g)))))) X [0, 4] 23 rfl).trans (by simp (disch := decide) only [A86, F5686_0, bindI, Option.bind_some, if_true_, and_self, ite_true, true_and, true_or, or_true])
theorem r150_0 (d : Nat) : Ev prog clsT X d mc150 0 [(2, 89)] [] (mk E c s (hh g)) =
  (some ((0, (g 89 0)), ((mk E c s (hh g))))) :=
  (evk_at (r := ((fget 6144 ((mk E c s (hh g))) 89).bind fun v1 =>
  some ((0, v1), (mk E c s (hh g))))) X [0] 4 rfl).trans (by simp (disch := decide) only [F6144_89, bindI, Option.bind_some, if_true_, and_self, ite_true, true_and, true_or, or_true])
theorem rc150_ (d : Nat) : Call prog clsT X (d + 1) 150 [(2, 89)] (mk E c s (hh g)) =
  (some ((0, (g 89 0)), ((mk E c s (hh g))))) :=
  (show Call prog clsT X (d + 1) 150 [(2, 89)] (mk E c s (hh g)) = Ev prog clsT X d mc150 0 [(2, 89)] [] (mk E c s (hh g)) from rfl).trans (r150_0 X E c s g d  )
theorem r151_0 (d : Nat) (x1 x2 x3 x4 : Int) : Ev prog clsT X d mc151 0 [(2, 89), (0, x1), (0, x2), (0, x3), (0, x4)] [] (mk E c s (hh g)) =
  ((Call prog clsT X d 152 [(0, x1), (0, 0), (0, 9)] ((mk E c s (hh (up g 89 0 0))))).bind fun r1 => if r1.1.1 = 4 then none else
  Ev prog clsT X d mc151 7 [(2, 89), (0, x1), (0, x2), (0, x3), (0, x4)] (pushR r1.1 []) r1.2) :=
  (evk_at (r := ((fput 6144 ((mk E c s (hh g))) 89 0).bind fun M1 =>
  (Call prog clsT X d 152 [(0, x1), (0, 0), (0, 9)] M1).bind fun r2 => if r2.1.1 = 4 then none else
  Ev prog clsT X d mc151 7 [(2, 89), (0, x1), (0, x2), (0, x3), (0, x4)] (pushR r2.1 []) r2.2)) X [0, 7, 12, 17] 8 rfl).trans (by simp (disch := decide) only [W6144_89, bindI, Option.bind_some, if_true_, and_self, ite_true, true_and, true_or, or_true])
theorem rc151_ (d : Nat) (x1 x2 x3 x4 : Int) : Call prog clsT X (d + 1) 151 [(2, 89), (0, x1), (0, x2), (0, x3), (0, x4)] (mk E c s (hh g)) =
  ((Call prog clsT X d 152 [(0, x1), (0, 0), (0, 9)] ((mk E c s (hh (up g 89 0 0))))).bind fun r1 => if r1.1.1 = 4 then none else
  Ev prog clsT X d mc151 7 [(2, 89), (0, x1), (0, x2), (0, x3), (0, x4)] (pushR r1.1 []) r1.2) :=
  (show Call prog clsT X (d + 1) 151 [(2, 89), (0, x1), (0, x2), (0, x3), (0, x4)] (mk E c s (hh g)) = Ev prog clsT X d mc151 0 [(2, 89), (0, x1), (0, x2), (0, x3), (0, x4)] [] (mk E c s (hh g)) from rfl).trans (r151_0 X E c s g d x1 x2 x3 x4 )
theorem r151_7 (d : Nat) (x1 x2 x3 x4 s0 : Int) : Ev prog clsT X d mc151 7 [(2, 89), (0, x1), (0, x2), (0, x3), (0, x4)] [(0, s0)] (mk E c s (hh g)) =
  (if cmpI .eq s0 0 = true then
  (some ((0, 0), ((mk E c s (hh g)))))
else
  ((Call prog clsT X d 152 [(0, x2), (0, 0), (0, 5)] ((mk E c s (hh g)))).bind fun r1 => if r1.1.1 = 4 then none else
    Ev prog clsT X d mc151 12 [(2, 89), (0, x1), (0, x2), (0, x3), (0, x4)] (pushR r1.1 []) r1.2)) :=
  (evk_at (r := (if cmpI .eq s0 0 = true then
  (some ((0, 0), (mk E c s (hh g))))
else
  ((Call prog clsT X d 152 [(0, x2), (0, 0), (0, 5)] ((mk E c s (hh g)))).bind fun r1 => if r1.1.1 = 4 then none else
    Ev prog clsT X d mc151 12 [(2, 89), (0, x1), (0, x2), (0, x3), (0, x4)] (pushR r1.1 []) r1.2))) X [0, 7, 12, 17] 6 rfl).trans (by simp (disch := decide) only [bindI, Option.bind_some, if_true_, and_self, ite_true, true_and, true_or, or_true])
theorem r151_12 (d : Nat) (x1 x2 x3 x4 s0 : Int) : Ev prog clsT X d mc151 12 [(2, 89), (0, x1), (0, x2), (0, x3), (0, x4)] [(0, s0)] (mk E c s (hh g)) =
  (if cmpI .eq s0 0 = true then
  (some ((0, 0), ((mk E c s (hh g)))))
else
  ((Call prog clsT X d 152 [(0, x3), (0, 1), (0, 99)] ((mk E c s (hh g)))).bind fun r1 => if r1.1.1 = 4 then none else
    Ev prog clsT X d mc151 17 [(2, 89), (0, x1), (0, x2), (0, x3), (0, x4)] (pushR r1.1 []) r1.2)) :=
  (evk_at (r := (if cmpI .eq s0 0 = true then
  (some ((0, 0), (mk E c s (hh g))))
else
  ((Call prog clsT X d 152 [(0, x3), (0, 1), (0, 99)] ((mk E c s (hh g)))).bind fun r1 => if r1.1.1 = 4 then none else
    Ev prog clsT X d mc151 17 [(2, 89), (0, x1), (0, x2), (0, x3), (0, x4)] (pushR r1.1 []) r1.2))) X [0, 7, 12, 17] 6 rfl).trans (by simp (disch := decide) only [bindI, Option.bind_some, if_true_, and_self, ite_true, true_and, true_or, or_true])
theorem r152_0 (d : Nat) (x0 x1 x2 : Int) : Ev prog clsT X d mc152 0 [(0, x0), (0, x1), (0, x2)] [] (mk E c s (hh g)) =
  (if cmpI .lt x0 x1 = true then
  (some ((0, 0), ((mk E c s (hh g)))))
else
  (if cmpI .gt x0 x2 = true then
    (some ((0, 0), ((mk E c s (hh g)))))
  else
    (some ((0, 1), ((mk E c s (hh g))))))) :=
  (evk_at (r := (if cmpI .lt x0 x1 = true then
  (some ((0, 0), (mk E c s (hh g))))
else
  (if cmpI .gt x0 x2 = true then
    (some ((0, 0), (mk E c s (hh g))))
  else
    (some ((0, 1), (mk E c s (hh g))))))) X [0] 10 rfl).trans (by simp (disch := decide) only [bindI, Option.bind_some, if_true_, and_self, ite_true, true_and, true_or, or_true])
theorem rc152_ (d : Nat) (x0 x1 x2 : Int) : Call prog clsT X (d + 1) 152 [(0, x0), (0, x1), (0, x2)] (mk E c s (hh g)) =
  (if cmpI .lt x0 x1 = true then
  (some ((0, 0), ((mk E c s (hh g)))))
else
  (if cmpI .gt x0 x2 = true then
    (some ((0, 0), ((mk E c s (hh g)))))
  else
    (some ((0, 1), ((mk E c s (hh g))))))) :=
  (show Call prog clsT X (d + 1) 152 [(0, x0), (0, x1), (0, x2)] (mk E c s (hh g)) = Ev prog clsT X d mc152 0 [(0, x0), (0, x1), (0, x2)] [] (mk E c s (hh g)) from rfl).trans (r152_0 X E c s g d x0 x1 x2 )
theorem r153_0 (d : Nat) (x1 x2 x3 x4 x5 : Int) : Ev prog clsT X d mc153 0 [(2, 89), (0, x1), (0, x2), (0, x3), (0, x4), (0, x5)] [] (mk E c s (hh g)) =
  ((Call prog clsT X d 152 [(0, x1), (0, 0), (0, 39)] ((mk E c s (hh (up g 89 0 0))))).bind fun r1 => if r1.1.1 = 4 then none else
  Ev prog clsT X d mc153 7 [(2, 89), (0, x1), (0, x2), (0, x3), (0, x4), (0, x5)] (pushR r1.1 []) r1.2) :=
  (evk_at (r := ((fput 6144 ((mk E c s (hh g))) 89 0).bind fun M1 =>
  (Call prog clsT X d 152 [(0, x1), (0, 0), (0, 39)] M1).bind fun r2 => if r2.1.1 = 4 then none else
  Ev prog clsT X d mc153 7 [(2, 89), (0, x1), (0, x2), (0, x3), (0, x4), (0, x5)] (pushR r2.1 []) r2.2)) X [0, 7, 11, 16, 21, 26, 31] 8 rfl).trans (by simp (disch := decide) only [W6144_89, bindI, Option.bind_some, if_true_, and_self, ite_true, true_and, true_or, or_true])
theorem rc153_ (d : Nat) (x1 x2 x3 x4 x5 : Int) : Call prog clsT X (d + 1) 153 [(2, 89), (0, x1), (0, x2), (0, x3), (0, x4), (0, x5)] (mk E c s (hh g)) =
  ((Call prog clsT X d 152 [(0, x1), (0, 0), (0, 39)] ((mk E c s (hh (up g 89 0 0))))).bind fun r1 => if r1.1.1 = 4 then none else
  Ev prog clsT X d mc153 7 [(2, 89), (0, x1), (0, x2), (0, x3), (0, x4), (0, x5)] (pushR r1.1 []) r1.2) :=
  (show Call prog clsT X (d + 1) 153 [(2, 89), (0, x1), (0, x2), (0, x3), (0, x4), (0, x5)] (mk E c s (hh g)) = Ev prog clsT X d mc153 0 [(2, 89), (0, x1), (0, x2), (0, x3), (0, x4), (0, x5)] [] (mk E c s (hh g)) from rfl).trans (r153_0 X E c s g d x1 x2 x3 x4 x5 )
theorem r153_7 (d : Nat) (x1 x2 x3 x4 x5 s0 : Int) : Ev prog clsT X d mc153 7 [(2, 89), (0, x1), (0, x2), (0, x3), (0, x4), (0, x5)] [(0, s0)] (mk E c s (hh g)) =
  (if cmpI .eq s0 0 = true then
  (some ((0, 0), ((mk E c s (hh g)))))
else
  ((Call prog clsT X d 154 [(2, 89), (0, x2)] ((mk E c s (hh g)))).bind fun r1 => if r1.1.1 = 4 then none else
    Ev prog clsT X d mc153 11 [(2, 89), (0, x1), (0, x2), (0, x3), (0, x4), (0, x5)] (pushR r1.1 []) r1.2)) :=
  (evk_at (r := (if cmpI .eq s0 0 = true then
  (some ((0, 0), (mk E c s (hh g))))
else
  (if (2 : Nat) = 2 ∧ rcv ((mk E c s (hh g))) 89 13 = true then
    ((Call prog clsT X d 154 [(2, 89), (0, x2)] ((mk E c s (hh g)))).bind fun r1 => if r1.1.1 = 4 then none else
    Ev prog clsT X d mc153 11 [(2, 89), (0, x1), (0, x2), (0, x3), (0, x4), (0, x5)] (pushR r1.1 []) r1.2) else none))) X [0, 7, 11, 16, 21, 26, 31] 5 rfl).trans (by simp (disch := decide) only [R89_13, bindI, Option.bind_some, if_true_, and_self, ite_true, true_and, true_or, or_true])
theorem r153_11 (d : Nat) (x1 x2 x3 x4 x5 s0 : Int) : Ev prog clsT X d mc153 11 [(2, 89), (0, x1), (0, x2), (0, x3), (0, x4), (0, x5)] [(0, s0)] (mk E c s (hh g)) =
  (if cmpI .eq s0 0 = true then
  (some ((0, 0), ((mk E c s (hh g)))))
else
  ((Call prog clsT X d 152 [(0, x3), (0, 0), (0, 9)] ((mk E c s (hh g)))).bind fun r1 => if r1.1.1 = 4 then none else
    Ev prog clsT X d mc153 16 [(2, 89), (0, x1), (0, x2), (0, x3), (0, x4), (0, x5)] (pushR r1.1 []) r1.2)) :=
  (evk_at (r := (if cmpI .eq s0 0 = true then
  (some ((0, 0), (mk E c s (hh g))))
else
  ((Call prog clsT X d 152 [(0, x3), (0, 0), (0, 9)] ((mk E c s (hh g)))).bind fun r1 => if r1.1.1 = 4 then none else
    Ev prog clsT X d mc153 16 [(2, 89), (0, x1), (0, x2), (0, x3), (0, x4), (0, x5)] (pushR r1.1 []) r1.2))) X [0, 7, 11, 16, 21, 26, 31] 6 rfl).trans (by simp (disch := decide) only [bindI, Option.bind_some, if_true_, and_self, ite_true, true_and, true_or, or_true])
theorem r153_16 (d : Nat) (x1 x2 x3 x4 x5 s0 : Int) : Ev prog clsT X d mc153 16 [(2, 89), (0, x1), (0, x2), (0, x3), (0, x4), (0, x5)] [(0, s0)] (mk E c s (hh g)) =
  (if cmpI .eq s0 0 = true then
  (some ((0, 0), ((mk E c s (hh g)))))
else
  ((Call prog clsT X d 152 [(0, x4), (0, 1), (0, 99)] ((mk E c s (hh g)))).bind fun r1 => if r1.1.1 = 4 then none else
    Ev prog clsT X d mc153 21 [(2, 89), (0, x1), (0, x2), (0, x3), (0, x4), (0, x5)] (pushR r1.1 []) r1.2)) :=
  (evk_at (r := (if cmpI .eq s0 0 = true then
  (some ((0, 0), (mk E c s (hh g))))
else
  ((Call prog clsT X d 152 [(0, x4), (0, 1), (0, 99)] ((mk E c s (hh g)))).bind fun r1 => if r1.1.1 = 4 then none else
    Ev prog clsT X d mc153 21 [(2, 89), (0, x1), (0, x2), (0, x3), (0, x4), (0, x5)] (pushR r1.1 []) r1.2))) X [0, 7, 11, 16, 21, 26, 31] 6 rfl).trans (by simp (disch := decide) only [bindI, Option.bind_some, if_true_, and_self, ite_true, true_and, true_or, or_true])
theorem r153_21 (d : Nat) (x1 x2 x3 x4 x5 s0 : Int) : Ev prog clsT X d mc153 21 [(2, 89), (0, x1), (0, x2), (0, x3), (0, x4), (0, x5)] [(0, s0)] (mk E c s (hh g)) =
  (if cmpI .eq s0 0 = true then
  (some ((0, 0), ((mk E c s (hh g)))))
else
  ((Call prog clsT X d 152 [(0, x5), (0, 0), (0, 9)] ((mk E c s (hh g)))).bind fun r1 => if r1.1.1 = 4 then none else
    Ev prog clsT X d mc153 26 [(2, 89), (0, x1), (0, x2), (0, x3), (0, x4), (0, x5)] (pushR r1.1 []) r1.2)) :=
  (evk_at (r := (if cmpI .eq s0 0 = true then
  (some ((0, 0), (mk E c s (hh g))))
else
  ((Call prog clsT X d 152 [(0, x5), (0, 0), (0, 9)] ((mk E c s (hh g)))).bind fun r1 => if r1.1.1 = 4 then none else
    Ev prog clsT X d mc153 26 [(2, 89), (0, x1), (0, x2), (0, x3), (0, x4), (0, x5)] (pushR r1.1 []) r1.2))) X [0, 7, 11, 16, 21, 26, 31] 6 rfl).trans (by simp (disch := decide) only [bindI, Option.bind_some, if_true_, and_self, ite_true, true_and, true_or, or_true])
theorem r153_26 (d : Nat) (x1 x2 x3 x4 x5 s0 : Int) : Ev prog clsT X d mc153 26 [(2, 89), (0, x1), (0, x2), (0, x3), (0, x4), (0, x5)] [(0, s0)] (mk E c s (hh g)) =
  (if cmpI .ne s0 0 = true then
  ((Call prog clsT X d 155 [(2, 89)] ((mk E c s (hh g)))).bind fun r1 => if r1.1.1 = 4 then none else
    Ev prog clsT X d mc153 31 [(2, 89), (0, x1), (0, x2), (0, x3), (0, x4), (0, x5)] (pushR r1.1 []) r1.2)
else
  (some ((0, 0), ((mk E c s (hh g)))))) :=
  (evk_at (r := (if cmpI .ne s0 0 = true then
  (if (2 : Nat) = 2 ∧ rcv ((mk E c s (hh g))) 89 13 = true then
    ((Call prog clsT X d 155 [(2, 89)] ((mk E c s (hh g)))).bind fun r1 => if r1.1.1 = 4 then none else
    Ev prog clsT X d mc153 31 [(2, 89), (0, x1), (0, x2), (0, x3), (0, x4), (0, x5)] (pushR r1.1 []) r1.2) else none)
else
  (some ((0, 0), (mk E c s (hh g)))))) X [0, 7, 11, 16, 21, 26, 31] 4 rfl).trans (by simp (disch := decide) only [R89_13, bindI, Option.bind_some, if_true_, and_self, ite_true, true_and, true_or, or_true])
theorem r154_0 (d : Nat) (x1 : Int) : Ev prog clsT X d mc154 0 [(2, 89), (0, x1)] [] (mk E c s (hh g)) =
  ((Call prog clsT X d 152 [(0, x1), (0, 0), (0, 9)] ((mk E c s (hh g)))).bind fun r1 => if r1.1.1 = 4 then none else
  Ev prog clsT X d mc154 4 [(2, 89), (0, x1)] (pushR r1.1 []) r1.2) :=
  evk_at X [0, 4] 5 rfl
theorem rc154_ (d : Nat) (x1 : Int) : Call prog clsT X (d + 1) 154 [(2, 89), (0, x1)] (mk E c s (hh g)) =
  ((Call prog clsT X d 152 [(0, x1), (0, 0), (0, 9)] ((mk E c s (hh g)))).bind fun r1 => if r1.1.1 = 4 then none else
  Ev prog clsT X d mc154 4 [(2, 89), (0, x1)] (pushR r1.1 []) r1.2) :=
  (show Call prog clsT X (d + 1) 154 [(2, 89), (0, x1)] (mk E c s (hh g)) = Ev prog clsT X d mc154 0 [(2, 89), (0, x1)] [] (mk E c s (hh g)) from rfl).trans (r154_0 X E c s g d x1 )
theorem r154_4 (d : Nat) (x1 s0 : Int) : Ev prog clsT X d mc154 4 [(2, 89), (0, x1)] [(0, s0)] (mk E c s (hh g)) =
  (if cmpI .eq s0 0 = true then
  (some ((0, 0), ((mk E c s (hh g)))))
else
  (if inb x1 10 = true then
    (if cmpI .eq ((g 90 (Int.toNat x1))) 0 = true then
    (some ((0, 0), ((mk E c s (hh g)))))
  else
    (some ((0, 1), ((mk E c s (hh g))))))
  else none)) :=
  (evk_at (r := (if cmpI .eq s0 0 = true then
  (some ((0, 0), (mk E c s (hh g))))
else
  ((fget 6150 ((mk E c s (hh g))) 89).bind fun v1 =>
    (aget X 102 ((mk E c s (hh g))) v1 x1).bind fun v2 =>
    if cmpI .eq v2 0 = true then
    (some ((0, 0), (mk E c s (hh g))))
  else
    (some ((0, 1), (mk E c s (hh g))))))) X [0, 4] 10 rfl).trans (by simp (disch := decide) only [A90, F6150_89, bindI, Option.bind_some, if_true_, and_self, ite_true, true_and, true_or, or_true])
theorem r155_0 (d : Nat) : Ev prog clsT X d mc155 0 [(2, 89), (3, 0), (3, 0), (3, 0)] [] (mk E c s (hh g)) =
  (Ev prog clsT X d mc155 4 [(2, 89), (1, 0), (3, 0), (0, 0)] [] (mk E c s (hh g))) :=
  evk_at X [0, 4] 6 rfl
theorem rc155_ (d : Nat) : Call prog clsT X (d + 1) 155 [(2, 89)] (mk E c s (hh g)) =
  (Ev prog clsT X d mc155 4 [(2, 89), (1, 0), (3, 0), (0, 0)] [] (mk E c s (hh g))) :=
  (show Call prog clsT X (d + 1) 155 [(2, 89)] (mk E c s (hh g)) = Ev prog clsT X d mc155 0 [(2, 89), (3, 0), (3, 0), (3, 0)] [] (mk E c s (hh g)) from rfl).trans (r155_0 X E c s g d  )
theorem r155_4 (d : Nat) (x1 x3 : Int) (w2 : MV) : Ev prog clsT X d mc155 4 [(2, 89), (1, x1), w2, (0, x3)] [] (mk E c s (hh g)) =
  (if cmpI .ge x3 ((g 89 10)) = true then
  (some ((1, x1), ((mk E c s (hh g)))))
else
  (if inb x3 40 = true then
    (if cmpI .eq ((g 104 (Int.toNat x3))) 0 = true then
    (if inb x3 40 = true then
      (Ev prog clsT X d mc155 4 [(2, 89), (1, (lor64 x1 ((g 101 (Int.toNat x3))))), (3, 0), (0, (w32 (x3 + 1)))] [] (mk E c s (hh g)))
    else none)
  else
    (Ev prog clsT X d mc155 4 [(2, 89), (1, (lor64 x1 0)), (3, 0), (0, (w32 (x3 + 1)))] [] (mk E c s (hh g))))
  else none)) :=
  (evk_at (r := ((fget 6184 ((mk E c s (hh g))) 89).bind fun v1 =>
  if cmpI .ge x3 v1 = true then
  (some ((1, x1), (mk E c s (hh g))))
else
  ((fget 6210 ((mk E c s (hh g))) 89).bind fun v2 =>
    (aget X 102 ((mk E c s (hh g))) v2 x3).bind fun v3 =>
    if cmpI .eq v3 0 = true then
    ((fget 6198 ((mk E c s (hh g))) 89).bind fun v4 =>
      (aget X 101 ((mk E c s (hh g))) v4 x3).bind fun v5 =>
      Ev prog clsT X d mc155 4 [(2, 89), (1, (lor64 x1 v5)), (3, 0), (0, (w32 (x3 + 1)))] [] (mk E c s (hh g)))
  else
    (Ev prog clsT X d mc155 4 [(2, 89), (1, (lor64 x1 0)), (3, 0), (0, (w32 (x3 + 1)))] [] (mk E c s (hh g)))))) X [0, 4] 20 rfl).trans (by simp (disch := decide) only [A101, A104, F6184_89, F6198_89, F6210_89, bindI, Option.bind_some, if_true_, and_self, ite_true, true_and, true_or, or_true])
theorem r156_0 (d : Nat) (x1 x2 x3 x5 : Int) : Ev prog clsT X d mc156 0 [(2, 89), (0, x1), (0, x2), (1, x3), (3, 0), (0, x5)] [] (mk E c s (hh g)) =
  ((Call prog clsT X d 157 [(2, 89), (0, x1)] ((mk E c s (hh (up g 89 0 0))))).bind fun r1 => if r1.1.1 = 4 then none else
  Ev prog clsT X d mc156 6 [(2, 89), (0, x1), (0, x2), (1, x3), (3, 0), (0, x5)] (pushR r1.1 []) r1.2) :=
  (evk_at (r := ((fput 6144 ((mk E c s (hh g))) 89 0).bind fun M1 =>
  if (2 : Nat) = 2 ∧ rcv M1 89 13 = true then
  ((Call prog clsT X d 157 [(2, 89), (0, x1)] M1).bind fun r2 => if r2.1.1 = 4 then none else
  Ev prog clsT X d mc156 6 [(2, 89), (0, x1), (0, x2), (1, x3), (3, 0), (0, x5)] (pushR r2.1 []) r2.2) else none)) X [0, 6, 10, 21, 24, 29, 40, 44] 7 rfl).trans (by simp (disch := decide) only [R89_13, W6144_89, bindI, Option.bind_some, if_true_, and_self, ite_true, true_and, true_or, or_true])
theorem rc156_ (d : Nat) (x1 x2 x3 x5 : Int) : Call prog clsT X (d + 1) 156 [(2, 89), (0, x1), (0, x2), (1, x3), (0, x5)] (mk E c s (hh g)) =
  ((Call prog clsT X d 157 [(2, 89), (0, x1)] ((mk E c s (hh (up g 89 0 0))))).bind fun r1 => if r1.1.1 = 4 then none else
  Ev prog clsT X d mc156 6 [(2, 89), (0, x1), (0, x2), (1, x3), (3, 0), (0, x5)] (pushR r1.1 []) r1.2) :=
  (show Call prog clsT X (d + 1) 156 [(2, 89), (0, x1), (0, x2), (1, x3), (0, x5)] (mk E c s (hh g)) = Ev prog clsT X d mc156 0 [(2, 89), (0, x1), (0, x2), (1, x3), (3, 0), (0, x5)] [] (mk E c s (hh g)) from rfl).trans (r156_0 X E c s g d x1 x2 x3 x5 )
theorem r156_6 (d : Nat) (x1 x2 x3 x5 s0 : Int) : Ev prog clsT X d mc156 6 [(2, 89), (0, x1), (0, x2), (1, x3), (3, 0), (0, x5)] [(0, s0)] (mk E c s (hh g)) =
  (if cmpI .eq s0 0 = true then
  (some ((0, (-1)), ((mk E c s (hh g)))))
else
  ((Call prog clsT X d 154 [(2, 89), (0, x2)] ((mk E c s (hh g)))).bind fun r1 => if r1.1.1 = 4 then none else
    Ev prog clsT X d mc156 10 [(2, 89), (0, x1), (0, x2), (1, x3), (3, 0), (0, x5)] (pushR r1.1 []) r1.2)) :=
  (evk_at (r := (if cmpI .eq s0 0 = true then
  (some ((0, (-1)), (mk E c s (hh g))))
else
  (if (2 : Nat) = 2 ∧ rcv ((mk E c s (hh g))) 89 13 = true then
    ((Call prog clsT X d 154 [(2, 89), (0, x2)] ((mk E c s (hh g)))).bind fun r1 => if r1.1.1 = 4 then none else
    Ev prog clsT X d mc156 10 [(2, 89), (0, x1), (0, x2), (1, x3), (3, 0), (0, x5)] (pushR r1.1 []) r1.2) else none))) X [0, 6, 10, 21, 24, 29, 40, 44] 5 rfl).trans (by simp (disch := decide) only [R89_13, bindI, Option.bind_some, if_true_, and_self, ite_true, true_and, true_or, or_true])
theorem r156_10 (d : Nat) (x1 x2 x3 x5 s0 : Int) : Ev prog clsT X d mc156 10 [(2, 89), (0, x1), (0, x2), (1, x3), (3, 0), (0, x5)] [(0, s0)] (mk E c s (hh g)) =
  (if cmpI .eq s0 0 = true then
  (some ((0, (-1)), ((mk E c s (hh g)))))
else
  (if cmpI .lt ((lcmpI x3 0)) 0 = true then
    (some ((0, (-1)), ((mk E c s (hh g)))))
  else
    (if cmpI .ge ((lcmpI x3 1099511627776)) 0 = true then
      (some ((0, (-1)), ((mk E c s (hh g)))))
    else
      ((Call prog clsT X d 158 [(1, x3)] ((mk E c s (hh g)))).bind fun r1 => if r1.1.1 = 4 then none else
        Ev prog clsT X d mc156 21 [(2, 89), (0, x1), (0, x2), (1, x3), (3, 0), (0, x5)] (pushR r1.1 []) r1.2)))) :=
  (evk_at (r := (if cmpI .eq s0 0 = true then
  (some ((0, (-1)), (mk E c s (hh g))))
else
  (if cmpI .lt ((lcmpI x3 0)) 0 = true then
    (some ((0, (-1)), (mk E c s (hh g))))
  else
    (if cmpI .ge ((lcmpI x3 1099511627776)) 0 = true then
      (some ((0, (-1)), (mk E c s (hh g))))
    else
      ((Call prog clsT X d 158 [(1, x3)] ((mk E c s (hh g)))).bind fun r1 => if r1.1.1 = 4 then none else
        Ev prog clsT X d mc156 21 [(2, 89), (0, x1), (0, x2), (1, x3), (3, 0), (0, x5)] (pushR r1.1 []) r1.2))))) X [0, 6, 10, 21, 24, 29, 40, 44] 12 rfl).trans (by simp (disch := decide) only [bindI, Option.bind_some, if_true_, and_self, ite_true, true_and, true_or, or_true])
theorem r156_21 (d : Nat) (x1 x2 x3 x5 s0 : Int) : Ev prog clsT X d mc156 21 [(2, 89), (0, x1), (0, x2), (1, x3), (3, 0), (0, x5)] [(0, s0)] (mk E c s (hh g)) =
  ((Call prog clsT X d 152 [(0, s0), (0, 1), (0, 8)] ((mk E c s (hh g)))).bind fun r1 => if r1.1.1 = 4 then none else
  Ev prog clsT X d mc156 24 [(2, 89), (0, x1), (0, x2), (1, x3), (3, 0), (0, x5)] (pushR r1.1 []) r1.2) :=
  evk_at X [0, 6, 10, 21, 24, 29, 40, 44] 4 rfl
theorem r156_24 (d : Nat) (x1 x2 x3 x5 s0 : Int) : Ev prog clsT X d mc156 24 [(2, 89), (0, x1), (0, x2), (1, x3), (3, 0), (0, x5)] [(0, s0)] (mk E c s (hh g)) =
  (if cmpI .eq s0 0 = true then
  (some ((0, (-1)), ((mk E c s (hh g)))))
else
  ((Call prog clsT X d 152 [(0, x5), (0, 0), (0, 9)] ((mk E c s (hh g)))).bind fun r1 => if r1.1.1 = 4 then none else
    Ev prog clsT X d mc156 29 [(2, 89), (0, x1), (0, x2), (1, x3), (3, 0), (0, x5)] (pushR r1.1 []) r1.2)) :=
  (evk_at (r := (if cmpI .eq s0 0 = true then
  (some ((0, (-1)), (mk E c s (hh g))))
else
  ((Call prog clsT X d 152 [(0, x5), (0, 0), (0, 9)] ((mk E c s (hh g)))).bind fun r1 => if r1.1.1 = 4 then none else
    Ev prog clsT X d mc156 29 [(2, 89), (0, x1), (0, x2), (1, x3), (3, 0), (0, x5)] (pushR r1.1 []) r1.2))) X [0, 6, 10, 21, 24, 29, 40, 44] 6 rfl).trans (by simp (disch := decide) only [bindI, Option.bind_some, if_true_, and_self, ite_true, true_and, true_or, or_true])
theorem r156_29 (d : Nat) (x1 x2 x3 x5 s0 : Int) : Ev prog clsT X d mc156 29 [(2, 89), (0, x1), (0, x2), (1, x3), (3, 0), (0, x5)] [(0, s0)] (mk E c s (hh g)) =
  (if cmpI .eq s0 0 = true then
  (some ((0, (-1)), ((mk E c s (hh g)))))
else
  (if cmpI .ne ((g 89 10)) 40 = true then
    ((Call prog clsT X d 159 [(2, 89), (1, x3), (0, x2)] ((mk E c s (hh g)))).bind fun r1 => if r1.1.1 = 4 then none else
      Ev prog clsT X d mc156 40 [(2, 89), (0, x1), (0, x2), (1, x3), (3, 0), (0, x5)] (pushR r1.1 []) r1.2)
  else
    (some ((0, (-1)), ((mk E c s (hh g))))))) :=
  (evk_at (r := (if cmpI .eq s0 0 = true then
  (some ((0, (-1)), (mk E c s (hh g))))
else
  ((fget 6184 ((mk E c s (hh g))) 89).bind fun v1 =>
    if cmpI .ne v1 40 = true then
    (if (2 : Nat) = 2 ∧ rcv ((mk E c s (hh g))) 89 13 = true then
      ((Call prog clsT X d 159 [(2, 89), (1, x3), (0, x2)] ((mk E c s (hh g)))).bind fun r2 => if r2.1.1 = 4 then none else
      Ev prog clsT X d mc156 40 [(2, 89), (0, x1), (0, x2), (1, x3), (3, 0), (0, x5)] (pushR r2.1 []) r2.2) else none)
  else
    (some ((0, (-1)), (mk E c s (hh g))))))) X [0, 6, 10, 21, 24, 29, 40, 44] 10 rfl).trans (by simp (disch := decide) only [F6184_89, R89_13, bindI, Option.bind_some, if_true_, and_self, ite_true, true_and, true_or, or_true])
theorem r156_40 (d : Nat) (x1 x2 x3 x5 s0 : Int) : Ev prog clsT X d mc156 40 [(2, 89), (0, x1), (0, x2), (1, x3), (3, 0), (0, x5)] [(0, s0)] (mk E c s (hh g)) =
  (if cmpI .eq s0 0 = true then
  (some ((0, (-1)), ((mk E c s (hh g)))))
else
  ((Call prog clsT X d 155 [(2, 89)] ((mk E c s (hh g)))).bind fun r1 => if r1.1.1 = 4 then none else
    Ev prog clsT X d mc156 44 [(2, 89), (0, x1), (0, x2), (1, x3), (3, 0), (0, x5)] (pushR r1.1 [(1, x3)]) r1.2)) :=
  (evk_at (r := (if cmpI .eq s0 0 = true then
  (some ((0, (-1)), (mk E c s (hh g))))
else
  (if (2 : Nat) = 2 ∧ rcv ((mk E c s (hh g))) 89 13 = true then
    ((Call prog clsT X d 155 [(2, 89)] ((mk E c s (hh g)))).bind fun r1 => if r1.1.1 = 4 then none else
    Ev prog clsT X d mc156 44 [(2, 89), (0, x1), (0, x2), (1, x3), (3, 0), (0, x5)] (pushR r1.1 [(1, x3)]) r1.2) else none))) X [0, 6, 10, 21, 24, 29, 40, 44] 5 rfl).trans (by simp (disch := decide) only [R89_13, bindI, Option.bind_some, if_true_, and_self, ite_true, true_and, true_or, or_true])
theorem r157_0 (d : Nat) (x1 : Int) : Ev prog clsT X d mc157 0 [(2, 89), (0, x1)] [] (mk E c s (hh g)) =
  ((Call prog clsT X d 152 [(0, x1), (0, 0), (0, 9)] ((mk E c s (hh g)))).bind fun r1 => if r1.1.1 = 4 then none else
  Ev prog clsT X d mc157 4 [(2, 89), (0, x1)] (pushR r1.1 []) r1.2) :=
  evk_at X [0, 4] 5 rfl
theorem rc157_ (d : Nat) (x1 : Int) : Call prog clsT X (d + 1) 157 [(2, 89), (0, x1)] (mk E c s (hh g)) =
  ((Call prog clsT X d 152 [(0, x1), (0, 0), (0, 9)] ((mk E c s (hh g)))).bind fun r1 => if r1.1.1 = 4 then none else
  Ev prog clsT X d mc157 4 [(2, 89), (0, x1)] (pushR r1.1 []) r1.2) :=
  (show Call prog clsT X (d + 1) 157 [(2, 89), (0, x1)] (mk E c s (hh g)) = Ev prog clsT X d mc157 0 [(2, 89), (0, x1)] [] (mk E c s (hh g)) from rfl).trans (r157_0 X E c s g d x1 )
theorem r157_4 (d : Nat) (x1 s0 : Int) : Ev prog clsT X d mc157 4 [(2, 89), (0, x1)] [(0, s0)] (mk E c s (hh g)) =
  (if cmpI .eq s0 0 = true then
  (some ((0, 0), ((mk E c s (hh g)))))
else
  (if inb x1 10 = true then
    (if cmpI .eq ((g 106 (Int.toNat x1))) 0 = true then
    (some ((0, 0), ((mk E c s (hh g)))))
  else
    (some ((0, 1), ((mk E c s (hh g))))))
  else none)) :=
  (evk_at (r := (if cmpI .eq s0 0 = true then
  (some ((0, 0), (mk E c s (hh g))))
else
  ((fget 6250 ((mk E c s (hh g))) 89).bind fun v1 =>
    (aget X 102 ((mk E c s (hh g))) v1 x1).bind fun v2 =>
    if cmpI .eq v2 0 = true then
    (some ((0, 0), (mk E c s (hh g))))
  else
    (some ((0, 1), (mk E c s (hh g))))))) X [0, 4] 10 rfl).trans (by simp (disch := decide) only [A106, F6250_89, bindI, Option.bind_some, if_true_, and_self, ite_true, true_and, true_or, or_true])
theorem r158_0 (d : Nat) (x0 : Int) : Ev prog clsT X d mc158 0 [(1, x0), (3, 0), (3, 0), (3, 0)] [] (mk E c s (hh g)) =
  (Ev prog clsT X d mc158 4 [(1, x0), (3, 0), (0, 0), (0, 0)] [] (mk E c s (hh g))) :=
  evk_at X [0, 4] 6 rfl
theorem rc158_ (d : Nat) (x0 : Int) : Call prog clsT X (d + 1) 158 [(1, x0)] (mk E c s (hh g)) =
  (Ev prog clsT X d mc158 4 [(1, x0), (3, 0), (0, 0), (0, 0)] [] (mk E c s (hh g))) :=
  (show Call prog clsT X (d + 1) 158 [(1, x0)] (mk E c s (hh g)) = Ev prog clsT X d mc158 0 [(1, x0), (3, 0), (3, 0), (3, 0)] [] (mk E c s (hh g)) from rfl).trans (r158_0 X E c s g d x0 )
theorem r158_4 (d : Nat) (x0 x2 x3 : Int) (w1 : MV) : Ev prog clsT X d mc158 4 [(1, x0), w1, (0, x2), (0, x3)] [] (mk E c s (hh g)) =
  (if cmpI .ge x3 40 = true then
  (some ((0, x2), ((mk E c s (hh g)))))
else
  (Ev prog clsT X d mc158 4 [(1, x0), (3, 0), (0, (w32 (x2 + ((w32 ((land64 ((lshr64 x0 x3)) 1))))))), (0, (w32 (x3 + 1)))] [] (mk E c s (hh g)))) :=
  (evk_at (r := (if cmpI .ge x3 40 = true then
  (some ((0, x2), (mk E c s (hh g))))
else
  (Ev prog clsT X d mc158 4 [(1, x0), (3, 0), (0, (w32 (x2 + ((w32 ((land64 ((lshr64 x0 x3)) 1))))))), (0, (w32 (x3 + 1)))] [] (mk E c s (hh g))))) X [0, 4] 16 rfl).trans (by simp (disch := decide) only [bindI, Option.bind_some, if_true_, and_self, ite_true, true_and, true_or, or_true])
theorem r159_0 (d : Nat) (x1 x3 : Int) : Ev prog clsT X d mc159 0 [(2, 89), (1, x1), (3, 0), (0, x3), (3, 0)] [] (mk E c s (hh g)) =
  (Ev prog clsT X d mc159 2 [(2, 89), (1, x1), (3, 0), (0, x3), (0, 0)] [] (mk E c s (hh g))) :=
  evk_at X [0, 2] 4 rfl
theorem rc159_ (d : Nat) (x1 x3 : Int) : Call prog clsT X (d + 1) 159 [(2, 89), (1, x1), (0, x3)] (mk E c s (hh g)) =
  (Ev prog clsT X d mc159 2 [(2, 89), (1, x1), (3, 0), (0, x3), (0, 0)] [] (mk E c s (hh g))) :=
  (show Call prog clsT X (d + 1) 159 [(2, 89), (1, x1), (0, x3)] (mk E c s (hh g)) = Ev prog clsT X d mc159 0 [(2, 89), (1, x1), (3, 0), (0, x3), (3, 0)] [] (mk E c s (hh g)) from rfl).trans (r159_0 X E c s g d x1 x3 )
theorem r159_2 (d : Nat) (x1 x3 x4 : Int) (w2 : MV) : Ev prog clsT X d mc159 2 [(2, 89), (1, x1), w2, (0, x3), (0, x4)] [] (mk E c s (hh g)) =
  (if cmpI .ge x4 40 = true then
  (some ((0, 1), ((mk E c s (hh g)))))
else
  (if cmpI .ne ((lcmpI ((land64 ((lshr64 x1 x4)) 1)) 1)) 0 = true then
    (Ev prog clsT X d mc159 2 [(2, 89), (1, x1), (3, 0), (0, x3), (0, (w32 (x4 + 1)))] [] (mk E c s (hh g)))
  else
    (if inb x4 40 = true then
      (if cmpI .eq ((g 94 (Int.toNat x4))) 0 = true then
      (some ((0, 0), ((mk E c s (hh g)))))
    else
      (if inb x4 40 = true then
        (if cmpI .eq ((g 95 (Int.toNat x4))) x3 = true then
        (Ev prog clsT X d mc159 2 [(2, 89), (1, x1), (3, 0), (0, x3), (0, (w32 (x4 + 1)))] [] (mk E c s (hh g)))
      else
        (some ((0, 0), ((mk E c s (hh g))))))
      else none))
    else none))) :=
  (evk_at (r := (if cmpI .ge x4 40 = true then
  (some ((0, 1), (mk E c s (hh g))))
else
  (if cmpI .ne ((lcmpI ((land64 ((lshr64 x1 x4)) 1)) 1)) 0 = true then
    (Ev prog clsT X d mc159 2 [(2, 89), (1, x1), (3, 0), (0, x3), (0, (w32 (x4 + 1)))] [] (mk E c s (hh g)))
  else
    ((fget 6166 ((mk E c s (hh g))) 89).bind fun v1 =>
      (aget X 102 ((mk E c s (hh g))) v1 x4).bind fun v2 =>
      if cmpI .eq v2 0 = true then
      (some ((0, 0), (mk E c s (hh g))))
    else
      ((fget 6170 ((mk E c s (hh g))) 89).bind fun v3 =>
        (aget X 100 ((mk E c s (hh g))) v3 x4).bind fun v4 =>
        if cmpI .eq v4 x3 = true then
        (Ev prog clsT X d mc159 2 [(2, 89), (1, x1), (3, 0), (0, x3), (0, (w32 (x4 + 1)))] [] (mk E c s (hh g)))
      else
        (some ((0, 0), (mk E c s (hh g))))))))) X [0, 2] 26 rfl).trans (by simp (disch := decide) only [A94, A95, F6166_89, F6170_89, bindI, Option.bind_some, if_true_, and_self, ite_true, true_and, true_or, or_true])
theorem r160_0 (d : Nat) (x1 : Int) : Ev prog clsT X d mc160 0 [(2, 89), (0, x1)] [] (mk E c s (hh g)) =
  ((Call prog clsT X d 161 [(2, 89), (0, x1)] ((mk E c s (hh (up g 89 0 0))))).bind fun r1 => if r1.1.1 = 4 then none else
  Ev prog clsT X d mc160 6 [(2, 89), (0, x1)] (pushR r1.1 []) r1.2) :=
  (evk_at (r := ((fput 6144 ((mk E c s (hh g))) 89 0).bind fun M1 =>
  if (2 : Nat) = 2 ∧ rcv M1 89 13 = true then
  ((Call prog clsT X d 161 [(2, 89), (0, x1)] M1).bind fun r2 => if r2.1.1 = 4 then none else
  Ev prog clsT X d mc160 6 [(2, 89), (0, x1)] (pushR r2.1 []) r2.2) else none)) X [0, 6] 7 rfl).trans (by simp (disch := decide) only [R89_13, W6144_89, bindI, Option.bind_some, if_true_, and_self, ite_true, true_and, true_or, or_true])
theorem rc160_ (d : Nat) (x1 : Int) : Call prog clsT X (d + 1) 160 [(2, 89), (0, x1)] (mk E c s (hh g)) =
  ((Call prog clsT X d 161 [(2, 89), (0, x1)] ((mk E c s (hh (up g 89 0 0))))).bind fun r1 => if r1.1.1 = 4 then none else
  Ev prog clsT X d mc160 6 [(2, 89), (0, x1)] (pushR r1.1 []) r1.2) :=
  (show Call prog clsT X (d + 1) 160 [(2, 89), (0, x1)] (mk E c s (hh g)) = Ev prog clsT X d mc160 0 [(2, 89), (0, x1)] [] (mk E c s (hh g)) from rfl).trans (r160_0 X E c s g d x1 )
theorem r161_0 (d : Nat) (x1 : Int) : Ev prog clsT X d mc161 0 [(2, 89), (0, x1)] [] (mk E c s (hh g)) =
  ((Call prog clsT X d 162 [(2, 89), (0, x1)] ((mk E c s (hh g)))).bind fun r1 => if r1.1.1 = 4 then none else
  Ev prog clsT X d mc161 3 [(2, 89), (0, x1)] (pushR r1.1 []) r1.2) :=
  (evk_at (r := (if (2 : Nat) = 2 ∧ rcv ((mk E c s (hh g))) 89 13 = true then
  ((Call prog clsT X d 162 [(2, 89), (0, x1)] ((mk E c s (hh g)))).bind fun r1 => if r1.1.1 = 4 then none else
  Ev prog clsT X d mc161 3 [(2, 89), (0, x1)] (pushR r1.1 []) r1.2) else none)) X [0, 3] 4 rfl).trans (by simp (disch := decide) only [R89_13, bindI, Option.bind_some, if_true_, and_self, ite_true, true_and, true_or, or_true])
theorem rc161_ (d : Nat) (x1 : Int) : Call prog clsT X (d + 1) 161 [(2, 89), (0, x1)] (mk E c s (hh g)) =
  ((Call prog clsT X d 162 [(2, 89), (0, x1)] ((mk E c s (hh g)))).bind fun r1 => if r1.1.1 = 4 then none else
  Ev prog clsT X d mc161 3 [(2, 89), (0, x1)] (pushR r1.1 []) r1.2) :=
  (show Call prog clsT X (d + 1) 161 [(2, 89), (0, x1)] (mk E c s (hh g)) = Ev prog clsT X d mc161 0 [(2, 89), (0, x1)] [] (mk E c s (hh g)) from rfl).trans (r161_0 X E c s g d x1 )
theorem r161_3 (d : Nat) (x1 s0 : Int) : Ev prog clsT X d mc161 3 [(2, 89), (0, x1)] [(0, s0)] (mk E c s (hh g)) =
  (if cmpI .eq s0 0 = true then
  (some ((0, 0), ((mk E c s (hh g)))))
else
  (if inb x1 40 = true then
    (if cmpI .ne ((g 104 (Int.toNat x1))) 0 = true then
    (some ((0, 0), ((mk E c s (hh g)))))
  else
    (some ((0, 1), ((mk E c s (hh g))))))
  else none)) :=
  (evk_at (r := (if cmpI .eq s0 0 = true then
  (some ((0, 0), (mk E c s (hh g))))
else
  ((fget 6210 ((mk E c s (hh g))) 89).bind fun v1 =>
    (aget X 102 ((mk E c s (hh g))) v1 x1).bind fun v2 =>
    if cmpI .ne v2 0 = true then
    (some ((0, 0), (mk E c s (hh g))))
  else
    (some ((0, 1), (mk E c s (hh g))))))) X [0, 3] 10 rfl).trans (by simp (disch := decide) only [A104, F6210_89, bindI, Option.bind_some, if_true_, and_self, ite_true, true_and, true_or, or_true])
theorem r162_0 (d : Nat) (x1 : Int) : Ev prog clsT X d mc162 0 [(2, 89), (0, x1)] [] (mk E c s (hh g)) =
  (if cmpI .lt x1 0 = true then
  (some ((0, 0), ((mk E c s (hh g)))))
else
  (if cmpI .ge x1 ((g 89 10)) = true then
    (some ((0, 0), ((mk E c s (hh g)))))
  else
    (some ((0, 1), ((mk E c s (hh g))))))) :=
  (evk_at (r := (if cmpI .lt x1 0 = true then
  (some ((0, 0), (mk E c s (hh g))))
else
  ((fget 6184 ((mk E c s (hh g))) 89).bind fun v1 =>
    if cmpI .ge x1 v1 = true then
    (some ((0, 0), (mk E c s (hh g))))
  else
    (some ((0, 1), (mk E c s (hh g))))))) X [0] 10 rfl).trans (by simp (disch := decide) only [F6184_89, bindI, Option.bind_some, if_true_, and_self, ite_true, true_and, true_or, or_true])
theorem rc162_ (d : Nat) (x1 : Int) : Call prog clsT X (d + 1) 162 [(2, 89), (0, x1)] (mk E c s (hh g)) =
  (if cmpI .lt x1 0 = true then
  (some ((0, 0), ((mk E c s (hh g)))))
else
  (if cmpI .ge x1 ((g 89 10)) = true then
    (some ((0, 0), ((mk E c s (hh g)))))
  else
    (some ((0, 1), ((mk E c s (hh g))))))) :=
  (show Call prog clsT X (d + 1) 162 [(2, 89), (0, x1)] (mk E c s (hh g)) = Ev prog clsT X d mc162 0 [(2, 89), (0, x1)] [] (mk E c s (hh g)) from rfl).trans (r162_0 X E c s g d x1 )
theorem r163_0 (d : Nat) (x1 x2 : Int) : Ev prog clsT X d mc163 0 [(2, 89), (0, x1), (0, x2)] [] (mk E c s (hh g)) =
  ((Call prog clsT X d 162 [(2, 89), (0, x1)] ((mk E c s (hh (up g 89 0 0))))).bind fun r1 => if r1.1.1 = 4 then none else
  Ev prog clsT X d mc163 6 [(2, 89), (0, x1), (0, x2)] (pushR r1.1 []) r1.2) :=
  (evk_at (r := ((fput 6144 ((mk E c s (hh g))) 89 0).bind fun M1 =>
  if (2 : Nat) = 2 ∧ rcv M1 89 13 = true then
  ((Call prog clsT X d 162 [(2, 89), (0, x1)] M1).bind fun r2 => if r2.1.1 = 4 then none else
  Ev prog clsT X d mc163 6 [(2, 89), (0, x1), (0, x2)] (pushR r2.1 []) r2.2) else none)) X [0, 6, 14] 7 rfl).trans (by simp (disch := decide) only [R89_13, W6144_89, bindI, Option.bind_some, if_true_, and_self, ite_true, true_and, true_or, or_true])
theorem rc163_ (d : Nat) (x1 x2 : Int) : Call prog clsT X (d + 1) 163 [(2, 89), (0, x1), (0, x2)] (mk E c s (hh g)) =
  ((Call prog clsT X d 162 [(2, 89), (0, x1)] ((mk E c s (hh (up g 89 0 0))))).bind fun r1 => if r1.1.1 = 4 then none else
  Ev prog clsT X d mc163 6 [(2, 89), (0, x1), (0, x2)] (pushR r1.1 []) r1.2) :=
  (show Call prog clsT X (d + 1) 163 [(2, 89), (0, x1), (0, x2)] (mk E c s (hh g)) = Ev prog clsT X d mc163 0 [(2, 89), (0, x1), (0, x2)] [] (mk E c s (hh g)) from rfl).trans (r163_0 X E c s g d x1 x2 )
theorem r163_6 (d : Nat) (x1 x2 s0 : Int) : Ev prog clsT X d mc163 6 [(2, 89), (0, x1), (0, x2)] [(0, s0)] (mk E c s (hh g)) =
  (if cmpI .eq s0 0 = true then
  (some ((0, 0), ((mk E c s (hh g)))))
else
  (if inb x1 40 = true then
    ((Call prog clsT X d 152 [(0, x2), (0, 0), (0, (g 102 (Int.toNat x1)))] ((mk E c s (hh g)))).bind fun r1 => if r1.1.1 = 4 then none else
    Ev prog clsT X d mc163 14 [(2, 89), (0, x1), (0, x2)] (pushR r1.1 []) r1.2)
  else none)) :=
  (evk_at (r := (if cmpI .eq s0 0 = true then
  (some ((0, 0), (mk E c s (hh g))))
else
  ((fget 6202 ((mk E c s (hh g))) 89).bind fun v1 =>
    (aget X 100 ((mk E c s (hh g))) v1 x1).bind fun v2 =>
    (Call prog clsT X d 152 [(0, x2), (0, 0), (0, v2)] ((mk E c s (hh g)))).bind fun r3 => if r3.1.1 = 4 then none else
    Ev prog clsT X d mc163 14 [(2, 89), (0, x1), (0, x2)] (pushR r3.1 []) r3.2))) X [0, 6, 14] 9 rfl).trans (by simp (disch := decide) only [A102, F6202_89, bindI, Option.bind_some, if_true_, and_self, ite_true, true_and, true_or, or_true])
theorem r164_0 (d : Nat) (x1 x3 x5 : Int) : Ev prog clsT X d mc164 0 [(2, 89), (1, x1), (3, 0), (1, x3), (3, 0), (1, x5), (3, 0), (3, 0), (3, 0), (3, 0), (3, 0)] [] (mk E c s (hh g)) =
  (Ev prog clsT X d mc164 5 [(2, 89), (1, x1), (3, 0), (1, x3), (3, 0), (1, x5), (3, 0), (0, 0), (3, 0), (3, 0), (3, 0)] [] (mk E c s (hh (up g 89 0 0)))) :=
  (evk_at (r := ((fput 6144 ((mk E c s (hh g))) 89 0).bind fun M1 =>
  Ev prog clsT X d mc164 5 [(2, 89), (1, x1), (3, 0), (1, x3), (3, 0), (1, x5), (3, 0), (0, 0), (3, 0), (3, 0), (3, 0)] [] M1)) X [0, 5] 7 rfl).trans (by simp (disch := decide) only [W6144_89, bindI, Option.bind_some, if_true_, and_self, ite_true, true_and, true_or, or_true])
theorem rc164_ (d : Nat) (x1 x3 x5 : Int) : Call prog clsT X (d + 1) 164 [(2, 89), (1, x1), (1, x3), (1, x5)] (mk E c s (hh g)) =
  (Ev prog clsT X d mc164 5 [(2, 89), (1, x1), (3, 0), (1, x3), (3, 0), (1, x5), (3, 0), (0, 0), (3, 0), (3, 0), (3, 0)] [] (mk E c s (hh (up g 89 0 0)))) :=
  (show Call prog clsT X (d + 1) 164 [(2, 89), (1, x1), (1, x3), (1, x5)] (mk E c s (hh g)) = Ev prog clsT X d mc164 0 [(2, 89), (1, x1), (3, 0), (1, x3), (3, 0), (1, x5), (3, 0), (3, 0), (3, 0), (3, 0), (3, 0)] [] (mk E c s (hh g)) from rfl).trans (r164_0 X E c s g d x1 x3 x5 )
theorem r165_0 (d : Nat) (x1 : Int) : Ev prog clsT X d mc165 0 [(2, 89), (0, x1), (3, 0)] [] (mk E c s (hh g)) =
  ((Call prog clsT X d 166 [(2, 89)] ((mk E c s (hh (up g 89 0 0))))).bind fun r1 => if r1.1.1 = 4 then none else
  Ev prog clsT X d mc165 5 [(2, 89), (0, x1), (3, 0)] (pushR r1.1 []) r1.2) :=
  (evk_at (r := ((fput 6144 ((mk E c s (hh g))) 89 0).bind fun M1 =>
  if (2 : Nat) = 2 ∧ rcv M1 89 13 = true then
  ((Call prog clsT X d 166 [(2, 89)] M1).bind fun r2 => if r2.1.1 = 4 then none else
  Ev prog clsT X d mc165 5 [(2, 89), (0, x1), (3, 0)] (pushR r2.1 []) r2.2) else none)) X [0, 5, 9, 15] 6 rfl).trans (by simp (disch := decide) only [R89_13, W6144_89, bindI, Option.bind_some, if_true_, and_self, ite_true, true_and, true_or, or_true])
theorem rc165_ (d : Nat) (x1 : Int) : Call prog clsT X (d + 1) 165 [(2, 89), (0, x1)] (mk E c s (hh g)) =
  ((Call prog clsT X d 166 [(2, 89)] ((mk E c s (hh (up g 89 0 0))))).bind fun r1 => if r1.1.1 = 4 then none else
  Ev prog clsT X d mc165 5 [(2, 89), (0, x1), (3, 0)] (pushR r1.1 []) r1.2) :=
  (show Call prog clsT X (d + 1) 165 [(2, 89), (0, x1)] (mk E c s (hh g)) = Ev prog clsT X d mc165 0 [(2, 89), (0, x1), (3, 0)] [] (mk E c s (hh g)) from rfl).trans (r165_0 X E c s g d x1 )
theorem r165_5 (d : Nat) (x1 : Int) : Ev prog clsT X d mc165 5 [(2, 89), (0, x1), (3, 0)] [] (mk E c s (hh g)) =
  ((Call prog clsT X d 152 [(0, x1), (0, 0), (0, 9)] ((mk E c s (hh g)))).bind fun r1 => if r1.1.1 = 4 then none else
  Ev prog clsT X d mc165 9 [(2, 89), (0, x1), (3, 0)] (pushR r1.1 []) r1.2) :=
  evk_at X [0, 5, 9, 15] 5 rfl
theorem r165_9 (d : Nat) (x1 s0 : Int) : Ev prog clsT X d mc165 9 [(2, 89), (0, x1), (3, 0)] [(0, s0)] (mk E c s (hh g)) =
  (if cmpI .ne s0 0 = true then
  ((Call prog clsT X d 169 [(2, 89), (0, x1)] ((mk E c s (hh g)))).bind fun r1 => if r1.1.1 = 4 then none else
    Ev prog clsT X d mc165 15 [(2, 89), (0, x1), (3, 0)] (pushR r1.1 []) r1.2)
else
  (some ((0, (-1)), ((mk E c s (hh g)))))) :=
  (evk_at (r := (if cmpI .ne s0 0 = true then
  (if (2 : Nat) = 2 ∧ rcv ((mk E c s (hh g))) 89 13 = true then
    ((Call prog clsT X d 169 [(2, 89), (0, x1)] ((mk E c s (hh g)))).bind fun r1 => if r1.1.1 = 4 then none else
    Ev prog clsT X d mc165 15 [(2, 89), (0, x1), (3, 0)] (pushR r1.1 []) r1.2) else none)
else
  (some ((0, (-1)), (mk E c s (hh g)))))) X [0, 5, 9, 15] 5 rfl).trans (by simp (disch := decide) only [R89_13, bindI, Option.bind_some, if_true_, and_self, ite_true, true_and, true_or, or_true])
theorem r166_0 (d : Nat) : Ev prog clsT X d mc166 0 [(2, 89)] [] (mk E c s (hh g)) =
  ((Call prog clsT X d 167 [(2, 89)] ((mk E c s (hh (up (up (up g 89 19 ((g 89 17))) 89 17 0) 89 20 0))))).bind fun r1 => if r1.1.1 = 4 then none else
  Ev prog clsT X d mc166 12 [(2, 89)] (pushR r1.1 []) r1.2) :=
  (evk_at (r := ((fget 6212 ((mk E c s (hh g))) 89).bind fun v1 =>
  (fput 6220 ((mk E c s (hh g))) 89 v1).bind fun M2 =>
  (fput 6212 M2 89 0).bind fun M3 =>
  (fput 6224 M3 89 0).bind fun M4 =>
  if (2 : Nat) = 2 ∧ rcv M4 89 13 = true then
  ((Call prog clsT X d 167 [(2, 89)] M4).bind fun r5 => if r5.1.1 = 4 then none else
  Ev prog clsT X d mc166 12 [(2, 89)] (pushR r5.1 []) r5.2) else none)) X [0, 12] 13 rfl).trans (by simp (disch := decide) only [F6212_89, R89_13, W6212_89, W6220_89, W6224_89, bindI, Option.bind_some, if_true_, and_self, ite_true, true_and, true_or, or_true])
theorem rc166_ (d : Nat) : Call prog clsT X (d + 1) 166 [(2, 89)] (mk E c s (hh g)) =
  ((Call prog clsT X d 167 [(2, 89)] ((mk E c s (hh (up (up (up g 89 19 ((g 89 17))) 89 17 0) 89 20 0))))).bind fun r1 => if r1.1.1 = 4 then none else
  Ev prog clsT X d mc166 12 [(2, 89)] (pushR r1.1 []) r1.2) :=
  (show Call prog clsT X (d + 1) 166 [(2, 89)] (mk E c s (hh g)) = Ev prog clsT X d mc166 0 [(2, 89)] [] (mk E c s (hh g)) from rfl).trans (r166_0 X E c s g d  )
theorem r166_12 (d : Nat) : Ev prog clsT X d mc166 12 [(2, 89)] [] (mk E c s (hh g)) =
  (some ((3, 0), ((mk E c s (hh g))))) :=
  (evk_at (r := (some ((3, 0), (mk E c s (hh g))))) X [0, 12] 2 rfl).trans (by simp (disch := decide) only [bindI, Option.bind_some, if_true_, and_self, ite_true, true_and, true_or, or_true])
theorem r167_0 (d : Nat) (w1 : MV) : Ev prog clsT X d mc167 0 [(2, 89), w1] [] (mk E c s (hh g)) =
  (if cmpI .ge ((g 89 20)) ((g 89 19)) = true then
  (Ev prog clsT X d mc167 26 [(2, 89), (3, 0)] [] (mk E c s (hh g)))
else
  (if inb ((g 89 20)) 1000 = true then
    (if cmpI .eq ((g 105 (Int.toNat ((g 89 20))))) 32 = true then
    (Ev prog clsT X d mc167 0 [(2, 89), (3, 0)] [] (mk E c s (hh (up g 89 20 ((w32 (((g 89 20)) + 1)))))))
  else
    (if inb ((g 89 20)) 1000 = true then
      (if cmpI .ne ((g 105 (Int.toNat ((g 89 20))))) 10 = true then
      (Ev prog clsT X d mc167 26 [(2, 89), (3, 0)] [] (mk E c s (hh g)))
    else
      (Ev prog clsT X d mc167 0 [(2, 89), (3, 0)] [] (mk E c s (hh (up g 89 20 ((w32 (((g 89 20)) + 1))))))))
    else none))
  else none)) :=
  (evk_at (r := ((fget 6224 ((mk E c s (hh g))) 89).bind fun v1 =>
  (fget 6220 ((mk E c s (hh g))) 89).bind fun v2 =>
  if cmpI .ge v1 v2 = true then
  (Ev prog clsT X d mc167 26 [(2, 89), (3, 0)] [] (mk E c s (hh g)))
else
  ((fget 6218 ((mk E c s (hh g))) 89).bind fun v3 =>
    (fget 6224 ((mk E c s (hh g))) 89).bind fun v4 =>
    (aget X 100 ((mk E c s (hh g))) v3 v4).bind fun v5 =>
    if cmpI .eq v5 32 = true then
    ((fget 6224 ((mk E c s (hh g))) 89).bind fun v6 =>
      (fput 6224 ((mk E c s (hh g))) 89 ((w32 (v6 + 1)))).bind fun M7 =>
      Ev prog clsT X d mc167 0 [(2, 89), (3, 0)] [] M7)
  else
    ((fget 6218 ((mk E c s (hh g))) 89).bind fun v8 =>
      (fget 6224 ((mk E c s (hh g))) 89).bind fun v9 =>
      (aget X 100 ((mk E c s (hh g))) v8 v9).bind fun v10 =>
      if cmpI .ne v10 10 = true then
      (Ev prog clsT X d mc167 26 [(2, 89), (3, 0)] [] (mk E c s (hh g)))
    else
      ((fget 6224 ((mk E c s (hh g))) 89).bind fun v11 =>
        (fput 6224 ((mk E c s (hh g))) 89 ((w32 (v11 + 1)))).bind fun M12 =>
        Ev prog clsT X d mc167 0 [(2, 89), (3, 0)] [] M12))))) X [0, 26, 57, 61, 67, 85, 116, 120, 126, 144, 168] 28 rfl).trans (by simp (disch := decide) only [A105, F6218_89, F6220_89, F6224_89, W6224_89, bindI, Option.bind_some, if_true_, and_self, ite_true, true_and, true_or, or_true])
theorem rc167_ (d : Nat) (w1 : MV) : Call prog clsT X (d + 1) 167 [(2, 89)] (mk E c s (hh g)) =
  (if cmpI .ge ((g 89 20)) ((g 89 19)) = true then
  (Ev prog clsT X d mc167 26 [(2, 89), (3, 0)] [] (mk E c s (hh g)))
else
  (if inb ((g 89 20)) 1000 = true then
    (if cmpI .eq ((g 105 (Int.toNat ((g 89 20))))) 32 = true then
    (Ev prog clsT X d mc167 0 [(2, 89), (3, 0)] [] (mk E c s (hh (up g 89 20 ((w32 (((g 89 20)) + 1)))))))
  else
    (if inb ((g 89 20)) 1000 = true then
      (if cmpI .ne ((g 105 (Int.toNat ((g 89 20))))) 10 = true then
      (Ev prog clsT X d mc167 26 [(2, 89), (3, 0)] [] (mk E c s (hh g)))
    else
      (Ev prog clsT X d mc167 0 [(2, 89), (3, 0)] [] (mk E c s (hh (up g 89 20 ((w32 (((g 89 20)) + 1))))))))
    else none))
  else none)) :=
  (show Call prog clsT X (d + 1) 167 [(2, 89)] (mk E c s (hh g)) = Ev prog clsT X d mc167 0 [(2, 89), w1] [] (mk E c s (hh g)) from rfl).trans (r167_0 X E c s g d  w1)
set_option maxRecDepth 100000 in
theorem r167_26 (d : Nat) : Ev prog clsT X d mc167 26 [(2, 89), (3, 0)] [] (mk E c s (hh g)) =
  (if cmpI .ne (((up (up (up g 89 21 ((g 89 20))) 89 23 0) 89 24 0) 89 20)) (((up (up (up g 89 21 ((g 89 20))) 89 23 0) 89 24 0) 89 19)) = true then
  (if inb (((up (up (up g 89 21 ((g 89 20))) 89 23 0) 89 24 0) 89 20)) 1000 = true then
    (if cmpI .lt ((g 105 (Int.toNat (((up (up (up g 89 21 ((g 89 20))) 89 23 0) 89 24 0) 89 20))))) 97 = true then
    (if cmpI .lt ((g 105 (Int.toNat (((up (up (up g 89 21 ((g 89 20))) 89 23 0) 89 24 0) 89 20))))) 48 = true then
      (Ev prog clsT X d mc167 168 [(2, 89), (0, (g 105 (Int.toNat (((up (up (up g 89 21 ((g 89 20))) 89 23 0) 89 24 0) 89 20)))))] [] (mk E c s (hh (up (up (up g 89 21 ((g 89 20))) 89 23 0) 89 24 0))))
    else
      (if cmpI .gt ((g 105 (Int.toNat (((up (up (up g 89 21 ((g 89 20))) 89 23 0) 89 24 0) 89 20))))) 57 = true then
        (Ev prog clsT X d mc167 168 [(2, 89), (0, (g 105 (Int.toNat (((up (up (up g 89 21 ((g 89 20))) 89 23 0) 89 24 0) 89 20)))))] [] (mk E c s (hh (up (up (up g 89 21 ((g 89 20))) 89 23 0) 89 24 0))))
      else
        (Ev prog clsT X d mc167 116 [(2, 89), (0, (g 105 (Int.toNat (((up (up (up g 89 21 ((g 89 20))) 89 23 0) 89 24 0) 89 20)))))] [] (mk E c s (hh (up (up (up g 89 21 ((g 89 20))) 89 23 0) 89 24 0))))))
  else
    (if cmpI .gt ((g 105 (Int.toNat (((up (up (up g 89 21 ((g 89 20))) 89 23 0) 89 24 0) 89 20))))) 122 = true then
      (if cmpI .lt ((g 105 (Int.toNat (((up (up (up g 89 21 ((g 89 20))) 89 23 0) 89 24 0) 89 20))))) 48 = true then
        (Ev prog clsT X d mc167 168 [(2, 89), (0, (g 105 (Int.toNat (((up (up (up g 89 21 ((g 89 20))) 89 23 0) 89 24 0) 89 20)))))] [] (mk E c s (hh (up (up (up g 89 21 ((g 89 20))) 89 23 0) 89 24 0))))
      else
        (if cmpI .gt ((g 105 (Int.toNat (((up (up (up g 89 21 ((g 89 20))) 89 23 0) 89 24 0) 89 20))))) 57 = true then
          (Ev prog clsT X d mc167 168 [(2, 89), (0, (g 105 (Int.toNat (((up (up (up g 89 21 ((g 89 20))) 89 23 0) 89 24 0) 89 20)))))] [] (mk E c s (hh (up (up (up g 89 21 ((g 89 20))) 89 23 0) 89 24 0))))
        else
          (Ev prog clsT X d mc167 116 [(2, 89), (0, (g 105 (Int.toNat (((up (up (up g 89 21 ((g 89 20))) 89 23 0) 89 24 0) 89 20)))))] [] (mk E c s (hh (up (up (up g 89 21 ((g 89 20))) 89 23 0) 89 24 0))))))
    else
      (Ev prog clsT X d mc167 57 [(2, 89), (0, (g 105 (Int.toNat (((up (up (up g 89 21 ((g 89 20))) 89 23 0) 89 24 0) 89 20)))))] [] (mk E c s (hh (up (up (up g 89 21 ((g 89 20))) 89 23 0) 89 24 0))))))
  else none)
else
  (some ((3, 0), ((mk E c s (hh (up (up (up (up g 89 21 ((g 89 20))) 89 23 0) 89 24 0) 89 22 0))))))) :=
  (evk_at (r := ((fget 6224 ((mk E c s (hh g))) 89).bind fun v1 =>
  (fput 6228 ((mk E c s (hh g))) 89 v1).bind fun M2 =>
  (fput 6237 M2 89 0).bind fun M3 =>
  (fput 6240 M3 89 0).bind fun M4 =>
  (fget 6224 M4 89).bind fun v5 =>
  (fget 6220 M4 89).bind fun v6 =>
  if cmpI .ne v5 v6 = true then
  ((fget 6218 M4 89).bind fun v7 =>
    (fget 6224 M4 89).bind fun v8 =>
    (aget X 100 M4 v7 v8).bind fun v9 =>
    if cmpI .lt v9 97 = true then
    (if cmpI .lt v9 48 = true then
      (Ev prog clsT X d mc167 168 [(2, 89), (0, v9)] [] M4)
    else
      (if cmpI .gt v9 57 = true then
        (Ev prog clsT X d mc167 168 [(2, 89), (0, v9)] [] M4)
      else
        (Ev prog clsT X d mc167 116 [(2, 89), (0, v9)] [] M4)))
  else
    (if cmpI .gt v9 122 = true then
      (if cmpI .lt v9 48 = true then
        (Ev prog clsT X d mc167 168 [(2, 89), (0, v9)] [] M4)
      else
        (if cmpI .gt v9 57 = true then
          (Ev prog clsT X d mc167 168 [(2, 89), (0, v9)] [] M4)
        else
          (Ev prog clsT X d mc167 116 [(2, 89), (0, v9)] [] M4)))
    else
      (Ev prog clsT X d mc167 57 [(2, 89), (0, v9)] [] M4)))
else
  ((fput 6232 M4 89 0).bind fun M10 =>
    some ((3, 0), M10)))) X [0, 26, 57, 61, 67, 85, 116, 120, 126, 144, 168] 35 rfl).trans (by simp (disch := decide) only [A105, F6218_89, F6220_89, F6224_89, W6228_89, W6232_89, W6237_89, W6240_89, cpy_cell, up_cell, bindI, Option.bind_some, if_true_, and_self, ite_true, true_and, true_or, or_true])
theorem r167_57 (d : Nat) (w1 : MV) : Ev prog clsT X d mc167 57 [(2, 89), w1] [] (mk E c s (hh g)) =
  ((Call prog clsT X d 168 [(2, 89), (0, (g 89 20))] ((mk E c s (hh g)))).bind fun r1 => if r1.1.1 = 4 then none else
  Ev prog clsT X d mc167 61 [(2, 89), (3, 0)] (pushR r1.1 []) r1.2) :=
  (evk_at (r := ((fget 6224 ((mk E c s (hh g))) 89).bind fun v1 =>
  if (2 : Nat) = 2 ∧ rcv ((mk E c s (hh g))) 89 13 = true then
  ((Call prog clsT X d 168 [(2, 89), (0, v1)] ((mk E c s (hh g)))).bind fun r2 => if r2.1.1 = 4 then none else
  Ev prog clsT X d mc167 61 [(2, 89), (3, 0)] (pushR r2.1 []) r2.2) else none)) X [0, 26, 57, 61, 67, 85, 116, 120, 126, 144, 168] 5 rfl).trans (by simp (disch := decide) only [F6224_89, R89_13, bindI, Option.bind_some, if_true_, and_self, ite_true, true_and, true_or, or_true])
theorem r167_61 (d : Nat) (s0 : Int) : Ev prog clsT X d mc167 61 [(2, 89), (3, 0)] [(0, s0)] (mk E c s (hh g)) =
  (if cmpI .lt s0 97 = true then
  (if cmpI .le ((w32 (((g 89 20)) - ((g 89 21))))) 8 = true then
    (some ((3, 0), ((mk E c s (hh (up g 89 22 1))))))
  else
    (some ((3, 0), ((mk E c s (hh (up g 89 22 4)))))))
else
  ((Call prog clsT X d 168 [(2, 89), (0, (g 89 20))] ((mk E c s (hh g)))).bind fun r1 => if r1.1.1 = 4 then none else
    Ev prog clsT X d mc167 67 [(2, 89), (3, 0)] (pushR r1.1 []) r1.2)) :=
  (evk_at (r := (if cmpI .lt s0 97 = true then
  ((fget 6224 ((mk E c s (hh g))) 89).bind fun v1 =>
    (fget 6228 ((mk E c s (hh g))) 89).bind fun v2 =>
    if cmpI .le ((w32 (v1 - v2))) 8 = true then
    ((fput 6232 ((mk E c s (hh g))) 89 1).bind fun M3 =>
      some ((3, 0), M3))
  else
    ((fput 6232 ((mk E c s (hh g))) 89 4).bind fun M4 =>
      some ((3, 0), M4)))
else
  ((fget 6224 ((mk E c s (hh g))) 89).bind fun v5 =>
    if (2 : Nat) = 2 ∧ rcv ((mk E c s (hh g))) 89 13 = true then
    ((Call prog clsT X d 168 [(2, 89), (0, v5)] ((mk E c s (hh g)))).bind fun r6 => if r6.1.1 = 4 then none else
    Ev prog clsT X d mc167 67 [(2, 89), (3, 0)] (pushR r6.1 []) r6.2) else none))) X [0, 26, 57, 61, 67, 85, 116, 120, 126, 144, 168] 15 rfl).trans (by simp (disch := decide) only [F6224_89, F6228_89, R89_13, W6232_89, bindI, Option.bind_some, if_true_, and_self, ite_true, true_and, true_or, or_true])
theorem r167_67 (d : Nat) (s0 : Int) : Ev prog clsT X d mc167 67 [(2, 89), (3, 0)] [(0, s0)] (mk E c s (hh g)) =
  (if cmpI .gt s0 122 = true then
  (if cmpI .le ((w32 (((g 89 20)) - ((g 89 21))))) 8 = true then
    (some ((3, 0), ((mk E c s (hh (up g 89 22 1))))))
  else
    (some ((3, 0), ((mk E c s (hh (up g 89 22 4)))))))
else
  (if cmpI .ge ((w32 (((g 89 20)) - ((g 89 21))))) 8 = true then
    (Ev prog clsT X d mc167 57 [(2, 89), (3, 0)] [] (mk E c s (hh (up g 89 20 ((w32 (((g 89 20)) + 1)))))))
  else
    ((Call prog clsT X d 168 [(2, 89), (0, (g 89 20))] ((mk E c s (hh g)))).bind fun r1 => if r1.1.1 = 4 then none else
      Ev prog clsT X d mc167 85 [(2, 89), (3, 0)] (pushR r1.1 [(1, (w64 (((g 89 23)) * 27))), (2, 89)]) r1.2))) :=
  (evk_at (r := (if cmpI .gt s0 122 = true then
  ((fget 6224 ((mk E c s (hh g))) 89).bind fun v1 =>
    (fget 6228 ((mk E c s (hh g))) 89).bind fun v2 =>
    if cmpI .le ((w32 (v1 - v2))) 8 = true then
    ((fput 6232 ((mk E c s (hh g))) 89 1).bind fun M3 =>
      some ((3, 0), M3))
  else
    ((fput 6232 ((mk E c s (hh g))) 89 4).bind fun M4 =>
      some ((3, 0), M4)))
else
  ((fget 6224 ((mk E c s (hh g))) 89).bind fun v5 =>
    (fget 6228 ((mk E c s (hh g))) 89).bind fun v6 =>
    if cmpI .ge ((w32 (v5 - v6))) 8 = true then
    ((fget 6224 ((mk E c s (hh g))) 89).bind fun v7 =>
      (fput 6224 ((mk E c s (hh g))) 89 ((w32 (v7 + 1)))).bind fun M8 =>
      Ev prog clsT X d mc167 57 [(2, 89), (3, 0)] [] M8)
  else
    ((fget 6237 ((mk E c s (hh g))) 89).bind fun v9 =>
      (fget 6224 ((mk E c s (hh g))) 89).bind fun v10 =>
      if (2 : Nat) = 2 ∧ rcv ((mk E c s (hh g))) 89 13 = true then
      ((Call prog clsT X d 168 [(2, 89), (0, v10)] ((mk E c s (hh g)))).bind fun r11 => if r11.1.1 = 4 then none else
      Ev prog clsT X d mc167 85 [(2, 89), (3, 0)] (pushR r11.1 [(1, (w64 (v9 * 27))), (2, 89)]) r11.2) else none)))) X [0, 26, 57, 61, 67, 85, 116, 120, 126, 144, 168] 19 rfl).trans (by simp (disch := decide) only [F6224_89, F6228_89, F6237_89, R89_13, W6224_89, W6232_89, bindI, Option.bind_some, if_true_, and_self, ite_true, true_and, true_or, or_true])
theorem r167_85 (d : Nat) (s1 s2 : Int) : Ev prog clsT X d mc167 85 [(2, 89), (3, 0)] [(0, s2), (1, s1), (2, 89)] (mk E c s (hh g)) =
  (Ev prog clsT X d mc167 57 [(2, 89), (3, 0)] [] (mk E c s (hh (up (up g 89 23 ((w64 (((w64 (s1 + s2))) - 96)))) 89 20 ((w32 ((((up g 89 23 ((w64 (((w64 (s1 + s2))) - 96)))) 89 20)) + 1))))))) :=
  (evk_at (r := ((fput 6237 ((mk E c s (hh g))) 89 ((w64 (((w64 (s1 + s2))) - 96)))).bind fun M1 =>
  (fget 6224 M1 89).bind fun v2 =>
  (fput 6224 M1 89 ((w32 (v2 + 1)))).bind fun M3 =>
  Ev prog clsT X d mc167 57 [(2, 89), (3, 0)] [] M3)) X [0, 26, 57, 61, 67, 85, 116, 120, 126, 144, 168] 14 rfl).trans (by simp (disch := decide) only [F6224_89, W6224_89, W6237_89, cpy_cell, up_cell, bindI, Option.bind_some, if_true_, and_self, ite_true, true_and, true_or, or_true])
theorem r167_116 (d : Nat) (w1 : MV) : Ev prog clsT X d mc167 116 [(2, 89), w1] [] (mk E c s (hh g)) =
  ((Call prog clsT X d 168 [(2, 89), (0, (g 89 20))] ((mk E c s (hh g)))).bind fun r1 => if r1.1.1 = 4 then none else
  Ev prog clsT X d mc167 120 [(2, 89), (3, 0)] (pushR r1.1 []) r1.2) :=
  (evk_at (r := ((fget 6224 ((mk E c s (hh g))) 89).bind fun v1 =>
  if (2 : Nat) = 2 ∧ rcv ((mk E c s (hh g))) 89 13 = true then
  ((Call prog clsT X d 168 [(2, 89), (0, v1)] ((mk E c s (hh g)))).bind fun r2 => if r2.1.1 = 4 then none else
  Ev prog clsT X d mc167 120 [(2, 89), (3, 0)] (pushR r2.1 []) r2.2) else none)) X [0, 26, 57, 61, 67, 85, 116, 120, 126, 144, 168] 5 rfl).trans (by simp (disch := decide) only [F6224_89, R89_13, bindI, Option.bind_some, if_true_, and_self, ite_true, true_and, true_or, or_true])
theorem r167_120 (d : Nat) (s0 : Int) : Ev prog clsT X d mc167 120 [(2, 89), (3, 0)] [(0, s0)] (mk E c s (hh g)) =
  (if cmpI .lt s0 48 = true then
  (if cmpI .le ((w32 (((g 89 20)) - ((g 89 21))))) 4 = true then
    (some ((3, 0), ((mk E c s (hh (up g 89 22 2))))))
  else
    (some ((3, 0), ((mk E c s (hh (up g 89 22 4)))))))
else
  ((Call prog clsT X d 168 [(2, 89), (0, (g 89 20))] ((mk E c s (hh g)))).bind fun r1 => if r1.1.1 = 4 then none else
    Ev prog clsT X d mc167 126 [(2, 89), (3, 0)] (pushR r1.1 []) r1.2)) :=
  (evk_at (r := (if cmpI .lt s0 48 = true then
  ((fget 6224 ((mk E c s (hh g))) 89).bind fun v1 =>
    (fget 6228 ((mk E c s (hh g))) 89).bind fun v2 =>
    if cmpI .le ((w32 (v1 - v2))) 4 = true then
    ((fput 6232 ((mk E c s (hh g))) 89 2).bind fun M3 =>
      some ((3, 0), M3))
  else
    ((fput 6232 ((mk E c s (hh g))) 89 4).bind fun M4 =>
      some ((3, 0), M4)))
else
  ((fget 6224 ((mk E c s (hh g))) 89).bind fun v5 =>
    if (2 : Nat) = 2 ∧ rcv ((mk E c s (hh g))) 89 13 = true then
    ((Call prog clsT X d 168 [(2, 89), (0, v5)] ((mk E c s (hh g)))).bind fun r6 => if r6.1.1 = 4 then none else
    Ev prog clsT X d mc167 126 [(2, 89), (3, 0)] (pushR r6.1 []) r6.2) else none))) X [0, 26, 57, 61, 67, 85, 116, 120, 126, 144, 168] 15 rfl).trans (by simp (disch := decide) only [F6224_89, F6228_89, R89_13, W6232_89, bindI, Option.bind_some, if_true_, and_self, ite_true, true_and, true_or, or_true])
theorem r167_126 (d : Nat) (s0 : Int) : Ev prog clsT X d mc167 126 [(2, 89), (3, 0)] [(0, s0)] (mk E c s (hh g)) =
  (if cmpI .gt s0 57 = true then
  (if cmpI .le ((w32 (((g 89 20)) - ((g 89 21))))) 4 = true then
    (some ((3, 0), ((mk E c s (hh (up g 89 22 2))))))
  else
    (some ((3, 0), ((mk E c s (hh (up g 89 22 4)))))))
else
  (if cmpI .ge ((w32 (((g 89 20)) - ((g 89 21))))) 4 = true then
    (Ev prog clsT X d mc167 116 [(2, 89), (3, 0)] [] (mk E c s (hh (up g 89 20 ((w32 (((g 89 20)) + 1)))))))
  else
    ((Call prog clsT X d 168 [(2, 89), (0, (g 89 20))] ((mk E c s (hh g)))).bind fun r1 => if r1.1.1 = 4 then none else
      Ev prog clsT X d mc167 144 [(2, 89), (3, 0)] (pushR r1.1 [(0, (w32 (((g 89 24)) * 10))), (2, 89)]) r1.2))) :=
  (evk_at (r := (if cmpI .gt s0 57 = true then
  ((fget 6224 ((mk E c s (hh g))) 89).bind fun v1 =>
    (fget 6228 ((mk E c s (hh g))) 89).bind fun v2 =>
    if cmpI .le ((w32 (v1 - v2))) 4 = true then
    ((fput 6232 ((mk E c s (hh g))) 89 2).bind fun M3 =>
      some ((3, 0), M3))
  else
    ((fput 6232 ((mk E c s (hh g))) 89 4).bind fun M4 =>
      some ((3, 0), M4)))
else
  ((fget 6224 ((mk E c s (hh g))) 89).bind fun v5 =>
    (fget 6228 ((mk E c s (hh g))) 89).bind fun v6 =>
    if cmpI .ge ((w32 (v5 - v6))) 4 = true then
    ((fget 6224 ((mk E c s (hh g))) 89).bind fun v7 =>
      (fput 6224 ((mk E c s (hh g))) 89 ((w32 (v7 + 1)))).bind fun M8 =>
      Ev prog clsT X d mc167 116 [(2, 89), (3, 0)] [] M8)
  else
    ((fget 6240 ((mk E c s (hh g))) 89).bind fun v9 =>
      (fget 6224 ((mk E c s (hh g))) 89).bind fun v10 =>
      if (2 : Nat) = 2 ∧ rcv ((mk E c s (hh g))) 89 13 = true then
      ((Call prog clsT X d 168 [(2, 89), (0, v10)] ((mk E c s (hh g)))).bind fun r11 => if r11.1.1 = 4 then none else
      Ev prog clsT X d mc167 144 [(2, 89), (3, 0)] (pushR r11.1 [(0, (w32 (v9 * 10))), (2, 89)]) r11.2) else none)))) X [0, 26, 57, 61, 67, 85, 116, 120, 126, 144, 168] 19 rfl).trans (by simp (disch := decide) only [F6224_89, F6228_89, F6240_89, R89_13, W6224_89, W6232_89, bindI, Option.bind_some, if_true_, and_self, ite_true, true_and, true_or, or_true])
theorem r167_144 (d : Nat) (s1 s2 : Int) : Ev prog clsT X d mc167 144 [(2, 89), (3, 0)] [(0, s2), (0, s1), (2, 89)] (mk E c s (hh g)) =
  (Ev prog clsT X d mc167 116 [(2, 89), (3, 0)] [] (mk E c s (hh (up (up g 89 24 ((w32 (((w32 (s1 + s2))) - 48)))) 89 20 ((w32 ((((up g 89 24 ((w32 (((w32 (s1 + s2))) - 48)))) 89 20)) + 1))))))) :=
  (evk_at (r := ((fput 6240 ((mk E c s (hh g))) 89 ((w32 (((w32 (s1 + s2))) - 48)))).bind fun M1 =>
  (fget 6224 M1 89).bind fun v2 =>
  (fput 6224 M1 89 ((w32 (v2 + 1)))).bind fun M3 =>
  Ev prog clsT X d mc167 116 [(2, 89), (3, 0)] [] M3)) X [0, 26, 57, 61, 67, 85, 116, 120, 126, 144, 168] 13 rfl).trans (by simp (disch := decide) only [F6224_89, W6224_89, W6240_89, cpy_cell, up_cell, bindI, Option.bind_some, if_true_, and_self, ite_true, true_and, true_or, or_true])
theorem r167_168 (d : Nat) (x1 : Int) : Ev prog clsT X d mc167 168 [(2, 89), (0, x1)] [] (mk E c s (hh g)) =
  (if cmpI .lt x1 40 = true then
  (if cmpI .eq x1 45 = true then
    (some ((3, 0), ((mk E c s (hh (up (up g 89 20 ((w32 (((g 89 20)) + 1)))) 89 22 3))))))
  else
    (if cmpI .lt x1 59 = true then
      (some ((3, 0), ((mk E c s (hh (up (up g 89 20 ((w32 (((g 89 20)) + 1)))) 89 22 4))))))
    else
      (if cmpI .gt x1 61 = true then
        (some ((3, 0), ((mk E c s (hh (up (up g 89 20 ((w32 (((g 89 20)) + 1)))) 89 22 4))))))
      else
        (some ((3, 0), ((mk E c s (hh (up (up g 89 20 ((w32 (((g 89 20)) + 1)))) 89 22 3)))))))))
else
  (if cmpI .le x1 43 = true then
    (some ((3, 0), ((mk E c s (hh (up (up g 89 20 ((w32 (((g 89 20)) + 1)))) 89 22 3))))))
  else
    (if cmpI .eq x1 45 = true then
      (some ((3, 0), ((mk E c s (hh (up (up g 89 20 ((w32 (((g 89 20)) + 1)))) 89 22 3))))))
    else
      (if cmpI .lt x1 59 = true then
        (some ((3, 0), ((mk E c s (hh (up (up g 89 20 ((w32 (((g 89 20)) + 1)))) 89 22 4))))))
      else
        (if cmpI .gt x1 61 = true then
          (some ((3, 0), ((mk E c s (hh (up (up g 89 20 ((w32 (((g 89 20)) + 1)))) 89 22 4))))))
        else
          (some ((3, 0), ((mk E c s (hh (up (up g 89 20 ((w32 (((g 89 20)) + 1)))) 89 22 3))))))))))) :=
  (evk_at (r := ((fget 6224 ((mk E c s (hh g))) 89).bind fun v1 =>
  (fput 6224 ((mk E c s (hh g))) 89 ((w32 (v1 + 1)))).bind fun M2 =>
  if cmpI .lt x1 40 = true then
  (if cmpI .eq x1 45 = true then
    ((fput 6232 M2 89 3).bind fun M3 =>
      some ((3, 0), M3))
  else
    (if cmpI .lt x1 59 = true then
      ((fput 6232 M2 89 4).bind fun M4 =>
        some ((3, 0), M4))
    else
      (if cmpI .gt x1 61 = true then
        ((fput 6232 M2 89 4).bind fun M5 =>
          some ((3, 0), M5))
      else
        ((fput 6232 M2 89 3).bind fun M6 =>
          some ((3, 0), M6)))))
else
  (if cmpI .le x1 43 = true then
    ((fput 6232 M2 89 3).bind fun M7 =>
      some ((3, 0), M7))
  else
    (if cmpI .eq x1 45 = true then
      ((fput 6232 M2 89 3).bind fun M8 =>
        some ((3, 0), M8))
    else
      (if cmpI .lt x1 59 = true then
        ((fput 6232 M2 89 4).bind fun M9 =>
          some ((3, 0), M9))
      else
        (if cmpI .gt x1 61 = true then
          ((fput 6232 M2 89 4).bind fun M10 =>
            some ((3, 0), M10))
        else
          ((fput 6232 M2 89 3).bind fun M11 =>
            some ((3, 0), M11)))))))) X [0, 26, 57, 61, 67, 85, 116, 120, 126, 144, 168] 27 rfl).trans (by simp (disch := decide) only [F6224_89, W6224_89, W6232_89, bindI, Option.bind_some, if_true_, and_self, ite_true, true_and, true_or, or_true])
theorem r168_0 (d : Nat) (x1 : Int) : Ev prog clsT X d mc168 0 [(2, 89), (0, x1)] [] (mk E c s (hh g)) =
  (if cmpI .ge x1 ((g 89 19)) = true then
  (some ((0, 0), ((mk E c s (hh g)))))
else
  (if inb x1 1000 = true then
    (some ((0, (g 105 (Int.toNat x1))), ((mk E c s (hh g)))))
  else none)) :=
  (evk_at (r := ((fget 6220 ((mk E c s (hh g))) 89).bind fun v1 =>
  if cmpI .ge x1 v1 = true then
  (some ((0, 0), (mk E c s (hh g))))
else
  ((fget 6218 ((mk E c s (hh g))) 89).bind fun v2 =>
    (aget X 100 ((mk E c s (hh g))) v2 x1).bind fun v3 =>
    some ((0, v3), (mk E c s (hh g)))))) X [0] 11 rfl).trans (by simp (disch := decide) only [A105, F6218_89, F6220_89, bindI, Option.bind_some, if_true_, and_self, ite_true, true_and, true_or, or_true])
theorem rc168_ (d : Nat) (x1 : Int) : Call prog clsT X (d + 1) 168 [(2, 89), (0, x1)] (mk E c s (hh g)) =
  (if cmpI .ge x1 ((g 89 19)) = true then
  (some ((0, 0), ((mk E c s (hh g)))))
else
  (if inb x1 1000 = true then
    (some ((0, (g 105 (Int.toNat x1))), ((mk E c s (hh g)))))
  else none)) :=
  (show Call prog clsT X (d + 1) 168 [(2, 89), (0, x1)] (mk E c s (hh g)) = Ev prog clsT X d mc168 0 [(2, 89), (0, x1)] [] (mk E c s (hh g)) from rfl).trans (r168_0 X E c s g d x1 )
theorem r169_0 (d : Nat) (x1 : Int) : Ev prog clsT X d mc169 0 [(2, 89), (0, x1), (3, 0)] [] (mk E c s (hh g)) =
  (Ev prog clsT X d mc169 2 [(2, 89), (0, x1), (0, 108)] [] (mk E c s (hh g))) :=
  evk_at X [0, 2, 38, 46, 56, 86, 161] 4 rfl
theorem rc169_ (d : Nat) (x1 : Int) : Call prog clsT X (d + 1) 169 [(2, 89), (0, x1)] (mk E c s (hh g)) =
  (Ev prog clsT X d mc169 2 [(2, 89), (0, x1), (0, 108)] [] (mk E c s (hh g))) :=
  (show Call prog clsT X (d + 1) 169 [(2, 89), (0, x1)] (mk E c s (hh g)) = Ev prog clsT X d mc169 0 [(2, 89), (0, x1), (3, 0)] [] (mk E c s (hh g)) from rfl).trans (r169_0 X E c s g d x1 )
theorem r169_46 (d : Nat) (x1 s0 : Int) : Ev prog clsT X d mc169 46 [(2, 89), (0, x1), (3, 0)] [(0, s0)] (mk E c s (hh g)) =
  (if cmpI .eq s0 0 = true then
  (some ((0, (g 89 25)), ((mk E c s (hh g)))))
else
  (Ev prog clsT X d mc169 38 [(2, 89), (0, x1), (3, 0)] [] (mk E c s (hh g)))) :=
  (evk_at (r := (if cmpI .eq s0 0 = true then
  ((fget 6244 ((mk E c s (hh g))) 89).bind fun v1 =>
    some ((0, v1), (mk E c s (hh g))))
else
  (Ev prog clsT X d mc169 38 [(2, 89), (0, x1), (3, 0)] [] (mk E c s (hh g))))) X [0, 2, 38, 46, 56, 86, 161] 5 rfl).trans (by simp (disch := decide) only [F6244_89, bindI, Option.bind_some, if_true_, and_self, ite_true, true_and, true_or, or_true])
theorem r169_56 (d : Nat) (x1 s0 : Int) : Ev prog clsT X d mc169 56 [(2, 89), (0, x1), (3, 0)] [(0, s0)] (mk E c s (hh g)) =
  (if cmpI .ne s0 0 = true then
  (Ev prog clsT X d mc169 38 [(2, 89), (0, x1), (3, 0)] [] (mk E c s (hh g)))
else
  (some ((0, (g 89 25)), ((mk E c s (hh g)))))) :=
  (evk_at (r := (if cmpI .ne s0 0 = true then
  (Ev prog clsT X d mc169 38 [(2, 89), (0, x1), (3, 0)] [] (mk E c s (hh g)))
else
  ((fget 6244 ((mk E c s (hh g))) 89).bind fun v1 =>
    some ((0, v1), (mk E c s (hh g)))))) X [0, 2, 38, 46, 56, 86, 161] 5 rfl).trans (by simp (disch := decide) only [F6244_89, bindI, Option.bind_some, if_true_, and_self, ite_true, true_and, true_or, or_true])
theorem r170_0 (d : Nat) : Ev prog clsT X d mc170 0 [(2, 89), (3, 0)] [] (mk E c s (hh g)) =
  ((Call prog clsT X d 171 [(2, 89), (1, 92275)] ((mk E c s (hh g)))).bind fun r1 => if r1.1.1 = 4 then none else
  Ev prog clsT X d mc170 3 [(2, 89), (3, 0)] (pushR r1.1 []) r1.2) :=
  (evk_at (r := (if (2 : Nat) = 2 ∧ rcv ((mk E c s (hh g))) 89 13 = true then
  ((Call prog clsT X d 171 [(2, 89), (1, 92275)] ((mk E c s (hh g)))).bind fun r1 => if r1.1.1 = 4 then none else
  Ev prog clsT X d mc170 3 [(2, 89), (3, 0)] (pushR r1.1 []) r1.2) else none)) X [0, 3, 9, 15, 25, 30] 4 rfl).trans (by simp (disch := decide) only [R89_13, bindI, Option.bind_some, if_true_, and_self, ite_true, true_and, true_or, or_true])
theorem rc170_ (d : Nat) : Call prog clsT X (d + 1) 170 [(2, 89)] (mk E c s (hh g)) =
  ((Call prog clsT X d 171 [(2, 89), (1, 92275)] ((mk E c s (hh g)))).bind fun r1 => if r1.1.1 = 4 then none else
  Ev prog clsT X d mc170 3 [(2, 89), (3, 0)] (pushR r1.1 []) r1.2) :=
  (show Call prog clsT X (d + 1) 170 [(2, 89)] (mk E c s (hh g)) = Ev prog clsT X d mc170 0 [(2, 89), (3, 0)] [] (mk E c s (hh g)) from rfl).trans (r170_0 X E c s g d  )
theorem r170_3 (d : Nat) (s0 : Int) : Ev prog clsT X d mc170 3 [(2, 89), (3, 0)] [(0, s0)] (mk E c s (hh g)) =
  (if cmpI .eq s0 0 = true then
  ((Call prog clsT X d 171 [(2, 89), (1, 10421318)] ((mk E c s (hh g)))).bind fun r1 => if r1.1.1 = 4 then none else
    Ev prog clsT X d mc170 9 [(2, 89), (3, 0)] (pushR r1.1 []) r1.2)
else
  (if cmpI .ge 0 0 = true then
    ((Call prog clsT X d 173 [(2, 89), (0, 0), (0, 1)] ((mk E c s (hh g)))).bind fun r2 => if r2.1.1 = 4 then none else
      Ev prog clsT X d mc170 30 [(2, 89), (0, 0)] (pushR r2.1 []) r2.2)
  else
    ((Call prog clsT X d 172 [(2, 89), (0, 1)] ((mk E c s (hh g)))).bind fun r3 => if r3.1.1 = 4 then none else
      Ev prog clsT X d mc170 25 [(2, 89), (0, 0)] (pushR r3.1 []) r3.2))) :=
  (evk_at (r := (if cmpI .eq s0 0 = true then
  (if (2 : Nat) = 2 ∧ rcv ((mk E c s (hh g))) 89 13 = true then
    ((Call prog clsT X d 171 [(2, 89), (1, 10421318)] ((mk E c s (hh g)))).bind fun r1 => if r1.1.1 = 4 then none else
    Ev prog clsT X d mc170 9 [(2, 89), (3, 0)] (pushR r1.1 []) r1.2) else none)
else
  (if cmpI .ge 0 0 = true then
    (if (2 : Nat) = 2 ∧ rcv ((mk E c s (hh g))) 89 13 = true then
      ((Call prog clsT X d 173 [(2, 89), (0, 0), (0, 1)] ((mk E c s (hh g)))).bind fun r2 => if r2.1.1 = 4 then none else
      Ev prog clsT X d mc170 30 [(2, 89), (0, 0)] (pushR r2.1 []) r2.2) else none)
  else
    (if (2 : Nat) = 2 ∧ rcv ((mk E c s (hh g))) 89 13 = true then
      ((Call prog clsT X d 172 [(2, 89), (0, 1)] ((mk E c s (hh g)))).bind fun r3 => if r3.1.1 = 4 then none else
      Ev prog clsT X d mc170 25 [(2, 89), (0, 0)] (pushR r3.1 []) r3.2) else none)))) X [0, 3, 9, 15, 25, 30] 11 rfl).trans (by simp (disch := decide) only [R89_13, bindI, Option.bind_some, if_true_, and_self, ite_true, true_and, true_or, or_true])
theorem r170_9 (d : Nat) (s0 : Int) : Ev prog clsT X d mc170 9 [(2, 89), (3, 0)] [(0, s0)] (mk E c s (hh g)) =
  (if cmpI .eq s0 0 = true then
  ((Call prog clsT X d 171 [(2, 89), (1, 208022)] ((mk E c s (hh g)))).bind fun r1 => if r1.1.1 = 4 then none else
    Ev prog clsT X d mc170 15 [(2, 89), (3, 0)] (pushR r1.1 []) r1.2)
else
  (if cmpI .ge 1 0 = true then
    ((Call prog clsT X d 173 [(2, 89), (0, 1), (0, 1)] ((mk E c s (hh g)))).bind fun r2 => if r2.1.1 = 4 then none else
      Ev prog clsT X d mc170 30 [(2, 89), (0, 1)] (pushR r2.1 []) r2.2)
  else
    ((Call prog clsT X d 172 [(2, 89), (0, 1)] ((mk E c s (hh g)))).bind fun r3 => if r3.1.1 = 4 then none else
      Ev prog clsT X d mc170 25 [(2, 89), (0, 1)] (pushR r3.1 []) r3.2))) :=
  (evk_at (r := (if cmpI .eq s0 0 = true then
  (if (2 : Nat) = 2 ∧ rcv ((mk E c s (hh g))) 89 13 = true then
    ((Call prog clsT X d 171 [(2, 89), (1, 208022)] ((mk E c s (hh g)))).bind fun r1 => if r1.1.1 = 4 then none else
    Ev prog clsT X d mc170 15 [(2, 89), (3, 0)] (pushR r1.1 []) r1.2) else none)
else
  (if cmpI .ge 1 0 = true then
    (if (2 : Nat) = 2 ∧ rcv ((mk E c s (hh g))) 89 13 = true then
      ((Call prog clsT X d 173 [(2, 89), (0, 1), (0, 1)] ((mk E c s (hh g)))).bind fun r2 => if r2.1.1 = 4 then none else
      Ev prog clsT X d mc170 30 [(2, 89), (0, 1)] (pushR r2.1 []) r2.2) else none)
  else
    (if (2 : Nat) = 2 ∧ rcv ((mk E c s (hh g))) 89 13 = true then
      ((Call prog clsT X d 172 [(2, 89), (0, 1)] ((mk E c s (hh g)))).bind fun r3 => if r3.1.1 = 4 then none else
      Ev prog clsT X d mc170 25 [(2, 89), (0, 1)] (pushR r3.1 []) r3.2) else none)))) X [0, 3, 9, 15, 25, 30] 11 rfl).trans (by simp (disch := decide) only [R89_13, bindI, Option.bind_some, if_true_, and_self, ite_true, true_and, true_or, or_true])
theorem r170_15 (d : Nat) (s0 : Int) : Ev prog clsT X d mc170 15 [(2, 89), (3, 0)] [(0, s0)] (mk E c s (hh g)) =
  (if cmpI .eq s0 0 = true then
  (if cmpI .ge ((-1)) 0 = true then
    ((Call prog clsT X d 173 [(2, 89), (0, (-1)), (0, 1)] ((mk E c s (hh g)))).bind fun r1 => if r1.1.1 = 4 then none else
      Ev prog clsT X d mc170 30 [(2, 89), (0, (-1))] (pushR r1.1 []) r1.2)
  else
    ((Call prog clsT X d 172 [(2, 89), (0, 1)] ((mk E c s (hh g)))).bind fun r2 => if r2.1.1 = 4 then none else
      Ev prog clsT X d mc170 25 [(2, 89), (0, (-1))] (pushR r2.1 []) r2.2))
else
  (if cmpI .ge 2 0 = true then
    ((Call prog clsT X d 173 [(2, 89), (0, 2), (0, 1)] ((mk E c s (hh g)))).bind fun r3 => if r3.1.1 = 4 then none else
      Ev prog clsT X d mc170 30 [(2, 89), (0, 2)] (pushR r3.1 []) r3.2)
  else
    ((Call prog clsT X d 172 [(2, 89), (0, 1)] ((mk E c s (hh g)))).bind fun r4 => if r4.1.1 = 4 then none else
      Ev prog clsT X d mc170 25 [(2, 89), (0, 2)] (pushR r4.1 []) r4.2))) :=
  (evk_at (r := (if cmpI .eq s0 0 = true then
  (if cmpI .ge ((-1)) 0 = true then
    (if (2 : Nat) = 2 ∧ rcv ((mk E c s (hh g))) 89 13 = true then
      ((Call prog clsT X d 173 [(2, 89), (0, (-1)), (0, 1)] ((mk E c s (hh g)))).bind fun r1 => if r1.1.1 = 4 then none else
      Ev prog clsT X d mc170 30 [(2, 89), (0, (-1))] (pushR r1.1 []) r1.2) else none)
  else
    (if (2 : Nat) = 2 ∧ rcv ((mk E c s (hh g))) 89 13 = true then
      ((Call prog clsT X d 172 [(2, 89), (0, 1)] ((mk E c s (hh g)))).bind fun r2 => if r2.1.1 = 4 then none else
      Ev prog clsT X d mc170 25 [(2, 89), (0, (-1))] (pushR r2.1 []) r2.2) else none))
else
  (if cmpI .ge 2 0 = true then
    (if (2 : Nat) = 2 ∧ rcv ((mk E c s (hh g))) 89 13 = true then
      ((Call prog clsT X d 173 [(2, 89), (0, 2), (0, 1)] ((mk E c s (hh g)))).bind fun r3 => if r3.1.1 = 4 then none else
      Ev prog clsT X d mc170 30 [(2, 89), (0, 2)] (pushR r3.1 []) r3.2) else none)
  else
    (if (2 : Nat) = 2 ∧ rcv ((mk E c s (hh g))) 89 13 = true then
      ((Call prog clsT X d 172 [(2, 89), (0, 1)] ((mk E c s (hh g)))).bind fun r4 => if r4.1.1 = 4 then none else
      Ev prog clsT X d mc170 25 [(2, 89), (0, 2)] (pushR r4.1 []) r4.2) else none)))) X [0, 3, 9, 15, 25, 30] 11 rfl).trans (by simp (disch := decide) only [R89_13, bindI, Option.bind_some, if_true_, and_self, ite_true, true_and, true_or, or_true])
theorem r170_25 (d : Nat) (x1 s0 : Int) : Ev prog clsT X d mc170 25 [(2, 89), (0, x1)] [(0, s0)] (mk E c s (hh g)) =
  (Ev prog clsT X d mc170 30 [(2, 89), (0, x1)] [(0, s0)] (mk E c s (hh g))) :=
  evk_at X [0, 3, 9, 15, 25, 30] 3 rfl
theorem r170_30 (d : Nat) (x1 s0 : Int) : Ev prog clsT X d mc170 30 [(2, 89), (0, x1)] [(0, s0)] (mk E c s (hh g)) =
  (if (0 : Nat) = 0 ∧ one01 s0 = true then some ((0, s0), ((mk E c s (hh g)))) else none) :=
  (evk_at (r := (if (0 : Nat) = 0 ∧ one01 s0 = true then some ((0, s0), (mk E c s (hh g))) else none)) X [0, 3, 9, 15, 25, 30] 2 rfl).trans (by simp (disch := decide) only [bindI, Option.bind_some, if_true_, and_self, ite_true, true_and, true_or, or_true])
theorem r171_0 (d : Nat) (x1 : Int) : Ev prog clsT X d mc171 0 [(2, 89), (1, x1), (3, 0)] [] (mk E c s (hh g)) =
  (if cmpI .ne ((g 89 22)) 1 = true then
  (some ((0, 0), ((mk E c s (hh g)))))
else
  (if cmpI .ne ((lcmpI ((g 89 23)) x1)) 0 = true then
    (some ((0, 0), ((mk E c s (hh g)))))
  else
    (some ((0, 1), ((mk E c s (hh g))))))) :=
  (evk_at (r := ((fget 6232 ((mk E c s (hh g))) 89).bind fun v1 =>
  if cmpI .ne v1 1 = true then
  (some ((0, 0), (mk E c s (hh g))))
else
  ((fget 6237 ((mk E c s (hh g))) 89).bind fun v2 =>
    if cmpI .ne ((lcmpI v2 x1)) 0 = true then
    (some ((0, 0), (mk E c s (hh g))))
  else
    (some ((0, 1), (mk E c s (hh g))))))) X [0] 13 rfl).trans (by simp (disch := decide) only [F6232_89, F6237_89, bindI, Option.bind_some, if_true_, and_self, ite_true, true_and, true_or, or_true])
theorem rc171_ (d : Nat) (x1 : Int) : Call prog clsT X (d + 1) 171 [(2, 89), (1, x1)] (mk E c s (hh g)) =
  (if cmpI .ne ((g 89 22)) 1 = true then
  (some ((0, 0), ((mk E c s (hh g)))))
else
  (if cmpI .ne ((lcmpI ((g 89 23)) x1)) 0 = true then
    (some ((0, 0), ((mk E c s (hh g)))))
  else
    (some ((0, 1), ((mk E c s (hh g))))))) :=
  (show Call prog clsT X (d + 1) 171 [(2, 89), (1, x1)] (mk E c s (hh g)) = Ev prog clsT X d mc171 0 [(2, 89), (1, x1), (3, 0)] [] (mk E c s (hh g)) from rfl).trans (r171_0 X E c s g d x1 )
theorem r172_0 (d : Nat) (x1 : Int) : Ev prog clsT X d mc172 0 [(2, 89), (0, x1)] [] (mk E c s (hh g)) =
  (some ((0, 0), ((mk E c s (hh (up g 89 25 ((w32 (x1 + ((w32 (16 * ((g 89 21)))))))))))))) :=
  (evk_at (r := ((fget 6228 ((mk E c s (hh g))) 89).bind fun v1 =>
  (fput 6244 ((mk E c s (hh g))) 89 ((w32 (x1 + ((w32 (16 * v1))))))).bind fun M2 =>
  some ((0, 0), M2))) X [0] 11 rfl).trans (by simp (disch := decide) only [F6228_89, W6244_89, bindI, Option.bind_some, if_true_, and_self, ite_true, true_and, true_or, or_true])
theorem rc172_ (d : Nat) (x1 : Int) : Call prog clsT X (d + 1) 172 [(2, 89), (0, x1)] (mk E c s (hh g)) =
  (some ((0, 0), ((mk E c s (hh (up g 89 25 ((w32 (x1 + ((w32 (16 * ((g 89 21)))))))))))))) :=
  (show Call prog clsT X (d + 1) 172 [(2, 89), (0, x1)] (mk E c s (hh g)) = Ev prog clsT X d mc172 0 [(2, 89), (0, x1)] [] (mk E c s (hh g)) from rfl).trans (r172_0 X E c s g d x1 )
theorem r173_0 (d : Nat) (x1 x2 : Int) : Ev prog clsT X d mc173 0 [(2, 89), (0, x1), (0, x2)] [] (mk E c s (hh g)) =
  (if inb ((w32 (108 + x1))) 117 = true then
  (if cmpI .eq ((g 110 (Int.toNat ((w32 (108 + x1)))))) 0 = true then
  ((Call prog clsT X d 167 [(2, 89)] ((mk E c s (hh g)))).bind fun r1 => if r1.1.1 = 4 then none else
    Ev prog clsT X d mc173 13 [(2, 89), (0, x1), (0, x2)] (pushR r1.1 []) r1.2)
else
  ((Call prog clsT X d 172 [(2, 89), (0, 3)] ((mk E c s (hh g)))).bind fun r2 => if r2.1.1 = 4 then none else
    Ev prog clsT X d mc173 10 [(2, 89), (0, x1), (0, x2)] (pushR r2.1 []) r2.2))
else none) :=
  (evk_at (r := ((fget 6266 ((mk E c s (hh g))) 89).bind fun v1 =>
  (aget X 102 ((mk E c s (hh g))) v1 ((w32 (108 + x1)))).bind fun v2 =>
  if cmpI .eq v2 0 = true then
  (if (2 : Nat) = 2 ∧ rcv ((mk E c s (hh g))) 89 13 = true then
    ((Call prog clsT X d 167 [(2, 89)] ((mk E c s (hh g)))).bind fun r3 => if r3.1.1 = 4 then none else
    Ev prog clsT X d mc173 13 [(2, 89), (0, x1), (0, x2)] (pushR r3.1 []) r3.2) else none)
else
  (if (2 : Nat) = 2 ∧ rcv ((mk E c s (hh g))) 89 13 = true then
    ((Call prog clsT X d 172 [(2, 89), (0, 3)] ((mk E c s (hh g)))).bind fun r4 => if r4.1.1 = 4 then none else
    Ev prog clsT X d mc173 10 [(2, 89), (0, x1), (0, x2)] (pushR r4.1 []) r4.2) else none))) X [0, 10, 13, 18, 22] 11 rfl).trans (by simp (disch := decide) only [A110, F6266_89, R89_13, bindI, Option.bind_some, if_true_, and_self, ite_true, true_and, true_or, or_true])
theorem rc173_ (d : Nat) (x1 x2 : Int) : Call prog clsT X (d + 1) 173 [(2, 89), (0, x1), (0, x2)] (mk E c s (hh g)) =
  (if inb ((w32 (108 + x1))) 117 = true then
  (if cmpI .eq ((g 110 (Int.toNat ((w32 (108 + x1)))))) 0 = true then
  ((Call prog clsT X d 167 [(2, 89)] ((mk E c s (hh g)))).bind fun r1 => if r1.1.1 = 4 then none else
    Ev prog clsT X d mc173 13 [(2, 89), (0, x1), (0, x2)] (pushR r1.1 []) r1.2)
else
  ((Call prog clsT X d 172 [(2, 89), (0, 3)] ((mk E c s (hh g)))).bind fun r2 => if r2.1.1 = 4 then none else
    Ev prog clsT X d mc173 10 [(2, 89), (0, x1), (0, x2)] (pushR r2.1 []) r2.2))
else none) :=
  (show Call prog clsT X (d + 1) 173 [(2, 89), (0, x1), (0, x2)] (mk E c s (hh g)) = Ev prog clsT X d mc173 0 [(2, 89), (0, x1), (0, x2)] [] (mk E c s (hh g)) from rfl).trans (r173_0 X E c s g d x1 x2 )
theorem r173_10 (d : Nat) (x1 x2 s0 : Int) : Ev prog clsT X d mc173 10 [(2, 89), (0, x1), (0, x2)] [(0, s0)] (mk E c s (hh g)) =
  (if (0 : Nat) = 0 ∧ one01 s0 = true then some ((0, s0), ((mk E c s (hh g)))) else none) :=
  (evk_at (r := (if (0 : Nat) = 0 ∧ one01 s0 = true then some ((0, s0), (mk E c s (hh g))) else none)) X [0, 10, 13, 18, 22] 2 rfl).trans (by simp (disch := decide) only [bindI, Option.bind_some, if_true_, and_self, ite_true, true_and, true_or, or_true])
theorem r173_13 (d : Nat) (x1 x2 : Int) : Ev prog clsT X d mc173 13 [(2, 89), (0, x1), (0, x2)] [] (mk E c s (hh g)) =
  (if cmpI .eq x2 0 = true then
  ((Call prog clsT X d 175 [(2, 89), (0, x1)] ((mk E c s (hh g)))).bind fun r1 => if r1.1.1 = 4 then none else
    Ev prog clsT X d mc173 22 [(2, 89), (0, x1), (0, x2)] (pushR r1.1 []) r1.2)
else
  ((Call prog clsT X d 174 [(2, 89), (0, x1)] ((mk E c s (hh g)))).bind fun r2 => if r2.1.1 = 4 then none else
    Ev prog clsT X d mc173 18 [(2, 89), (0, x1), (0, x2)] (pushR r2.1 []) r2.2)) :=
  (evk_at (r := (if cmpI .eq x2 0 = true then
  (if (2 : Nat) = 2 ∧ rcv ((mk E c s (hh g))) 89 13 = true then
    ((Call prog clsT X d 175 [(2, 89), (0, x1)] ((mk E c s (hh g)))).bind fun r1 => if r1.1.1 = 4 then none else
    Ev prog clsT X d mc173 22 [(2, 89), (0, x1), (0, x2)] (pushR r1.1 []) r1.2) else none)
else
  (if (2 : Nat) = 2 ∧ rcv ((mk E c s (hh g))) 89 13 = true then
    ((Call prog clsT X d 174 [(2, 89), (0, x1)] ((mk E c s (hh g)))).bind fun r2 => if r2.1.1 = 4 then none else
    Ev prog clsT X d mc173 18 [(2, 89), (0, x1), (0, x2)] (pushR r2.1 []) r2.2) else none))) X [0, 10, 13, 18, 22] 6 rfl).trans (by simp (disch := decide) only [R89_13, bindI, Option.bind_some, if_true_, and_self, ite_true, true_and, true_or, or_true])
theorem r173_18 (d : Nat) (x1 x2 s0 : Int) : Ev prog clsT X d mc173 18 [(2, 89), (0, x1), (0, x2)] [(0, s0)] (mk E c s (hh g)) =
  (Ev prog clsT X d mc173 22 [(2, 89), (0, x1), (0, x2)] [(0, s0)] (mk E c s (hh g))) :=
  evk_at X [0, 10, 13, 18, 22] 3 rfl
theorem r173_22 (d : Nat) (x1 x2 s0 : Int) : Ev prog clsT X d mc173 22 [(2, 89), (0, x1), (0, x2)] [(0, s0)] (mk E c s (hh g)) =
  (if (0 : Nat) = 0 ∧ one01 s0 = true then some ((0, s0), ((mk E c s (hh g)))) else none) :=
  (evk_at (r := (if (0 : Nat) = 0 ∧ one01 s0 = true then some ((0, s0), (mk E c s (hh g))) else none)) X [0, 10, 13, 18, 22] 2 rfl).trans (by simp (disch := decide) only [bindI, Option.bind_some, if_true_, and_self, ite_true, true_and, true_or, or_true])
theorem r174_0 (d : Nat) (x1 : Int) : Ev prog clsT X d mc174 0 [(2, 89), (0, x1)] [] (mk E c s (hh g)) =
  ((Call prog clsT X d 171 [(2, 89), (1, 458690)] ((mk E c s (hh g)))).bind fun r1 => if r1.1.1 = 4 then none else
  Ev prog clsT X d mc174 3 [(2, 89), (0, x1)] (pushR r1.1 []) r1.2) :=
  (evk_at (r := (if (2 : Nat) = 2 ∧ rcv ((mk E c s (hh g))) 89 13 = true then
  ((Call prog clsT X d 171 [(2, 89), (1, 458690)] ((mk E c s (hh g)))).bind fun r1 => if r1.1.1 = 4 then none else
  Ev prog clsT X d mc174 3 [(2, 89), (0, x1)] (pushR r1.1 []) r1.2) else none)) X [0, 3, 7, 10, 13] 4 rfl).trans (by simp (disch := decide) only [R89_13, bindI, Option.bind_some, if_true_, and_self, ite_true, true_and, true_or, or_true])
theorem rc174_ (d : Nat) (x1 : Int) : Call prog clsT X (d + 1) 174 [(2, 89), (0, x1)] (mk E c s (hh g)) =
  ((Call prog clsT X d 171 [(2, 89), (1, 458690)] ((mk E c s (hh g)))).bind fun r1 => if r1.1.1 = 4 then none else
  Ev prog clsT X d mc174 3 [(2, 89), (0, x1)] (pushR r1.1 []) r1.2) :=
  (show Call prog clsT X (d + 1) 174 [(2, 89), (0, x1)] (mk E c s (hh g)) = Ev prog clsT X d mc174 0 [(2, 89), (0, x1)] [] (mk E c s (hh g)) from rfl).trans (r174_0 X E c s g d x1 )
theorem r174_3 (d : Nat) (x1 s0 : Int) : Ev prog clsT X d mc174 3 [(2, 89), (0, x1)] [(0, s0)] (mk E c s (hh g)) =
  (if cmpI .ne s0 0 = true then
  ((Call prog clsT X d 167 [(2, 89)] ((mk E c s (hh g)))).bind fun r1 => if r1.1.1 = 4 then none else
    Ev prog clsT X d mc174 10 [(2, 89), (0, x1)] (pushR r1.1 []) r1.2)
else
  ((Call prog clsT X d 172 [(2, 89), (0, 1)] ((mk E c s (hh g)))).bind fun r2 => if r2.1.1 = 4 then none else
    Ev prog clsT X d mc174 7 [(2, 89), (0, x1)] (pushR r2.1 []) r2.2)) :=
  (evk_at (r := (if cmpI .ne s0 0 = true then
  (if (2 : Nat) = 2 ∧ rcv ((mk E c s (hh g))) 89 13 = true then
    ((Call prog clsT X d 167 [(2, 89)] ((mk E c s (hh g)))).bind fun r1 => if r1.1.1 = 4 then none else
    Ev prog clsT X d mc174 10 [(2, 89), (0, x1)] (pushR r1.1 []) r1.2) else none)
else
  (if (2 : Nat) = 2 ∧ rcv ((mk E c s (hh g))) 89 13 = true then
    ((Call prog clsT X d 172 [(2, 89), (0, 1)] ((mk E c s (hh g)))).bind fun r2 => if r2.1.1 = 4 then none else
    Ev prog clsT X d mc174 7 [(2, 89), (0, x1)] (pushR r2.1 []) r2.2) else none))) X [0, 3, 7, 10, 13] 5 rfl).trans (by simp (disch := decide) only [R89_13, bindI, Option.bind_some, if_true_, and_self, ite_true, true_and, true_or, or_true])
theorem r174_7 (d : Nat) (x1 s0 : Int) : Ev prog clsT X d mc174 7 [(2, 89), (0, x1)] [(0, s0)] (mk E c s (hh g)) =
  (if (0 : Nat) = 0 ∧ one01 s0 = true then some ((0, s0), ((mk E c s (hh g)))) else none) :=
  (evk_at (r := (if (0 : Nat) = 0 ∧ one01 s0 = true then some ((0, s0), (mk E c s (hh g))) else none)) X [0, 3, 7, 10, 13] 2 rfl).trans (by simp (disch := decide) only [bindI, Option.bind_some, if_true_, and_self, ite_true, true_and, true_or, or_true])
theorem r174_10 (d : Nat) (x1 : Int) : Ev prog clsT X d mc174 10 [(2, 89), (0, x1)] [] (mk E c s (hh g)) =
  ((Call prog clsT X d 175 [(2, 89), (0, x1)] ((mk E c s (hh g)))).bind fun r1 => if r1.1.1 = 4 then none else
  Ev prog clsT X d mc174 13 [(2, 89), (0, x1)] (pushR r1.1 []) r1.2) :=
  (evk_at (r := (if (2 : Nat) = 2 ∧ rcv ((mk E c s (hh g))) 89 13 = true then
  ((Call prog clsT X d 175 [(2, 89), (0, x1)] ((mk E c s (hh g)))).bind fun r1 => if r1.1.1 = 4 then none else
  Ev prog clsT X d mc174 13 [(2, 89), (0, x1)] (pushR r1.1 []) r1.2) else none)) X [0, 3, 7, 10, 13] 4 rfl).trans (by simp (disch := decide) only [R89_13, bindI, Option.bind_some, if_true_, and_self, ite_true, true_and, true_or, or_true])
theorem r174_13 (d : Nat) (x1 s0 : Int) : Ev prog clsT X d mc174 13 [(2, 89), (0, x1)] [(0, s0)] (mk E c s (hh g)) =
  (if (0 : Nat) = 0 ∧ one01 s0 = true then some ((0, s0), ((mk E c s (hh g)))) else none) :=
  (evk_at (r := (if (0 : Nat) = 0 ∧ one01 s0 = true then some ((0, s0), (mk E c s (hh g))) else none)) X [0, 3, 7, 10, 13] 2 rfl).trans (by simp (disch := decide) only [bindI, Option.bind_some, if_true_, and_self, ite_true, true_and, true_or, or_true])
theorem r176_9 (d : Nat) (x1 x2 : Int) (w3 w4 w5 : MV) : Ev prog clsT X d mc176 9 [(2, 89), (0, x1), (0, x2), w3, w4, w5] [] (mk E c s (hh g)) =
  (if cmpI .eq x2 0 = true then
  ((Call prog clsT X d 180 [(2, 89), (0, 43)] ((mk E c s (hh g)))).bind fun r1 => if r1.1.1 = 4 then none else
    Ev prog clsT X d mc176 98 [(2, 89), (0, x1), (0, x2), (3, 0), (3, 0), (3, 0)] (pushR r1.1 []) r1.2)
else
  ((Call prog clsT X d 177 [(2, 89)] ((mk E c s (hh g)))).bind fun r2 => if r2.1.1 = 4 then none else
    Ev prog clsT X d mc176 13 [(2, 89), (0, x1), (0, x2), (3, 0), (3, 0), (3, 0)] (pushR r2.1 []) r2.2)) :=
  (evk_at (r := (if cmpI .eq x2 0 = true then
  (if (2 : Nat) = 2 ∧ rcv ((mk E c s (hh g))) 89 13 = true then
    ((Call prog clsT X d 180 [(2, 89), (0, 43)] ((mk E c s (hh g)))).bind fun r1 => if r1.1.1 = 4 then none else
    Ev prog clsT X d mc176 98 [(2, 89), (0, x1), (0, x2), (3, 0), (3, 0), (3, 0)] (pushR r1.1 []) r1.2) else none)
else
  (if (2 : Nat) = 2 ∧ rcv ((mk E c s (hh g))) 89 13 = true then
    ((Call prog clsT X d 177 [(2, 89)] ((mk E c s (hh g)))).bind fun r2 => if r2.1.1 = 4 then none else
    Ev prog clsT X d mc176 13 [(2, 89), (0, x1), (0, x2), (3, 0), (3, 0), (3, 0)] (pushR r2.1 []) r2.2) else none))) X [0, 9, 13, 17, 21, 35, 36, 42, 54, 80, 82, 94, 98, 102, 106, 111, 117, 122, 128, 132, 142, 147, 158, 162, 167, 172, 183, 189, 190, 205, 208, 213, 216] 6 rfl).trans (by simp (disch := decide) only [R89_13, bindI, Option.bind_some, if_true_, and_self, ite_true, true_and, true_or, or_true])
theorem r176_13 (d : Nat) (x1 x2 s0 : Int) : Ev prog clsT X d mc176 13 [(2, 89), (0, x1), (0, x2), (3, 0), (3, 0), (3, 0)] [(0, s0)] (mk E c s (hh g)) =
  ((Call prog clsT X d 171 [(2, 89), (1, 10631)] ((mk E c s (hh g)))).bind fun r1 => if r1.1.1 = 4 then none else
  Ev prog clsT X d mc176 17 [(2, 89), (0, x1), (0, x2), (0, s0), (3, 0), (3, 0)] (pushR r1.1 []) r1.2) :=
  (evk_at (r := (if (2 : Nat) = 2 ∧ rcv ((mk E c s (hh g))) 89 13 = true then
  ((Call prog clsT X d 171 [(2, 89), (1, 10631)] ((mk E c s (hh g)))).bind fun r1 => if r1.1.1 = 4 then none else
  Ev prog clsT X d mc176 17 [(2, 89), (0, x1), (0, x2), (0, s0), (3, 0), (3, 0)] (pushR r1.1 []) r1.2) else none)) X [0, 9, 13, 17, 21, 35, 36, 42, 54, 80, 82, 94, 98, 102, 106, 111, 117, 122, 128, 132, 142, 147, 158, 162, 167, 172, 183, 189, 190, 205, 208, 213, 216] 5 rfl).trans (by simp (disch := decide) only [R89_13, bindI, Option.bind_some, if_true_, and_self, ite_true, true_and, true_or, or_true])
theorem r176_17 (d : Nat) (x1 x2 x3 s0 : Int) : Ev prog clsT X d mc176 17 [(2, 89), (0, x1), (0, x2), (0, x3), (3, 0), (3, 0)] [(0, s0)] (mk E c s (hh g)) =
  ((Call prog clsT X d 180 [(2, 89), (0, 40)] ((mk E c s (hh g)))).bind fun r1 => if r1.1.1 = 4 then none else
  Ev prog clsT X d mc176 21 [(2, 89), (0, x1), (0, x2), (0, x3), (0, s0), (3, 0)] (pushR r1.1 []) r1.2) :=
  (evk_at (r := (if (2 : Nat) = 2 ∧ rcv ((mk E c s (hh g))) 89 13 = true then
  ((Call prog clsT X d 180 [(2, 89), (0, 40)] ((mk E c s (hh g)))).bind fun r1 => if r1.1.1 = 4 then none else
  Ev prog clsT X d mc176 21 [(2, 89), (0, x1), (0, x2), (0, x3), (0, s0), (3, 0)] (pushR r1.1 []) r1.2) else none)) X [0, 9, 13, 17, 21, 35, 36, 42, 54, 80, 82, 94, 98, 102, 106, 111, 117, 122, 128, 132, 142, 147, 158, 162, 167, 172, 183, 189, 190, 205, 208, 213, 216] 5 rfl).trans (by simp (disch := decide) only [R89_13, bindI, Option.bind_some, if_true_, and_self, ite_true, true_and, true_or, or_true])
theorem r176_21 (d : Nat) (x1 x2 x3 x4 s0 : Int) : Ev prog clsT X d mc176 21 [(2, 89), (0, x1), (0, x2), (0, x3), (0, x4), (3, 0)] [(0, s0)] (mk E c s (hh g)) =
  (if cmpI .ne x3 0 = true then
  (Ev prog clsT X d mc176 36 [(2, 89), (0, x1), (0, x2), (0, x3), (0, x4), (0, s0)] [] (mk E c s (hh g)))
else
  (if cmpI .ne x4 0 = true then
    (Ev prog clsT X d mc176 36 [(2, 89), (0, x1), (0, x2), (0, x3), (0, x4), (0, s0)] [] (mk E c s (hh g)))
  else
    (if cmpI .ne s0 0 = true then
      (Ev prog clsT X d mc176 36 [(2, 89), (0, x1), (0, x2), (0, x3), (0, x4), (0, s0)] [] (mk E c s (hh g)))
    else
      (if cmpI .eq ((g 89 22)) 2 = true then
        (Ev prog clsT X d mc176 36 [(2, 89), (0, x1), (0, x2), (0, x3), (0, x4), (0, s0)] [] (mk E c s (hh g)))
      else
        ((Call prog clsT X d 172 [(2, 89), (0, 1)] ((mk E c s (hh g)))).bind fun r1 => if r1.1.1 = 4 then none else
          Ev prog clsT X d mc176 35 [(2, 89), (0, x1), (0, x2), (0, x3), (0, x4), (0, s0)] (pushR r1.1 []) r1.2))))) :=
  (evk_at (r := (if cmpI .ne x3 0 = true then
  (Ev prog clsT X d mc176 36 [(2, 89), (0, x1), (0, x2), (0, x3), (0, x4), (0, s0)] [] (mk E c s (hh g)))
else
  (if cmpI .ne x4 0 = true then
    (Ev prog clsT X d mc176 36 [(2, 89), (0, x1), (0, x2), (0, x3), (0, x4), (0, s0)] [] (mk E c s (hh g)))
  else
    (if cmpI .ne s0 0 = true then
      (Ev prog clsT X d mc176 36 [(2, 89), (0, x1), (0, x2), (0, x3), (0, x4), (0, s0)] [] (mk E c s (hh g)))
    else
      ((fget 6232 ((mk E c s (hh g))) 89).bind fun v1 =>
        if cmpI .eq v1 2 = true then
        (Ev prog clsT X d mc176 36 [(2, 89), (0, x1), (0, x2), (0, x3), (0, x4), (0, s0)] [] (mk E c s (hh g)))
      else
        (if (2 : Nat) = 2 ∧ rcv ((mk E c s (hh g))) 89 13 = true then
          ((Call prog clsT X d 172 [(2, 89), (0, 1)] ((mk E c s (hh g)))).bind fun r2 => if r2.1.1 = 4 then none else
          Ev prog clsT X d mc176 35 [(2, 89), (0, x1), (0, x2), (0, x3), (0, x4), (0, s0)] (pushR r2.1 []) r2.2) else none)))))) X [0, 9, 13, 17, 21, 35, 36, 42, 54, 80, 82, 94, 98, 102, 106, 111, 117, 122, 128, 132, 142, 147, 158, 162, 167, 172, 183, 189, 190, 205, 208, 213, 216] 15 rfl).trans (by simp (disch := decide) only [F6232_89, R89_13, bindI, Option.bind_some, if_true_, and_self, ite_true, true_and, true_or, or_true])
theorem r176_35 (d : Nat) (x1 x2 x3 x4 x5 s0 : Int) : Ev prog clsT X d mc176 35 [(2, 89), (0, x1), (0, x2), (0, x3), (0, x4), (0, x5)] [(0, s0)] (mk E c s (hh g)) =
  (if (0 : Nat) = 0 ∧ one01 s0 = true then some ((0, s0), ((mk E c s (hh g)))) else none) :=
  (evk_at (r := (if (0 : Nat) = 0 ∧ one01 s0 = true then some ((0, s0), (mk E c s (hh g))) else none)) X [0, 9, 13, 17, 21, 35, 36, 42, 54, 80, 82, 94, 98, 102, 106, 111, 117, 122, 128, 132, 142, 147, 158, 162, 167, 172, 183, 189, 190, 205, 208, 213, 216] 2 rfl).trans (by simp (disch := decide) only [bindI, Option.bind_some, if_true_, and_self, ite_true, true_and, true_or, or_true])
theorem r176_36 (d : Nat) (x1 x2 x3 x4 x5 : Int) : Ev prog clsT X d mc176 36 [(2, 89), (0, x1), (0, x2), (0, x3), (0, x4), (0, x5)] [] (mk E c s (hh g)) =
  (if cmpI .ne x1 5 = true then
  (if cmpI .ne x4 0 = true then
    (if cmpI .eq x4 0 = true then
      ((Call prog clsT X d 181 [(2, 89), (0, 28)] ((mk E c s (hh g)))).bind fun r1 => if r1.1.1 = 4 then none else
        Ev prog clsT X d mc176 54 [(2, 89), (0, x1), (0, x2), (0, x3), (0, x4), (0, x5)] (pushR r1.1 []) r1.2)
    else
      ((Call prog clsT X d 181 [(2, 89), (0, 30)] ((mk E c s (hh g)))).bind fun r2 => if r2.1.1 = 4 then none else
        Ev prog clsT X d mc176 54 [(2, 89), (0, x1), (0, x2), (0, x3), (0, x4), (0, x5)] (pushR r2.1 []) r2.2))
  else
    (if cmpI .eq x5 0 = true then
      (if cmpI .le x3 0 = true then
        ((Call prog clsT X d 181 [(2, 89), (0, (w32 (100 + ((g 89 24)))))] ((mk E c s (hh g)))).bind fun r3 => if r3.1.1 = 4 then none else
          Ev prog clsT X d mc176 80 [(2, 89), (0, x1), (0, x2), (0, x3), (0, x4), (0, x5)] (pushR r3.1 []) r3.2)
      else
        ((Call prog clsT X d 181 [(2, 89), (0, x3)] ((mk E c s (hh g)))).bind fun r4 => if r4.1.1 = 4 then none else
          Ev prog clsT X d mc176 80 [(2, 89), (0, x1), (0, x2), (0, x3), (0, x4), (0, x5)] (pushR r4.1 []) r4.2))
    else
      (if cmpI .eq x4 0 = true then
        ((Call prog clsT X d 181 [(2, 89), (0, 28)] ((mk E c s (hh g)))).bind fun r5 => if r5.1.1 = 4 then none else
          Ev prog clsT X d mc176 54 [(2, 89), (0, x1), (0, x2), (0, x3), (0, x4), (0, x5)] (pushR r5.1 []) r5.2)
      else
        ((Call prog clsT X d 181 [(2, 89), (0, 30)] ((mk E c s (hh g)))).bind fun r6 => if r6.1.1 = 4 then none else
          Ev prog clsT X d mc176 54 [(2, 89), (0, x1), (0, x2), (0, x3), (0, x4), (0, x5)] (pushR r6.1 []) r6.2))))
else
  ((Call prog clsT X d 172 [(2, 89), (0, 5)] ((mk E c s (hh g)))).bind fun r7 => if r7.1.1 = 4 then none else
    Ev prog clsT X d mc176 42 [(2, 89), (0, x1), (0, x2), (0, x3), (0, x4), (0, x5)] (pushR r7.1 []) r7.2)) :=
  (evk_at (r := (if cmpI .ne x1 5 = true then
  (if cmpI .ne x4 0 = true then
    (if cmpI .eq x4 0 = true then
      (if (2 : Nat) = 2 ∧ rcv ((mk E c s (hh g))) 89 13 = true then
        ((Call prog clsT X d 181 [(2, 89), (0, 28)] ((mk E c s (hh g)))).bind fun r1 => if r1.1.1 = 4 then none else
        Ev prog clsT X d mc176 54 [(2, 89), (0, x1), (0, x2), (0, x3), (0, x4), (0, x5)] (pushR r1.1 []) r1.2) else none)
    else
      (if (2 : Nat) = 2 ∧ rcv ((mk E c s (hh g))) 89 13 = true then
        ((Call prog clsT X d 181 [(2, 89), (0, 30)] ((mk E c s (hh g)))).bind fun r2 => if r2.1.1 = 4 then none else
        Ev prog clsT X d mc176 54 [(2, 89), (0, x1), (0, x2), (0, x3), (0, x4), (0, x5)] (pushR r2.1 []) r2.2) else none))
  else
    (if cmpI .eq x5 0 = true then
      (if cmpI .le x3 0 = true then
        ((fget 6240 ((mk E c s (hh g))) 89).bind fun v3 =>
          if (2 : Nat) = 2 ∧ rcv ((mk E c s (hh g))) 89 13 = true then
          ((Call prog clsT X d 181 [(2, 89), (0, (w32 (100 + v3)))] ((mk E c s (hh g)))).bind fun r4 => if r4.1.1 = 4 then none else
          Ev prog clsT X d mc176 80 [(2, 89), (0, x1), (0, x2), (0, x3), (0, x4), (0, x5)] (pushR r4.1 []) r4.2) else none)
      else
        (if (2 : Nat) = 2 ∧ rcv ((mk E c s (hh g))) 89 13 = true then
          ((Call prog clsT X d 181 [(2, 89), (0, x3)] ((mk E c s (hh g)))).bind fun r5 => if r5.1.1 = 4 then none else
          Ev prog clsT X d mc176 80 [(2, 89), (0, x1), (0, x2), (0, x3), (0, x4), (0, x5)] (pushR r5.1 []) r5.2) else none))
    else
      (if cmpI .eq x4 0 = true then
        (if (2 : Nat) = 2 ∧ rcv ((mk E c s (hh g))) 89 13 = true then
          ((Call prog clsT X d 181 [(2, 89), (0, 28)] ((mk E c s (hh g)))).bind fun r6 => if r6.1.1 = 4 then none else
          Ev prog clsT X d mc176 54 [(2, 89), (0, x1), (0, x2), (0, x3), (0, x4), (0, x5)] (pushR r6.1 []) r6.2) else none)
      else
        (if (2 : Nat) = 2 ∧ rcv ((mk E c s (hh g))) 89 13 = true then
          ((Call prog clsT X d 181 [(2, 89), (0, 30)] ((mk E c s (hh g)))).bind fun r7 => if r7.1.1 = 4 then none else
          Ev prog clsT X d mc176 54 [(2, 89), (0, x1), (0, x2), (0, x3), (0, x4), (0, x5)] (pushR r7.1 []) r7.2) else none))))
else
  (if (2 : Nat) = 2 ∧ rcv ((mk E c s (hh g))) 89 13 = true then
    ((Call prog clsT X d 172 [(2, 89), (0, 5)] ((mk E c s (hh g)))).bind fun r8 => if r8.1.1 = 4 then none else
    Ev prog clsT X d mc176 42 [(2, 89), (0, x1), (0, x2), (0, x3), (0, x4), (0, x5)] (pushR r8.1 []) r8.2) else none))) X [0, 9, 13, 17, 21, 35, 36, 42, 54, 80, 82, 94, 98, 102, 106, 111, 117, 122, 128, 132, 142, 147, 158, 162, 167, 172, 183, 189, 190, 205, 208, 213, 216] 16 rfl).trans (by simp (disch := decide) only [F6240_89, R89_13, bindI, Option.bind_some, if_true_, and_self, ite_true, true_and, true_or, or_true])
theorem r176_42 (d : Nat) (x1 x2 x3 x4 x5 s0 : Int) : Ev prog clsT X d mc176 42 [(2, 89), (0, x1), (0, x2), (0, x3), (0, x4), (0, x5)] [(0, s0)] (mk E c s (hh g)) =
  (if (0 : Nat) = 0 ∧ one01 s0 = true then some ((0, s0), ((mk E c s (hh g)))) else none) :=
  (evk_at (r := (if (0 : Nat) = 0 ∧ one01 s0 = true then some ((0, s0), (mk E c s (hh g))) else none)) X [0, 9, 13, 17, 21, 35, 36, 42, 54, 80, 82, 94, 98, 102, 106, 111, 117, 122, 128, 132, 142, 147, 158, 162, 167, 172, 183, 189, 190, 205, 208, 213, 216] 2 rfl).trans (by simp (disch := decide) only [bindI, Option.bind_some, if_true_, and_self, ite_true, true_and, true_or, or_true])
theorem r176_80 (d : Nat) (x1 x2 x3 x4 x5 : Int) : Ev prog clsT X d mc176 80 [(2, 89), (0, x1), (0, x2), (0, x3), (0, x4), (0, x5)] [] (mk E c s (hh g)) =
  (Ev prog clsT X d mc176 82 [(2, 89), (0, x1), (0, 0), (0, x3), (0, x4), (0, x5)] [] (mk E c s (hh g))) :=
  evk_at X [0, 9, 13, 17, 21, 35, 36, 42, 54, 80, 82, 94, 98, 102, 106, 111, 117, 122, 128, 132, 142, 147, 158, 162, 167, 172, 183, 189, 190, 205, 208, 213, 216] 4 rfl
theorem r176_82 (d : Nat) (x1 x2 : Int) (w3 w4 w5 : MV) : Ev prog clsT X d mc176 82 [(2, 89), (0, x1), (0, x2), w3, w4, w5] [] (mk E c s (hh g)) =
  (if cmpI .le x1 0 = true then
  ((Call prog clsT X d 167 [(2, 89)] ((mk E c s (hh g)))).bind fun r1 => if r1.1.1 = 4 then none else
    Ev prog clsT X d mc176 94 [(2, 89), (0, x1), (0, x2), (3, 0), (3, 0), (3, 0)] (pushR r1.1 []) r1.2)
else
  (if inb x1 7 = true then
    (if cmpI .ne ((g 115 (Int.toNat x1))) 1 = true then
    ((Call prog clsT X d 167 [(2, 89)] ((mk E c s (hh g)))).bind fun r2 => if r2.1.1 = 4 then none else
      Ev prog clsT X d mc176 94 [(2, 89), (0, x1), (0, x2), (3, 0), (3, 0), (3, 0)] (pushR r2.1 []) r2.2)
  else
    (Ev prog clsT X d mc176 82 [(2, 89), (0, (w32 (x1 + (-1)))), (0, x2), (3, 0), (3, 0), (3, 0)] [] (mk E c s (hh g))))
  else none)) :=
  (evk_at (r := (if cmpI .le x1 0 = true then
  (if (2 : Nat) = 2 ∧ rcv ((mk E c s (hh g))) 89 13 = true then
    ((Call prog clsT X d 167 [(2, 89)] ((mk E c s (hh g)))).bind fun r1 => if r1.1.1 = 4 then none else
    Ev prog clsT X d mc176 94 [(2, 89), (0, x1), (0, x2), (3, 0), (3, 0), (3, 0)] (pushR r1.1 []) r1.2) else none)
else
  ((fget 6294 ((mk E c s (hh g))) 89).bind fun v2 =>
    (aget X 100 ((mk E c s (hh g))) v2 x1).bind fun v3 =>
    if cmpI .ne v3 1 = true then
    (if (2 : Nat) = 2 ∧ rcv ((mk E c s (hh g))) 89 13 = true then
      ((Call prog clsT X d 167 [(2, 89)] ((mk E c s (hh g)))).bind fun r4 => if r4.1.1 = 4 then none else
      Ev prog clsT X d mc176 94 [(2, 89), (0, x1), (0, x2), (3, 0), (3, 0), (3, 0)] (pushR r4.1 []) r4.2) else none)
  else
    (Ev prog clsT X d mc176 82 [(2, 89), (0, (w32 (x1 + (-1)))), (0, x2), (3, 0), (3, 0), (3, 0)] [] (mk E c s (hh g)))))) X [0, 9, 13, 17, 21, 35, 36, 42, 54, 80, 82, 94, 98, 102, 106, 111, 117, 122, 128, 132, 142, 147, 158, 162, 167, 172, 183, 189, 190, 205, 208, 213, 216] 12 rfl).trans (by simp (disch := decide) only [A115, F6294_89, R89_13, bindI, Option.bind_some, if_true_, and_self, ite_true, true_and, true_or, or_true])
theorem r176_94 (d : Nat) (x1 x2 : Int) (w3 w4 w5 : MV) : Ev prog clsT X d mc176 94 [(2, 89), (0, x1), (0, x2), w3, w4, w5] [] (mk E c s (hh g)) =
  (Ev prog clsT X d mc176 9 [(2, 89), (0, x1), (0, x2), w3, w4, w5] [] (mk E c s (hh g))) :=
  evk_at X [0, 9, 13, 17, 21, 35, 36, 42, 54, 80, 82, 94, 98, 102, 106, 111, 117, 122, 128, 132, 142, 147, 158, 162, 167, 172, 183, 189, 190, 205, 208, 213, 216] 3 rfl
theorem r176_98 (d : Nat) (x1 x2 s0 : Int) : Ev prog clsT X d mc176 98 [(2, 89), (0, x1), (0, x2), (3, 0), (3, 0), (3, 0)] [(0, s0)] (mk E c s (hh g)) =
  (if cmpI .ne s0 0 = true then
  ((Call prog clsT X d 180 [(2, 89), (0, 43)] ((mk E c s (hh g)))).bind fun r1 => if r1.1.1 = 4 then none else
    Ev prog clsT X d mc176 111 [(2, 89), (0, x1), (0, x2), (3, 0), (3, 0), (3, 0)] (pushR r1.1 [(2, 89)]) r1.2)
else
  ((Call prog clsT X d 180 [(2, 89), (0, 45)] ((mk E c s (hh g)))).bind fun r2 => if r2.1.1 = 4 then none else
    Ev prog clsT X d mc176 102 [(2, 89), (0, x1), (0, x2), (3, 0), (3, 0), (3, 0)] (pushR r2.1 []) r2.2)) :=
  (evk_at (r := (if cmpI .ne s0 0 = true then
  (if (2 : Nat) = 2 ∧ rcv ((mk E c s (hh g))) 89 13 = true then
    ((Call prog clsT X d 180 [(2, 89), (0, 43)] ((mk E c s (hh g)))).bind fun r1 => if r1.1.1 = 4 then none else
    Ev prog clsT X d mc176 111 [(2, 89), (0, x1), (0, x2), (3, 0), (3, 0), (3, 0)] (pushR r1.1 [(2, 89)]) r1.2) else none)
else
  (if (2 : Nat) = 2 ∧ rcv ((mk E c s (hh g))) 89 13 = true then
    ((Call prog clsT X d 180 [(2, 89), (0, 45)] ((mk E c s (hh g)))).bind fun r2 => if r2.1.1 = 4 then none else
    Ev prog clsT X d mc176 102 [(2, 89), (0, x1), (0, x2), (3, 0), (3, 0), (3, 0)] (pushR r2.1 []) r2.2) else none))) X [0, 9, 13, 17, 21, 35, 36, 42, 54, 80, 82, 94, 98, 102, 106, 111, 117, 122, 128, 132, 142, 147, 158, 162, 167, 172, 183, 189, 190, 205, 208, 213, 216] 6 rfl).trans (by simp (disch := decide) only [R89_13, bindI, Option.bind_some, if_true_, and_self, ite_true, true_and, true_or, or_true])
theorem r176_102 (d : Nat) (x1 x2 s0 : Int) : Ev prog clsT X d mc176 102 [(2, 89), (0, x1), (0, x2), (3, 0), (3, 0), (3, 0)] [(0, s0)] (mk E c s (hh g)) =
  (if cmpI .ne s0 0 = true then
  ((Call prog clsT X d 180 [(2, 89), (0, 43)] ((mk E c s (hh g)))).bind fun r1 => if r1.1.1 = 4 then none else
    Ev prog clsT X d mc176 111 [(2, 89), (0, x1), (0, x2), (3, 0), (3, 0), (3, 0)] (pushR r1.1 [(2, 89)]) r1.2)
else
  ((Call prog clsT X d 180 [(2, 89), (0, 42)] ((mk E c s (hh g)))).bind fun r2 => if r2.1.1 = 4 then none else
    Ev prog clsT X d mc176 106 [(2, 89), (0, x1), (0, x2), (3, 0), (3, 0), (3, 0)] (pushR r2.1 []) r2.2)) :=
  (evk_at (r := (if cmpI .ne s0 0 = true then
  (if (2 : Nat) = 2 ∧ rcv ((mk E c s (hh g))) 89 13 = true then
    ((Call prog clsT X d 180 [(2, 89), (0, 43)] ((mk E c s (hh g)))).bind fun r1 => if r1.1.1 = 4 then none else
    Ev prog clsT X d mc176 111 [(2, 89), (0, x1), (0, x2), (3, 0), (3, 0), (3, 0)] (pushR r1.1 [(2, 89)]) r1.2) else none)
else
  (if (2 : Nat) = 2 ∧ rcv ((mk E c s (hh g))) 89 13 = true then
    ((Call prog clsT X d 180 [(2, 89), (0, 42)] ((mk E c s (hh g)))).bind fun r2 => if r2.1.1 = 4 then none else
    Ev prog clsT X d mc176 106 [(2, 89), (0, x1), (0, x2), (3, 0), (3, 0), (3, 0)] (pushR r2.1 []) r2.2) else none))) X [0, 9, 13, 17, 21, 35, 36, 42, 54, 80, 82, 94, 98, 102, 106, 111, 117, 122, 128, 132, 142, 147, 158, 162, 167, 172, 183, 189, 190, 205, 208, 213, 216] 6 rfl).trans (by simp (disch := decide) only [R89_13, bindI, Option.bind_some, if_true_, and_self, ite_true, true_and, true_or, or_true])
theorem r176_106 (d : Nat) (x1 x2 s0 : Int) : Ev prog clsT X d mc176 106 [(2, 89), (0, x1), (0, x2), (3, 0), (3, 0), (3, 0)] [(0, s0)] (mk E c s (hh g)) =
  (if cmpI .eq s0 0 = true then
  ((Call prog clsT X d 180 [(2, 89), (0, 60)] ((mk E c s (hh g)))).bind fun r1 => if r1.1.1 = 4 then none else
    Ev prog clsT X d mc176 128 [(2, 89), (0, x1), (0, x2), (3, 0), (3, 0), (3, 0)] (pushR r1.1 []) r1.2)
else
  ((Call prog clsT X d 180 [(2, 89), (0, 43)] ((mk E c s (hh g)))).bind fun r2 => if r2.1.1 = 4 then none else
    Ev prog clsT X d mc176 111 [(2, 89), (0, x1), (0, x2), (3, 0), (3, 0), (3, 0)] (pushR r2.1 [(2, 89)]) r2.2)) :=
  (evk_at (r := (if cmpI .eq s0 0 = true then
  (if (2 : Nat) = 2 ∧ rcv ((mk E c s (hh g))) 89 13 = true then
    ((Call prog clsT X d 180 [(2, 89), (0, 60)] ((mk E c s (hh g)))).bind fun r1 => if r1.1.1 = 4 then none else
    Ev prog clsT X d mc176 128 [(2, 89), (0, x1), (0, x2), (3, 0), (3, 0), (3, 0)] (pushR r1.1 []) r1.2) else none)
else
  (if (2 : Nat) = 2 ∧ rcv ((mk E c s (hh g))) 89 13 = true then
    ((Call prog clsT X d 180 [(2, 89), (0, 43)] ((mk E c s (hh g)))).bind fun r2 => if r2.1.1 = 4 then none else
    Ev prog clsT X d mc176 111 [(2, 89), (0, x1), (0, x2), (3, 0), (3, 0), (3, 0)] (pushR r2.1 [(2, 89)]) r2.2) else none))) X [0, 9, 13, 17, 21, 35, 36, 42, 54, 80, 82, 94, 98, 102, 106, 111, 117, 122, 128, 132, 142, 147, 158, 162, 167, 172, 183, 189, 190, 205, 208, 213, 216] 6 rfl).trans (by simp (disch := decide) only [R89_13, bindI, Option.bind_some, if_true_, and_self, ite_true, true_and, true_or, or_true])
theorem r176_111 (d : Nat) (x1 x2 s1 : Int) : Ev prog clsT X d mc176 111 [(2, 89), (0, x1), (0, x2), (3, 0), (3, 0), (3, 0)] [(0, s1), (2, 89)] (mk E c s (hh g)) =
  (if cmpI .eq s1 0 = true then
  ((Call prog clsT X d 180 [(2, 89), (0, 45)] ((mk E c s (hh g)))).bind fun r1 => if r1.1.1 = 4 then none else
    Ev prog clsT X d mc176 117 [(2, 89), (0, x1), (0, x2), (3, 0), (3, 0), (3, 0)] (pushR r1.1 [(2, 89)]) r1.2)
else
  ((Call prog clsT X d 181 [(2, 89), (0, 20)] ((mk E c s (hh g)))).bind fun r2 => if r2.1.1 = 4 then none else
    Ev prog clsT X d mc176 122 [(2, 89), (0, x1), (0, x2), (3, 0), (3, 0), (3, 0)] (pushR r2.1 []) r2.2)) :=
  (evk_at (r := (if cmpI .eq s1 0 = true then
  (if (2 : Nat) = 2 ∧ rcv ((mk E c s (hh g))) 89 13 = true then
    ((Call prog clsT X d 180 [(2, 89), (0, 45)] ((mk E c s (hh g)))).bind fun r1 => if r1.1.1 = 4 then none else
    Ev prog clsT X d mc176 117 [(2, 89), (0, x1), (0, x2), (3, 0), (3, 0), (3, 0)] (pushR r1.1 [(2, 89)]) r1.2) else none)
else
  (if (2 : Nat) = 2 ∧ rcv ((mk E c s (hh g))) 89 13 = true then
    ((Call prog clsT X d 181 [(2, 89), (0, 20)] ((mk E c s (hh g)))).bind fun r2 => if r2.1.1 = 4 then none else
    Ev prog clsT X d mc176 122 [(2, 89), (0, x1), (0, x2), (3, 0), (3, 0), (3, 0)] (pushR r2.1 []) r2.2) else none))) X [0, 9, 13, 17, 21, 35, 36, 42, 54, 80, 82, 94, 98, 102, 106, 111, 117, 122, 128, 132, 142, 147, 158, 162, 167, 172, 183, 189, 190, 205, 208, 213, 216] 5 rfl).trans (by simp (disch := decide) only [R89_13, bindI, Option.bind_some, if_true_, and_self, ite_true, true_and, true_or, or_true])
theorem r176_117 (d : Nat) (x1 x2 s1 : Int) : Ev prog clsT X d mc176 117 [(2, 89), (0, x1), (0, x2), (3, 0), (3, 0), (3, 0)] [(0, s1), (2, 89)] (mk E c s (hh g)) =
  (if cmpI .eq s1 0 = true then
  ((Call prog clsT X d 181 [(2, 89), (0, 22)] ((mk E c s (hh g)))).bind fun r1 => if r1.1.1 = 4 then none else
    Ev prog clsT X d mc176 122 [(2, 89), (0, x1), (0, x2), (3, 0), (3, 0), (3, 0)] (pushR r1.1 []) r1.2)
else
  ((Call prog clsT X d 181 [(2, 89), (0, 21)] ((mk E c s (hh g)))).bind fun r2 => if r2.1.1 = 4 then none else
    Ev prog clsT X d mc176 122 [(2, 89), (0, x1), (0, x2), (3, 0), (3, 0), (3, 0)] (pushR r2.1 []) r2.2)) :=
  (evk_at (r := (if cmpI .eq s1 0 = true then
  (if (2 : Nat) = 2 ∧ rcv ((mk E c s (hh g))) 89 13 = true then
    ((Call prog clsT X d 181 [(2, 89), (0, 22)] ((mk E c s (hh g)))).bind fun r1 => if r1.1.1 = 4 then none else
    Ev prog clsT X d mc176 122 [(2, 89), (0, x1), (0, x2), (3, 0), (3, 0), (3, 0)] (pushR r1.1 []) r1.2) else none)
else
  (if (2 : Nat) = 2 ∧ rcv ((mk E c s (hh g))) 89 13 = true then
    ((Call prog clsT X d 181 [(2, 89), (0, 21)] ((mk E c s (hh g)))).bind fun r2 => if r2.1.1 = 4 then none else
    Ev prog clsT X d mc176 122 [(2, 89), (0, x1), (0, x2), (3, 0), (3, 0), (3, 0)] (pushR r2.1 []) r2.2) else none))) X [0, 9, 13, 17, 21, 35, 36, 42, 54, 80, 82, 94, 98, 102, 106, 111, 117, 122, 128, 132, 142, 147, 158, 162, 167, 172, 183, 189, 190, 205, 208, 213, 216] 5 rfl).trans (by simp (disch := decide) only [R89_13, bindI, Option.bind_some, if_true_, and_self, ite_true, true_and, true_or, or_true])
theorem r176_122 (d : Nat) (x1 x2 : Int) : Ev prog clsT X d mc176 122 [(2, 89), (0, x1), (0, x2), (3, 0), (3, 0), (3, 0)] [] (mk E c s (hh g)) =
  ((Call prog clsT X d 167 [(2, 89)] ((mk E c s (hh g)))).bind fun r1 => if r1.1.1 = 4 then none else
  Ev prog clsT X d mc176 216 [(2, 89), (0, x1), (0, 1), (3, 0), (3, 0), (3, 0)] (pushR r1.1 []) r1.2) :=
  (evk_at (r := (if (2 : Nat) = 2 ∧ rcv ((mk E c s (hh g))) 89 13 = true then
  ((Call prog clsT X d 167 [(2, 89)] ((mk E c s (hh g)))).bind fun r1 => if r1.1.1 = 4 then none else
  Ev prog clsT X d mc176 216 [(2, 89), (0, x1), (0, 1), (3, 0), (3, 0), (3, 0)] (pushR r1.1 []) r1.2) else none)) X [0, 9, 13, 17, 21, 35, 36, 42, 54, 80, 82, 94, 98, 102, 106, 111, 117, 122, 128, 132, 142, 147, 158, 162, 167, 172, 183, 189, 190, 205, 208, 213, 216] 6 rfl).trans (by simp (disch := decide) only [R89_13, bindI, Option.bind_some, if_true_, and_self, ite_true, true_and, true_or, or_true])
theorem r176_128 (d : Nat) (x1 x2 s0 : Int) : Ev prog clsT X d mc176 128 [(2, 89), (0, x1), (0, x2), (3, 0), (3, 0), (3, 0)] [(0, s0)] (mk E c s (hh g)) =
  (if cmpI .ne s0 0 = true then
  (if inb x1 7 = true then
    (if cmpI .ne ((g 116 (Int.toNat x1))) 0 = true then
    ((Call prog clsT X d 171 [(2, 89), (1, 1111)] ((mk E c s (hh g)))).bind fun r1 => if r1.1.1 = 4 then none else
      Ev prog clsT X d mc176 158 [(2, 89), (0, x1), (0, x2), (3, 0), (3, 0), (3, 0)] (pushR r1.1 []) r1.2)
  else
    ((Call prog clsT X d 180 [(2, 89), (0, 60)] ((mk E c s (hh g)))).bind fun r2 => if r2.1.1 = 4 then none else
      Ev prog clsT X d mc176 142 [(2, 89), (0, x1), (0, x2), (3, 0), (3, 0), (3, 0)] (pushR r2.1 [(2, 89)]) r2.2))
  else none)
else
  ((Call prog clsT X d 180 [(2, 89), (0, 61)] ((mk E c s (hh g)))).bind fun r3 => if r3.1.1 = 4 then none else
    Ev prog clsT X d mc176 132 [(2, 89), (0, x1), (0, x2), (3, 0), (3, 0), (3, 0)] (pushR r3.1 []) r3.2)) :=
  (evk_at (r := (if cmpI .ne s0 0 = true then
  ((fget 6298 ((mk E c s (hh g))) 89).bind fun v1 =>
    (aget X 102 ((mk E c s (hh g))) v1 x1).bind fun v2 =>
    if cmpI .ne v2 0 = true then
    (if (2 : Nat) = 2 ∧ rcv ((mk E c s (hh g))) 89 13 = true then
      ((Call prog clsT X d 171 [(2, 89), (1, 1111)] ((mk E c s (hh g)))).bind fun r3 => if r3.1.1 = 4 then none else
      Ev prog clsT X d mc176 158 [(2, 89), (0, x1), (0, x2), (3, 0), (3, 0), (3, 0)] (pushR r3.1 []) r3.2) else none)
  else
    (if (2 : Nat) = 2 ∧ rcv ((mk E c s (hh g))) 89 13 = true then
      ((Call prog clsT X d 180 [(2, 89), (0, 60)] ((mk E c s (hh g)))).bind fun r4 => if r4.1.1 = 4 then none else
      Ev prog clsT X d mc176 142 [(2, 89), (0, x1), (0, x2), (3, 0), (3, 0), (3, 0)] (pushR r4.1 [(2, 89)]) r4.2) else none))
else
  (if (2 : Nat) = 2 ∧ rcv ((mk E c s (hh g))) 89 13 = true then
    ((Call prog clsT X d 180 [(2, 89), (0, 61)] ((mk E c s (hh g)))).bind fun r5 => if r5.1.1 = 4 then none else
    Ev prog clsT X d mc176 132 [(2, 89), (0, x1), (0, x2), (3, 0), (3, 0), (3, 0)] (pushR r5.1 []) r5.2) else none))) X [0, 9, 13, 17, 21, 35, 36, 42, 54, 80, 82, 94, 98, 102, 106, 111, 117, 122, 128, 132, 142, 147, 158, 162, 167, 172, 183, 189, 190, 205, 208, 213, 216] 11 rfl).trans (by simp (disch := decide) only [A116, F6298_89, R89_13, bindI, Option.bind_some, if_true_, and_self, ite_true, true_and, true_or, or_true])
theorem r176_132 (d : Nat) (x1 x2 s0 : Int) : Ev prog clsT X d mc176 132 [(2, 89), (0, x1), (0, x2), (3, 0), (3, 0), (3, 0)] [(0, s0)] (mk E c s (hh g)) =
  (if cmpI .eq s0 0 = true then
  ((Call prog clsT X d 171 [(2, 89), (1, 1111)] ((mk E c s (hh g)))).bind fun r1 => if r1.1.1 = 4 then none else
    Ev prog clsT X d mc176 158 [(2, 89), (0, x1), (0, x2), (3, 0), (3, 0), (3, 0)] (pushR r1.1 []) r1.2)
else
  (if inb x1 7 = true then
    (if cmpI .ne ((g 116 (Int.toNat x1))) 0 = true then
    ((Call prog clsT X d 171 [(2, 89), (1, 1111)] ((mk E c s (hh g)))).bind fun r2 => if r2.1.1 = 4 then none else
      Ev prog clsT X d mc176 158 [(2, 89), (0, x1), (0, x2), (3, 0), (3, 0), (3, 0)] (pushR r2.1 []) r2.2)
  else
    ((Call prog clsT X d 180 [(2, 89), (0, 60)] ((mk E c s (hh g)))).bind fun r3 => if r3.1.1 = 4 then none else
      Ev prog clsT X d mc176 142 [(2, 89), (0, x1), (0, x2), (3, 0), (3, 0), (3, 0)] (pushR r3.1 [(2, 89)]) r3.2))
  else none)) :=
  (evk_at (r := (if cmpI .eq s0 0 = true then
  (if (2 : Nat) = 2 ∧ rcv ((mk E c s (hh g))) 89 13 = true then
    ((Call prog clsT X d 171 [(2, 89), (1, 1111)] ((mk E c s (hh g)))).bind fun r1 => if r1.1.1 = 4 then none else
    Ev prog clsT X d mc176 158 [(2, 89), (0, x1), (0, x2), (3, 0), (3, 0), (3, 0)] (pushR r1.1 []) r1.2) else none)
else
  ((fget 6298 ((mk E c s (hh g))) 89).bind fun v2 =>
    (aget X 102 ((mk E c s (hh g))) v2 x1).bind fun v3 =>
    if cmpI .ne v3 0 = true then
    (if (2 : Nat) = 2 ∧ rcv ((mk E c s (hh g))) 89 13 = true then
      ((Call prog clsT X d 171 [(2, 89), (1, 1111)] ((mk E c s (hh g)))).bind fun r4 => if r4.1.1 = 4 then none else
      Ev prog clsT X d mc176 158 [(2, 89), (0, x1), (0, x2), (3, 0), (3, 0), (3, 0)] (pushR r4.1 []) r4.2) else none)
  else
    (if (2 : Nat) = 2 ∧ rcv ((mk E c s (hh g))) 89 13 = true then
      ((Call prog clsT X d 180 [(2, 89), (0, 60)] ((mk E c s (hh g)))).bind fun r5 => if r5.1.1 = 4 then none else
      Ev prog clsT X d mc176 142 [(2, 89), (0, x1), (0, x2), (3, 0), (3, 0), (3, 0)] (pushR r5.1 [(2, 89)]) r5.2) else none)))) X [0, 9, 13, 17, 21, 35, 36, 42, 54, 80, 82, 94, 98, 102, 106, 111, 117, 122, 128, 132, 142, 147, 158, 162, 167, 172, 183, 189, 190, 205, 208, 213, 216] 11 rfl).trans (by simp (disch := decide) only [A116, F6298_89, R89_13, bindI, Option.bind_some, if_true_, and_self, ite_true, true_and, true_or, or_true])
theorem r176_142 (d : Nat) (x1 x2 s1 : Int) : Ev prog clsT X d mc176 142 [(2, 89), (0, x1), (0, x2), (3, 0), (3, 0), (3, 0)] [(0, s1), (2, 89)] (mk E c s (hh g)) =
  (if cmpI .eq s1 0 = true then
  ((Call prog clsT X d 181 [(2, 89), (0, 25)] ((mk E c s (hh g)))).bind fun r1 => if r1.1.1 = 4 then none else
    Ev prog clsT X d mc176 147 [(2, 89), (0, x1), (0, x2), (3, 0), (3, 0), (3, 0)] (pushR r1.1 []) r1.2)
else
  ((Call prog clsT X d 181 [(2, 89), (0, 24)] ((mk E c s (hh g)))).bind fun r2 => if r2.1.1 = 4 then none else
    Ev prog clsT X d mc176 147 [(2, 89), (0, x1), (0, x2), (3, 0), (3, 0), (3, 0)] (pushR r2.1 []) r2.2)) :=
  (evk_at (r := (if cmpI .eq s1 0 = true then
  (if (2 : Nat) = 2 ∧ rcv ((mk E c s (hh g))) 89 13 = true then
    ((Call prog clsT X d 181 [(2, 89), (0, 25)] ((mk E c s (hh g)))).bind fun r1 => if r1.1.1 = 4 then none else
    Ev prog clsT X d mc176 147 [(2, 89), (0, x1), (0, x2), (3, 0), (3, 0), (3, 0)] (pushR r1.1 []) r1.2) else none)
else
  (if (2 : Nat) = 2 ∧ rcv ((mk E c s (hh g))) 89 13 = true then
    ((Call prog clsT X d 181 [(2, 89), (0, 24)] ((mk E c s (hh g)))).bind fun r2 => if r2.1.1 = 4 then none else
    Ev prog clsT X d mc176 147 [(2, 89), (0, x1), (0, x2), (3, 0), (3, 0), (3, 0)] (pushR r2.1 []) r2.2) else none))) X [0, 9, 13, 17, 21, 35, 36, 42, 54, 80, 82, 94, 98, 102, 106, 111, 117, 122, 128, 132, 142, 147, 158, 162, 167, 172, 183, 189, 190, 205, 208, 213, 216] 5 rfl).trans (by simp (disch := decide) only [R89_13, bindI, Option.bind_some, if_true_, and_self, ite_true, true_and, true_or, or_true])
theorem r176_158 (d : Nat) (x1 x2 s0 : Int) : Ev prog clsT X d mc176 158 [(2, 89), (0, x1), (0, x2), (3, 0), (3, 0), (3, 0)] [(0, s0)] (mk E c s (hh g)) =
  (if cmpI .ne s0 0 = true then
  ((Call prog clsT X d 171 [(2, 89), (1, 1111)] ((mk E c s (hh g)))).bind fun r1 => if r1.1.1 = 4 then none else
    Ev prog clsT X d mc176 167 [(2, 89), (0, x1), (0, x2), (3, 0), (3, 0), (3, 0)] (pushR r1.1 [(2, 89)]) r1.2)
else
  ((Call prog clsT X d 171 [(2, 89), (1, 423)] ((mk E c s (hh g)))).bind fun r2 => if r2.1.1 = 4 then none else
    Ev prog clsT X d mc176 162 [(2, 89), (0, x1), (0, x2), (3, 0), (3, 0), (3, 0)] (pushR r2.1 []) r2.2)) :=
  (evk_at (r := (if cmpI .ne s0 0 = true then
  (if (2 : Nat) = 2 ∧ rcv ((mk E c s (hh g))) 89 13 = true then
    ((Call prog clsT X d 171 [(2, 89), (1, 1111)] ((mk E c s (hh g)))).bind fun r1 => if r1.1.1 = 4 then none else
    Ev prog clsT X d mc176 167 [(2, 89), (0, x1), (0, x2), (3, 0), (3, 0), (3, 0)] (pushR r1.1 [(2, 89)]) r1.2) else none)
else
  (if (2 : Nat) = 2 ∧ rcv ((mk E c s (hh g))) 89 13 = true then
    ((Call prog clsT X d 171 [(2, 89), (1, 423)] ((mk E c s (hh g)))).bind fun r2 => if r2.1.1 = 4 then none else
    Ev prog clsT X d mc176 162 [(2, 89), (0, x1), (0, x2), (3, 0), (3, 0), (3, 0)] (pushR r2.1 []) r2.2) else none))) X [0, 9, 13, 17, 21, 35, 36, 42, 54, 80, 82, 94, 98, 102, 106, 111, 117, 122, 128, 132, 142, 147, 158, 162, 167, 172, 183, 189, 190, 205, 208, 213, 216] 6 rfl).trans (by simp (disch := decide) only [R89_13, bindI, Option.bind_some, if_true_, and_self, ite_true, true_and, true_or, or_true])
theorem r176_162 (d : Nat) (x1 x2 s0 : Int) : Ev prog clsT X d mc176 162 [(2, 89), (0, x1), (0, x2), (3, 0), (3, 0), (3, 0)] [(0, s0)] (mk E c s (hh g)) =
  (if cmpI .eq s0 0 = true then
  ((Call prog clsT X d 180 [(2, 89), (0, 41)] ((mk E c s (hh g)))).bind fun r1 => if r1.1.1 = 4 then none else
    Ev prog clsT X d mc176 183 [(2, 89), (0, x1), (0, x2), (3, 0), (3, 0), (3, 0)] (pushR r1.1 []) r1.2)
else
  ((Call prog clsT X d 171 [(2, 89), (1, 1111)] ((mk E c s (hh g)))).bind fun r2 => if r2.1.1 = 4 then none else
    Ev prog clsT X d mc176 167 [(2, 89), (0, x1), (0, x2), (3, 0), (3, 0), (3, 0)] (pushR r2.1 [(2, 89)]) r2.2)) :=
  (evk_at (r := (if cmpI .eq s0 0 = true then
  (if (2 : Nat) = 2 ∧ rcv ((mk E c s (hh g))) 89 13 = true then
    ((Call prog clsT X d 180 [(2, 89), (0, 41)] ((mk E c s (hh g)))).bind fun r1 => if r1.1.1 = 4 then none else
    Ev prog clsT X d mc176 183 [(2, 89), (0, x1), (0, x2), (3, 0), (3, 0), (3, 0)] (pushR r1.1 []) r1.2) else none)
else
  (if (2 : Nat) = 2 ∧ rcv ((mk E c s (hh g))) 89 13 = true then
    ((Call prog clsT X d 171 [(2, 89), (1, 1111)] ((mk E c s (hh g)))).bind fun r2 => if r2.1.1 = 4 then none else
    Ev prog clsT X d mc176 167 [(2, 89), (0, x1), (0, x2), (3, 0), (3, 0), (3, 0)] (pushR r2.1 [(2, 89)]) r2.2) else none))) X [0, 9, 13, 17, 21, 35, 36, 42, 54, 80, 82, 94, 98, 102, 106, 111, 117, 122, 128, 132, 142, 147, 158, 162, 167, 172, 183, 189, 190, 205, 208, 213, 216] 6 rfl).trans (by simp (disch := decide) only [R89_13, bindI, Option.bind_some, if_true_, and_self, ite_true, true_and, true_or, or_true])
theorem r176_167 (d : Nat) (x1 x2 s1 : Int) : Ev prog clsT X d mc176 167 [(2, 89), (0, x1), (0, x2), (3, 0), (3, 0), (3, 0)] [(0, s1), (2, 89)] (mk E c s (hh g)) =
  (if cmpI .eq s1 0 = true then
  ((Call prog clsT X d 181 [(2, 89), (0, 27)] ((mk E c s (hh g)))).bind fun r1 => if r1.1.1 = 4 then none else
    Ev prog clsT X d mc176 172 [(2, 89), (0, x1), (0, x2), (3, 0), (3, 0), (3, 0)] (pushR r1.1 []) r1.2)
else
  ((Call prog clsT X d 181 [(2, 89), (0, 26)] ((mk E c s (hh g)))).bind fun r2 => if r2.1.1 = 4 then none else
    Ev prog clsT X d mc176 172 [(2, 89), (0, x1), (0, x2), (3, 0), (3, 0), (3, 0)] (pushR r2.1 []) r2.2)) :=
  (evk_at (r := (if cmpI .eq s1 0 = true then
  (if (2 : Nat) = 2 ∧ rcv ((mk E c s (hh g))) 89 13 = true then
    ((Call prog clsT X d 181 [(2, 89), (0, 27)] ((mk E c s (hh g)))).bind fun r1 => if r1.1.1 = 4 then none else
    Ev prog clsT X d mc176 172 [(2, 89), (0, x1), (0, x2), (3, 0), (3, 0), (3, 0)] (pushR r1.1 []) r1.2) else none)
else
  (if (2 : Nat) = 2 ∧ rcv ((mk E c s (hh g))) 89 13 = true then
    ((Call prog clsT X d 181 [(2, 89), (0, 26)] ((mk E c s (hh g)))).bind fun r2 => if r2.1.1 = 4 then none else
    Ev prog clsT X d mc176 172 [(2, 89), (0, x1), (0, x2), (3, 0), (3, 0), (3, 0)] (pushR r2.1 []) r2.2) else none))) X [0, 9, 13, 17, 21, 35, 36, 42, 54, 80, 82, 94, 98, 102, 106, 111, 117, 122, 128, 132, 142, 147, 158, 162, 167, 172, 183, 189, 190, 205, 208, 213, 216] 5 rfl).trans (by simp (disch := decide) only [R89_13, bindI, Option.bind_some, if_true_, and_self, ite_true, true_and, true_or, or_true])
theorem r176_183 (d : Nat) (x1 x2 s0 : Int) : Ev prog clsT X d mc176 183 [(2, 89), (0, x1), (0, x2), (3, 0), (3, 0), (3, 0)] [(0, s0)] (mk E c s (hh g)) =
  (if cmpI .eq s0 0 = true then
  (if cmpI .ne x1 0 = true then
    ((Call prog clsT X d 172 [(2, 89), (0, 1)] ((mk E c s (hh g)))).bind fun r1 => if r1.1.1 = 4 then none else
      Ev prog clsT X d mc176 213 [(2, 89), (0, x1), (0, x2), (3, 0), (3, 0), (3, 0)] (pushR r1.1 []) r1.2)
  else
    ((Call prog clsT X d 180 [(2, 89), (0, 59)] ((mk E c s (hh g)))).bind fun r2 => if r2.1.1 = 4 then none else
      Ev prog clsT X d mc176 205 [(2, 89), (0, x1), (0, x2), (3, 0), (3, 0), (3, 0)] (pushR r2.1 []) r2.2))
else
  (if cmpI .le x1 0 = true then
    (if cmpI .ne x1 0 = true then
      ((Call prog clsT X d 172 [(2, 89), (0, 1)] ((mk E c s (hh g)))).bind fun r3 => if r3.1.1 = 4 then none else
        Ev prog clsT X d mc176 213 [(2, 89), (0, x1), (0, x2), (3, 0), (3, 0), (3, 0)] (pushR r3.1 []) r3.2)
    else
      ((Call prog clsT X d 180 [(2, 89), (0, 59)] ((mk E c s (hh g)))).bind fun r4 => if r4.1.1 = 4 then none else
        Ev prog clsT X d mc176 205 [(2, 89), (0, x1), (0, x2), (3, 0), (3, 0), (3, 0)] (pushR r4.1 []) r4.2))
  else
    ((Call prog clsT X d 181 [(2, 89), (0, 29)] ((mk E c s (hh g)))).bind fun r5 => if r5.1.1 = 4 then none else
      Ev prog clsT X d mc176 189 [(2, 89), (0, x1), (0, x2), (3, 0), (3, 0), (3, 0)] (pushR r5.1 []) r5.2))) :=
  (evk_at (r := (if cmpI .eq s0 0 = true then
  (if cmpI .ne x1 0 = true then
    (if (2 : Nat) = 2 ∧ rcv ((mk E c s (hh g))) 89 13 = true then
      ((Call prog clsT X d 172 [(2, 89), (0, 1)] ((mk E c s (hh g)))).bind fun r1 => if r1.1.1 = 4 then none else
      Ev prog clsT X d mc176 213 [(2, 89), (0, x1), (0, x2), (3, 0), (3, 0), (3, 0)] (pushR r1.1 []) r1.2) else none)
  else
    (if (2 : Nat) = 2 ∧ rcv ((mk E c s (hh g))) 89 13 = true then
      ((Call prog clsT X d 180 [(2, 89), (0, 59)] ((mk E c s (hh g)))).bind fun r2 => if r2.1.1 = 4 then none else
      Ev prog clsT X d mc176 205 [(2, 89), (0, x1), (0, x2), (3, 0), (3, 0), (3, 0)] (pushR r2.1 []) r2.2) else none))
else
  (if cmpI .le x1 0 = true then
    (if cmpI .ne x1 0 = true then
      (if (2 : Nat) = 2 ∧ rcv ((mk E c s (hh g))) 89 13 = true then
        ((Call prog clsT X d 172 [(2, 89), (0, 1)] ((mk E c s (hh g)))).bind fun r3 => if r3.1.1 = 4 then none else
        Ev prog clsT X d mc176 213 [(2, 89), (0, x1), (0, x2), (3, 0), (3, 0), (3, 0)] (pushR r3.1 []) r3.2) else none)
    else
      (if (2 : Nat) = 2 ∧ rcv ((mk E c s (hh g))) 89 13 = true then
        ((Call prog clsT X d 180 [(2, 89), (0, 59)] ((mk E c s (hh g)))).bind fun r4 => if r4.1.1 = 4 then none else
        Ev prog clsT X d mc176 205 [(2, 89), (0, x1), (0, x2), (3, 0), (3, 0), (3, 0)] (pushR r4.1 []) r4.2) else none))
  else
    (if (2 : Nat) = 2 ∧ rcv ((mk E c s (hh g))) 89 13 = true then
      ((Call prog clsT X d 181 [(2, 89), (0, 29)] ((mk E c s (hh g)))).bind fun r5 => if r5.1.1 = 4 then none else
      Ev prog clsT X d mc176 189 [(2, 89), (0, x1), (0, x2), (3, 0), (3, 0), (3, 0)] (pushR r5.1 []) r5.2) else none)))) X [0, 9, 13, 17, 21, 35, 36, 42, 54, 80, 82, 94, 98, 102, 106, 111, 117, 122, 128, 132, 142, 147, 158, 162, 167, 172, 183, 189, 190, 205, 208, 213, 216] 9 rfl).trans (by simp (disch := decide) only [R89_13, bindI, Option.bind_some, if_true_, and_self, ite_true, true_and, true_or, or_true])
theorem r176_189 (d : Nat) (x1 x2 : Int) : Ev prog clsT X d mc176 189 [(2, 89), (0, x1), (0, x2), (3, 0), (3, 0), (3, 0)] [] (mk E c s (hh g)) =
  (Ev prog clsT X d mc176 190 [(2, 89), (0, (w32 (x1 + (-1)))), (0, x2), (3, 0), (3, 0), (3, 0)] [] (mk E c s (hh g))) :=
  evk_at X [0, 9, 13, 17, 21, 35, 36, 42, 54, 80, 82, 94, 98, 102, 106, 111, 117, 122, 128, 132, 142, 147, 158, 162, 167, 172, 183, 189, 190, 205, 208, 213, 216] 3 rfl
theorem r176_190 (d : Nat) (x1 x2 : Int) (w3 w4 w5 : MV) : Ev prog clsT X d mc176 190 [(2, 89), (0, x1), (0, x2), w3, w4, w5] [] (mk E c s (hh g)) =
  (if cmpI .le x1 0 = true then
  ((Call prog clsT X d 167 [(2, 89)] ((mk E c s (hh g)))).bind fun r1 => if r1.1.1 = 4 then none else
    Ev prog clsT X d mc176 216 [(2, 89), (0, x1), (0, x2), (3, 0), (3, 0), (3, 0)] (pushR r1.1 []) r1.2)
else
  (if inb x1 7 = true then
    (if cmpI .ne ((g 115 (Int.toNat x1))) 1 = true then
    ((Call prog clsT X d 167 [(2, 89)] ((mk E c s (hh g)))).bind fun r2 => if r2.1.1 = 4 then none else
      Ev prog clsT X d mc176 216 [(2, 89), (0, x1), (0, x2), (3, 0), (3, 0), (3, 0)] (pushR r2.1 []) r2.2)
  else
    (Ev prog clsT X d mc176 190 [(2, 89), (0, (w32 (x1 + (-1)))), (0, x2), (3, 0), (3, 0), (3, 0)] [] (mk E c s (hh g))))
  else none)) :=
  (evk_at (r := (if cmpI .le x1 0 = true then
  (if (2 : Nat) = 2 ∧ rcv ((mk E c s (hh g))) 89 13 = true then
    ((Call prog clsT X d 167 [(2, 89)] ((mk E c s (hh g)))).bind fun r1 => if r1.1.1 = 4 then none else
    Ev prog clsT X d mc176 216 [(2, 89), (0, x1), (0, x2), (3, 0), (3, 0), (3, 0)] (pushR r1.1 []) r1.2) else none)
else
  ((fget 6294 ((mk E c s (hh g))) 89).bind fun v2 =>
    (aget X 100 ((mk E c s (hh g))) v2 x1).bind fun v3 =>
    if cmpI .ne v3 1 = true then
    (if (2 : Nat) = 2 ∧ rcv ((mk E c s (hh g))) 89 13 = true then
      ((Call prog clsT X d 167 [(2, 89)] ((mk E c s (hh g)))).bind fun r4 => if r4.1.1 = 4 then none else
      Ev prog clsT X d mc176 216 [(2, 89), (0, x1), (0, x2), (3, 0), (3, 0), (3, 0)] (pushR r4.1 []) r4.2) else none)
  else
    (Ev prog clsT X d mc176 190 [(2, 89), (0, (w32 (x1 + (-1)))), (0, x2), (3, 0), (3, 0), (3, 0)] [] (mk E c s (hh g)))))) X [0, 9, 13, 17, 21, 35, 36, 42, 54, 80, 82, 94, 98, 102, 106, 111, 117, 122, 128, 132, 142, 147, 158, 162, 167, 172, 183, 189, 190, 205, 208, 213, 216] 12 rfl).trans (by simp (disch := decide) only [A115, F6294_89, R89_13, bindI, Option.bind_some, if_true_, and_self, ite_true, true_and, true_or, or_true])
theorem r176_205 (d : Nat) (x1 x2 s0 : Int) : Ev prog clsT X d mc176 205 [(2, 89), (0, x1), (0, x2), (3, 0), (3, 0), (3, 0)] [(0, s0)] (mk E c s (hh g)) =
  (if cmpI .eq s0 0 = true then
  ((Call prog clsT X d 172 [(2, 89), (0, 1)] ((mk E c s (hh g)))).bind fun r1 => if r1.1.1 = 4 then none else
    Ev prog clsT X d mc176 213 [(2, 89), (0, x1), (0, x2), (3, 0), (3, 0), (3, 0)] (pushR r1.1 []) r1.2)
else
  ((Call prog clsT X d 167 [(2, 89)] ((mk E c s (hh g)))).bind fun r2 => if r2.1.1 = 4 then none else
    Ev prog clsT X d mc176 208 [(2, 89), (0, x1), (0, x2), (3, 0), (3, 0), (3, 0)] (pushR r2.1 []) r2.2)) :=
  (evk_at (r := (if cmpI .eq s0 0 = true then
  (if (2 : Nat) = 2 ∧ rcv ((mk E c s (hh g))) 89 13 = true then
    ((Call prog clsT X d 172 [(2, 89), (0, 1)] ((mk E c s (hh g)))).bind fun r1 => if r1.1.1 = 4 then none else
    Ev prog clsT X d mc176 213 [(2, 89), (0, x1), (0, x2), (3, 0), (3, 0), (3, 0)] (pushR r1.1 []) r1.2) else none)
else
  (if (2 : Nat) = 2 ∧ rcv ((mk E c s (hh g))) 89 13 = true then
    ((Call prog clsT X d 167 [(2, 89)] ((mk E c s (hh g)))).bind fun r2 => if r2.1.1 = 4 then none else
    Ev prog clsT X d mc176 208 [(2, 89), (0, x1), (0, x2), (3, 0), (3, 0), (3, 0)] (pushR r2.1 []) r2.2) else none))) X [0, 9, 13, 17, 21, 35, 36, 42, 54, 80, 82, 94, 98, 102, 106, 111, 117, 122, 128, 132, 142, 147, 158, 162, 167, 172, 183, 189, 190, 205, 208, 213, 216] 5 rfl).trans (by simp (disch := decide) only [R89_13, bindI, Option.bind_some, if_true_, and_self, ite_true, true_and, true_or, or_true])
theorem r176_208 (d : Nat) (x1 x2 : Int) : Ev prog clsT X d mc176 208 [(2, 89), (0, x1), (0, x2), (3, 0), (3, 0), (3, 0)] [] (mk E c s (hh g)) =
  (some ((0, 1), ((mk E c s (hh g))))) :=
  (evk_at (r := (some ((0, 1), (mk E c s (hh g))))) X [0, 9, 13, 17, 21, 35, 36, 42, 54, 80, 82, 94, 98, 102, 106, 111, 117, 122, 128, 132, 142, 147, 158, 162, 167, 172, 183, 189, 190, 205, 208, 213, 216] 3 rfl).trans (by simp (disch := decide) only [bindI, Option.bind_some, if_true_, and_self, ite_true, true_and, true_or, or_true])
theorem r176_213 (d : Nat) (x1 x2 s0 : Int) : Ev prog clsT X d mc176 213 [(2, 89), (0, x1), (0, x2), (3, 0), (3, 0), (3, 0)] [(0, s0)] (mk E c s (hh g)) =
  (if (0 : Nat) = 0 ∧ one01 s0 = true then some ((0, s0), ((mk E c s (hh g)))) else none) :=
  (evk_at (r := (if (0 : Nat) = 0 ∧ one01 s0 = true then some ((0, s0), (mk E c s (hh g))) else none)) X [0, 9, 13, 17, 21, 35, 36, 42, 54, 80, 82, 94, 98, 102, 106, 111, 117, 122, 128, 132, 142, 147, 158, 162, 167, 172, 183, 189, 190, 205, 208, 213, 216] 2 rfl).trans (by simp (disch := decide) only [bindI, Option.bind_some, if_true_, and_self, ite_true, true_and, true_or, or_true])
theorem r176_216 (d : Nat) (x1 x2 : Int) : Ev prog clsT X d mc176 216 [(2, 89), (0, x1), (0, x2), (3, 0), (3, 0), (3, 0)] [] (mk E c s (hh g)) =
  (Ev prog clsT X d mc176 9 [(2, 89), (0, x1), (0, x2), (3, 0), (3, 0), (3, 0)] [] (mk E c s (hh g))) :=
  evk_at X [0, 9, 13, 17, 21, 35, 36, 42, 54, 80, 82, 94, 98, 102, 106, 111, 117, 122, 128, 132, 142, 147, 158, 162, 167, 172, 183, 189, 190, 205, 208, 213, 216] 3 rfl
theorem r177_0 (d : Nat) : Ev prog clsT X d mc177 0 [(2, 89)] [] (mk E c s (hh g)) =
  (if cmpI .eq ((g 89 22)) 1 = true then
  (if cmpI .eq ((g 89 36)) 0 = true then
    ((Call prog clsT X d 179 [(2, 89)] ((mk E c s (hh g)))).bind fun r1 => if r1.1.1 = 4 then none else
      Ev prog clsT X d mc177 14 [(2, 89)] (pushR r1.1 []) r1.2)
  else
    ((Call prog clsT X d 178 [(2, 89)] ((mk E c s (hh g)))).bind fun r2 => if r2.1.1 = 4 then none else
      Ev prog clsT X d mc177 11 [(2, 89)] (pushR r2.1 []) r2.2))
else
  (Ev prog clsT X d mc177 14 [(2, 89)] [(0, 0)] (mk E c s (hh g)))) :=
  (evk_at (r := ((fget 6232 ((mk E c s (hh g))) 89).bind fun v1 =>
  if cmpI .eq v1 1 = true then
  ((fget 6291 ((mk E c s (hh g))) 89).bind fun v2 =>
    if cmpI .eq v2 0 = true then
    (if (2 : Nat) = 2 ∧ rcv ((mk E c s (hh g))) 89 13 = true then
      ((Call prog clsT X d 179 [(2, 89)] ((mk E c s (hh g)))).bind fun r3 => if r3.1.1 = 4 then none else
      Ev prog clsT X d mc177 14 [(2, 89)] (pushR r3.1 []) r3.2) else none)
  else
    (if (2 : Nat) = 2 ∧ rcv ((mk E c s (hh g))) 89 13 = true then
      ((Call prog clsT X d 178 [(2, 89)] ((mk E c s (hh g)))).bind fun r4 => if r4.1.1 = 4 then none else
      Ev prog clsT X d mc177 11 [(2, 89)] (pushR r4.1 []) r4.2) else none))
else
  (Ev prog clsT X d mc177 14 [(2, 89)] [(0, 0)] (mk E c s (hh g))))) X [0, 11, 14] 10 rfl).trans (by simp (disch := decide) only [F6232_89, F6291_89, R89_13, bindI, Option.bind_some, if_true_, and_self, ite_true, true_and, true_or, or_true])
theorem rc177_ (d : Nat) : Call prog clsT X (d + 1) 177 [(2, 89)] (mk E c s (hh g)) =
  (if cmpI .eq ((g 89 22)) 1 = true then
  (if cmpI .eq ((g 89 36)) 0 = true then
    ((Call prog clsT X d 179 [(2, 89)] ((mk E c s (hh g)))).bind fun r1 => if r1.1.1 = 4 then none else
      Ev prog clsT X d mc177 14 [(2, 89)] (pushR r1.1 []) r1.2)
  else
    ((Call prog clsT X d 178 [(2, 89)] ((mk E c s (hh g)))).bind fun r2 => if r2.1.1 = 4 then none else
      Ev prog clsT X d mc177 11 [(2, 89)] (pushR r2.1 []) r2.2))
else
  (Ev prog clsT X d mc177 14 [(2, 89)] [(0, 0)] (mk E c s (hh g)))) :=
  (show Call prog clsT X (d + 1) 177 [(2, 89)] (mk E c s (hh g)) = Ev prog clsT X d mc177 0 [(2, 89)] [] (mk E c s (hh g)) from rfl).trans (r177_0 X E c s g d  )
theorem r177_11 (d : Nat) (s0 : Int) : Ev prog clsT X d mc177 11 [(2, 89)] [(0, s0)] (mk E c s (hh g)) =
  (Ev prog clsT X d mc177 14 [(2, 89)] [(0, s0)] (mk E c s (hh g))) :=
  evk_at X [0, 11, 14] 3 rfl
theorem r177_14 (d : Nat) (s0 : Int) : Ev prog clsT X d mc177 14 [(2, 89)] [(0, s0)] (mk E c s (hh g)) =
  (some ((0, s0), ((mk E c s (hh g))))) :=
  (evk_at (r := (some ((0, s0), (mk E c s (hh g))))) X [0, 11, 14] 2 rfl).trans (by simp (disch := decide) only [bindI, Option.bind_some, if_true_, and_self, ite_true, true_and, true_or, or_true])
set_option maxRecDepth 100000 in
theorem r178_0 (d : Nat) : Ev prog clsT X d mc178 0 [(2, 89)] [] (mk E c s (hh g)) =
  (if cmpI .ne ((lcmpI ((g 89 23)) 10634)) 0 = true then
  (if cmpI .ne ((lcmpI ((g 89 23)) 237458)) 0 = true then
    (if cmpI .ne ((lcmpI ((g 89 23)) 267347)) 0 = true then
      (if cmpI .ne ((lcmpI ((g 89 23)) 6476969)) 0 = true then
        (if cmpI .ne ((lcmpI ((g 89 23)) 259565)) 0 = true then
          (if cmpI .ne ((lcmpI ((g 89 23)) 13385674)) 0 = true then
            (if cmpI .ne ((lcmpI ((g 89 23)) 223456)) 0 = true then
              (if cmpI .ne ((lcmpI ((g 89 23)) 330846583)) 0 = true then
                (some ((0, 0), ((mk E c s (hh g)))))
              else
                (some ((0, 8), ((mk E c s (hh g))))))
            else
              (some ((0, 7), ((mk E c s (hh g))))))
          else
            (some ((0, 6), ((mk E c s (hh g))))))
        else
          (some ((0, 5), ((mk E c s (hh g))))))
      else
        (some ((0, 4), ((mk E c s (hh g))))))
    else
      (some ((0, 3), ((mk E c s (hh g))))))
  else
    (some ((0, 2), ((mk E c s (hh g))))))
else
  (some ((0, 1), ((mk E c s (hh g)))))) :=
  (evk_at (r := ((fget 6237 ((mk E c s (hh g))) 89).bind fun v1 =>
  if cmpI .ne ((lcmpI v1 10634)) 0 = true then
  ((fget 6237 ((mk E c s (hh g))) 89).bind fun v2 =>
    if cmpI .ne ((lcmpI v2 237458)) 0 = true then
    ((fget 6237 ((mk E c s (hh g))) 89).bind fun v3 =>
      if cmpI .ne ((lcmpI v3 267347)) 0 = true then
      ((fget 6237 ((mk E c s (hh g))) 89).bind fun v4 =>
        if cmpI .ne ((lcmpI v4 6476969)) 0 = true then
        ((fget 6237 ((mk E c s (hh g))) 89).bind fun v5 =>
          if cmpI .ne ((lcmpI v5 259565)) 0 = true then
          ((fget 6237 ((mk E c s (hh g))) 89).bind fun v6 =>
            if cmpI .ne ((lcmpI v6 13385674)) 0 = true then
            ((fget 6237 ((mk E c s (hh g))) 89).bind fun v7 =>
              if cmpI .ne ((lcmpI v7 223456)) 0 = true then
              ((fget 6237 ((mk E c s (hh g))) 89).bind fun v8 =>
                if cmpI .ne ((lcmpI v8 330846583)) 0 = true then
                (some ((0, 0), (mk E c s (hh g))))
              else
                (some ((0, 8), (mk E c s (hh g)))))
            else
              (some ((0, 7), (mk E c s (hh g)))))
          else
            (some ((0, 6), (mk E c s (hh g)))))
        else
          (some ((0, 5), (mk E c s (hh g)))))
      else
        (some ((0, 4), (mk E c s (hh g)))))
    else
      (some ((0, 3), (mk E c s (hh g)))))
  else
    (some ((0, 2), (mk E c s (hh g)))))
else
  (some ((0, 1), (mk E c s (hh g)))))) X [0] 43 rfl).trans (by simp (disch := decide) only [F6237_89, bindI, Option.bind_some, if_true_, and_self, ite_true, true_and, true_or, or_true])
set_option maxRecDepth 100000 in
theorem rc178_ (d : Nat) : Call prog clsT X (d + 1) 178 [(2, 89)] (mk E c s (hh g)) =
  (if cmpI .ne ((lcmpI ((g 89 23)) 10634)) 0 = true then
  (if cmpI .ne ((lcmpI ((g 89 23)) 237458)) 0 = true then
    (if cmpI .ne ((lcmpI ((g 89 23)) 267347)) 0 = true then
      (if cmpI .ne ((lcmpI ((g 89 23)) 6476969)) 0 = true then
        (if cmpI .ne ((lcmpI ((g 89 23)) 259565)) 0 = true then
          (if cmpI .ne ((lcmpI ((g 89 23)) 13385674)) 0 = true then
            (if cmpI .ne ((lcmpI ((g 89 23)) 223456)) 0 = true then
              (if cmpI .ne ((lcmpI ((g 89 23)) 330846583)) 0 = true then
                (some ((0, 0), ((mk E c s (hh g)))))
              else
                (some ((0, 8), ((mk E c s (hh g))))))
            else
              (some ((0, 7), ((mk E c s (hh g))))))
          else
            (some ((0, 6), ((mk E c s (hh g))))))
        else
          (some ((0, 5), ((mk E c s (hh g))))))
      else
        (some ((0, 4), ((mk E c s (hh g))))))
    else
      (some ((0, 3), ((mk E c s (hh g))))))
  else
    (some ((0, 2), ((mk E c s (hh g))))))
else
  (some ((0, 1), ((mk E c s (hh g)))))) :=
  (show Call prog clsT X (d + 1) 178 [(2, 89)] (mk E c s (hh g)) = Ev prog clsT X d mc178 0 [(2, 89)] [] (mk E c s (hh g)) from rfl).trans (r178_0 X E c s g d  )
set_option maxRecDepth 100000 in
theorem r179_0 (d : Nat) : Ev prog clsT X d mc179 0 [(2, 89)] [] (mk E c s (hh g)) =
  (if cmpI .ne ((lcmpI ((g 89 23)) 234466237)) 0 = true then
  (if cmpI .ne ((lcmpI ((g 89 23)) 6033331)) 0 = true then
    (if cmpI .ne ((lcmpI ((g 89 23)) 11047)) 0 = true then
      (if cmpI .ne ((lcmpI ((g 89 23)) 381245)) 0 = true then
        (if cmpI .ne ((lcmpI ((g 89 23)) 281490259)) 0 = true then
          (if cmpI .ne ((lcmpI ((g 89 23)) 4075223)) 0 = true then
            (if cmpI .ne ((lcmpI ((g 89 23)) 12532043)) 0 = true then
              (if cmpI .ne ((lcmpI ((g 89 23)) 923)) 0 = true then
                (if cmpI .ne ((lcmpI ((g 89 23)) 4562600)) 0 = true then
                  (if cmpI .ne ((lcmpI ((g 89 23)) 17186)) 0 = true then
                    (if cmpI .ne ((lcmpI ((g 89 23)) 2148976972)) 0 = true then
                      (some ((0, 0), ((mk E c s (hh g)))))
                    else
                      (some ((0, 11), ((mk E c s (hh g))))))
                  else
                    (some ((0, 10), ((mk E c s (hh g))))))
                else
                  (some ((0, 9), ((mk E c s (hh g))))))
              else
                (some ((0, 8), ((mk E c s (hh g))))))
            else
              (some ((0, 7), ((mk E c s (hh g))))))
          else
            (some ((0, 6), ((mk E c s (hh g))))))
        else
          (some ((0, 5), ((mk E c s (hh g))))))
      else
        (some ((0, 4), ((mk E c s (hh g))))))
    else
      (some ((0, 3), ((mk E c s (hh g))))))
  else
    (some ((0, 2), ((mk E c s (hh g))))))
else
  (some ((0, 1), ((mk E c s (hh g)))))) :=
  (evk_at (r := ((fget 6237 ((mk E c s (hh g))) 89).bind fun v1 =>
  if cmpI .ne ((lcmpI v1 234466237)) 0 = true then
  ((fget 6237 ((mk E c s (hh g))) 89).bind fun v2 =>
    if cmpI .ne ((lcmpI v2 6033331)) 0 = true then
    ((fget 6237 ((mk E c s (hh g))) 89).bind fun v3 =>
      if cmpI .ne ((lcmpI v3 11047)) 0 = true then
      ((fget 6237 ((mk E c s (hh g))) 89).bind fun v4 =>
        if cmpI .ne ((lcmpI v4 381245)) 0 = true then
        ((fget 6237 ((mk E c s (hh g))) 89).bind fun v5 =>
          if cmpI .ne ((lcmpI v5 281490259)) 0 = true then
          ((fget 6237 ((mk E c s (hh g))) 89).bind fun v6 =>
            if cmpI .ne ((lcmpI v6 4075223)) 0 = true then
            ((fget 6237 ((mk E c s (hh g))) 89).bind fun v7 =>
              if cmpI .ne ((lcmpI v7 12532043)) 0 = true then
              ((fget 6237 ((mk E c s (hh g))) 89).bind fun v8 =>
                if cmpI .ne ((lcmpI v8 923)) 0 = true then
                ((fget 6237 ((mk E c s (hh g))) 89).bind fun v9 =>
                  if cmpI .ne ((lcmpI v9 4562600)) 0 = true then
                  ((fget 6237 ((mk E c s (hh g))) 89).bind fun v10 =>
                    if cmpI .ne ((lcmpI v10 17186)) 0 = true then
                    ((fget 6237 ((mk E c s (hh g))) 89).bind fun v11 =>
                      if cmpI .ne ((lcmpI v11 2148976972)) 0 = true then
                      (some ((0, 0), (mk E c s (hh g))))
                    else
                      (some ((0, 11), (mk E c s (hh g)))))
                  else
                    (some ((0, 10), (mk E c s (hh g)))))
                else
                  (some ((0, 9), (mk E c s (hh g)))))
              else
                (some ((0, 8), (mk E c s (hh g)))))
            else
              (some ((0, 7), (mk E c s (hh g)))))
          else
            (some ((0, 6), (mk E c s (hh g)))))
        else
          (some ((0, 5), (mk E c s (hh g)))))
      else
        (some ((0, 4), (mk E c s (hh g)))))
    else
      (some ((0, 3), (mk E c s (hh g)))))
  else
    (some ((0, 2), (mk E c s (hh g)))))
else
  (some ((0, 1), (mk E c s (hh g)))))) X [0] 58 rfl).trans (by simp (disch := decide) only [F6237_89, bindI, Option.bind_some, if_true_, and_self, ite_true, true_and, true_or, or_true])
set_option maxRecDepth 100000 in
theorem rc179_ (d : Nat) : Call prog clsT X (d + 1) 179 [(2, 89)] (mk E c s (hh g)) =
  (if cmpI .ne ((lcmpI ((g 89 23)) 234466237)) 0 = true then
  (if cmpI .ne ((lcmpI ((g 89 23)) 6033331)) 0 = true then
    (if cmpI .ne ((lcmpI ((g 89 23)) 11047)) 0 = true then
      (if cmpI .ne ((lcmpI ((g 89 23)) 381245)) 0 = true then
        (if cmpI .ne ((lcmpI ((g 89 23)) 281490259)) 0 = true then
          (if cmpI .ne ((lcmpI ((g 89 23)) 4075223)) 0 = true then
            (if cmpI .ne ((lcmpI ((g 89 23)) 12532043)) 0 = true then
              (if cmpI .ne ((lcmpI ((g 89 23)) 923)) 0 = true then
                (if cmpI .ne ((lcmpI ((g 89 23)) 4562600)) 0 = true then
                  (if cmpI .ne ((lcmpI ((g 89 23)) 17186)) 0 = true then
                    (if cmpI .ne ((lcmpI ((g 89 23)) 2148976972)) 0 = true then
                      (some ((0, 0), ((mk E c s (hh g)))))
                    else
                      (some ((0, 11), ((mk E c s (hh g))))))
                  else
                    (some ((0, 10), ((mk E c s (hh g))))))
                else
                  (some ((0, 9), ((mk E c s (hh g))))))
              else
                (some ((0, 8), ((mk E c s (hh g))))))
            else
              (some ((0, 7), ((mk E c s (hh g))))))
          else
            (some ((0, 6), ((mk E c s (hh g))))))
        else
          (some ((0, 5), ((mk E c s (hh g))))))
      else
        (some ((0, 4), ((mk E c s (hh g))))))
    else
      (some ((0, 3), ((mk E c s (hh g))))))
  else
    (some ((0, 2), ((mk E c s (hh g))))))
else
  (some ((0, 1), ((mk E c s (hh g)))))) :=
  (show Call prog clsT X (d + 1) 179 [(2, 89)] (mk E c s (hh g)) = Ev prog clsT X d mc179 0 [(2, 89)] [] (mk E c s (hh g)) from rfl).trans (r179_0 X E c s g d  )
theorem r180_0 (d : Nat) (x1 : Int) : Ev prog clsT X d mc180 0 [(2, 89), (0, x1)] [] (mk E c s (hh g)) =
  (if cmpI .ne ((g 89 22)) 3 = true then
  (some ((0, 0), ((mk E c s (hh g)))))
else
  (if inb ((g 89 21)) 1000 = true then
    (if cmpI .ne ((g 105 (Int.toNat ((g 89 21))))) x1 = true then
    (some ((0, 0), ((mk E c s (hh g)))))
  else
    (some ((0, 1), ((mk E c s (hh g))))))
  else none)) :=
  (evk_at (r := ((fget 6232 ((mk E c s (hh g))) 89).bind fun v1 =>
  if cmpI .ne v1 3 = true then
  (some ((0, 0), (mk E c s (hh g))))
else
  ((fget 6218 ((mk E c s (hh g))) 89).bind fun v2 =>
    (fget 6228 ((mk E c s (hh g))) 89).bind fun v3 =>
    (aget X 100 ((mk E c s (hh g))) v2 v3).bind fun v4 =>
    if cmpI .ne v4 x1 = true then
    (some ((0, 0), (mk E c s (hh g))))
  else
    (some ((0, 1), (mk E c s (hh g))))))) X [0] 15 rfl).trans (by simp (disch := decide) only [A105, F6218_89, F6228_89, F6232_89, bindI, Option.bind_some, if_true_, and_self, ite_true, true_and, true_or, or_true])
theorem rc180_ (d : Nat) (x1 : Int) : Call prog clsT X (d + 1) 180 [(2, 89), (0, x1)] (mk E c s (hh g)) =
  (if cmpI .ne ((g 89 22)) 3 = true then
  (some ((0, 0), ((mk E c s (hh g)))))
else
  (if inb ((g 89 21)) 1000 = true then
    (if cmpI .ne ((g 105 (Int.toNat ((g 89 21))))) x1 = true then
    (some ((0, 0), ((mk E c s (hh g)))))
  else
    (some ((0, 1), ((mk E c s (hh g))))))
  else none)) :=
  (show Call prog clsT X (d + 1) 180 [(2, 89), (0, x1)] (mk E c s (hh g)) = Ev prog clsT X d mc180 0 [(2, 89), (0, x1)] [] (mk E c s (hh g)) from rfl).trans (r180_0 X E c s g d x1 )
theorem r182_0 (d : Nat) (x1 : Int) : Ev prog clsT X d mc182 0 [(2, 89), (0, x1)] [] (mk E c s (hh g)) =
  ((Call prog clsT X d 171 [(2, 89), (1, 1503)] ((mk E c s (hh g)))).bind fun r1 => if r1.1.1 = 4 then none else
  Ev prog clsT X d mc182 3 [(2, 89), (0, x1)] (pushR r1.1 []) r1.2) :=
  (evk_at (r := (if (2 : Nat) = 2 ∧ rcv ((mk E c s (hh g))) 89 13 = true then
  ((Call prog clsT X d 171 [(2, 89), (1, 1503)] ((mk E c s (hh g)))).bind fun r1 => if r1.1.1 = 4 then none else
  Ev prog clsT X d mc182 3 [(2, 89), (0, x1)] (pushR r1.1 []) r1.2) else none)) X [0, 3, 6, 12, 16, 19, 23, 28, 32, 37, 41] 4 rfl).trans (by simp (disch := decide) only [R89_13, bindI, Option.bind_some, if_true_, and_self, ite_true, true_and, true_or, or_true])
theorem rc182_ (d : Nat) (x1 : Int) : Call prog clsT X (d + 1) 182 [(2, 89), (0, x1)] (mk E c s (hh g)) =
  ((Call prog clsT X d 171 [(2, 89), (1, 1503)] ((mk E c s (hh g)))).bind fun r1 => if r1.1.1 = 4 then none else
  Ev prog clsT X d mc182 3 [(2, 89), (0, x1)] (pushR r1.1 []) r1.2) :=
  (show Call prog clsT X (d + 1) 182 [(2, 89), (0, x1)] (mk E c s (hh g)) = Ev prog clsT X d mc182 0 [(2, 89), (0, x1)] [] (mk E c s (hh g)) from rfl).trans (r182_0 X E c s g d x1 )
theorem r182_3 (d : Nat) (x1 s0 : Int) : Ev prog clsT X d mc182 3 [(2, 89), (0, x1)] [(0, s0)] (mk E c s (hh g)) =
  (if cmpI .eq s0 0 = true then
  (if cmpI .eq x1 0 = true then
    ((Call prog clsT X d 171 [(2, 89), (1, 453836)] ((mk E c s (hh g)))).bind fun r1 => if r1.1.1 = 4 then none else
      Ev prog clsT X d mc182 16 [(2, 89), (0, x1)] (pushR r1.1 []) r1.2)
  else
    ((Call prog clsT X d 172 [(2, 89), (0, 1)] ((mk E c s (hh g)))).bind fun r2 => if r2.1.1 = 4 then none else
      Ev prog clsT X d mc182 12 [(2, 89), (0, x1)] (pushR r2.1 []) r2.2))
else
  ((Call prog clsT X d 183 [(2, 89)] ((mk E c s (hh g)))).bind fun r3 => if r3.1.1 = 4 then none else
    Ev prog clsT X d mc182 6 [(2, 89), (0, x1)] (pushR r3.1 []) r3.2)) :=
  (evk_at (r := (if cmpI .eq s0 0 = true then
  (if cmpI .eq x1 0 = true then
    (if (2 : Nat) = 2 ∧ rcv ((mk E c s (hh g))) 89 13 = true then
      ((Call prog clsT X d 171 [(2, 89), (1, 453836)] ((mk E c s (hh g)))).bind fun r1 => if r1.1.1 = 4 then none else
      Ev prog clsT X d mc182 16 [(2, 89), (0, x1)] (pushR r1.1 []) r1.2) else none)
  else
    (if (2 : Nat) = 2 ∧ rcv ((mk E c s (hh g))) 89 13 = true then
      ((Call prog clsT X d 172 [(2, 89), (0, 1)] ((mk E c s (hh g)))).bind fun r2 => if r2.1.1 = 4 then none else
      Ev prog clsT X d mc182 12 [(2, 89), (0, x1)] (pushR r2.1 []) r2.2) else none))
else
  (if (2 : Nat) = 2 ∧ rcv ((mk E c s (hh g))) 89 13 = true then
    ((Call prog clsT X d 183 [(2, 89)] ((mk E c s (hh g)))).bind fun r3 => if r3.1.1 = 4 then none else
    Ev prog clsT X d mc182 6 [(2, 89), (0, x1)] (pushR r3.1 []) r3.2) else none))) X [0, 3, 6, 12, 16, 19, 23, 28, 32, 37, 41] 7 rfl).trans (by simp (disch := decide) only [R89_13, bindI, Option.bind_some, if_true_, and_self, ite_true, true_and, true_or, or_true])
theorem r182_6 (d : Nat) (x1 s0 : Int) : Ev prog clsT X d mc182 6 [(2, 89), (0, x1)] [(0, s0)] (mk E c s (hh g)) =
  (if (0 : Nat) = 0 ∧ one01 s0 = true then some ((0, s0), ((mk E c s (hh g)))) else none) :=
  (evk_at (r := (if (0 : Nat) = 0 ∧ one01 s0 = true then some ((0, s0), (mk E c s (hh g))) else none)) X [0, 3, 6, 12, 16, 19, 23, 28, 32, 37, 41] 2 rfl).trans (by simp (disch := decide) only [bindI, Option.bind_some, if_true_, and_self, ite_true, true_and, true_or, or_true])
theorem r182_12 (d : Nat) (x1 s0 : Int) : Ev prog clsT X d mc182 12 [(2, 89), (0, x1)] [(0, s0)] (mk E c s (hh g)) =
  (if (0 : Nat) = 0 ∧ one01 s0 = true then some ((0, s0), ((mk E c s (hh g)))) else none) :=
  (evk_at (r := (if (0 : Nat) = 0 ∧ one01 s0 = true then some ((0, s0), (mk E c s (hh g))) else none)) X [0, 3, 6, 12, 16, 19, 23, 28, 32, 37, 41] 2 rfl).trans (by simp (disch := decide) only [bindI, Option.bind_some, if_true_, and_self, ite_true, true_and, true_or, or_true])
theorem r182_16 (d : Nat) (x1 s0 : Int) : Ev prog clsT X d mc182 16 [(2, 89), (0, x1)] [(0, s0)] (mk E c s (hh g)) =
  (if cmpI .eq s0 0 = true then
  ((Call prog clsT X d 171 [(2, 89), (1, 6941854)] ((mk E c s (hh g)))).bind fun r1 => if r1.1.1 = 4 then none else
    Ev prog clsT X d mc182 23 [(2, 89), (0, x1)] (pushR r1.1 []) r1.2)
else
  ((Call prog clsT X d 184 [(2, 89)] ((mk E c s (hh g)))).bind fun r2 => if r2.1.1 = 4 then none else
    Ev prog clsT X d mc182 19 [(2, 89), (0, x1)] (pushR r2.1 []) r2.2)) :=
  (evk_at (r := (if cmpI .eq s0 0 = true then
  (if (2 : Nat) = 2 ∧ rcv ((mk E c s (hh g))) 89 13 = true then
    ((Call prog clsT X d 171 [(2, 89), (1, 6941854)] ((mk E c s (hh g)))).bind fun r1 => if r1.1.1 = 4 then none else
    Ev prog clsT X d mc182 23 [(2, 89), (0, x1)] (pushR r1.1 []) r1.2) else none)
else
  (if (2 : Nat) = 2 ∧ rcv ((mk E c s (hh g))) 89 13 = true then
    ((Call prog clsT X d 184 [(2, 89)] ((mk E c s (hh g)))).bind fun r2 => if r2.1.1 = 4 then none else
    Ev prog clsT X d mc182 19 [(2, 89), (0, x1)] (pushR r2.1 []) r2.2) else none))) X [0, 3, 6, 12, 16, 19, 23, 28, 32, 37, 41] 5 rfl).trans (by simp (disch := decide) only [R89_13, bindI, Option.bind_some, if_true_, and_self, ite_true, true_and, true_or, or_true])
theorem r182_19 (d : Nat) (x1 s0 : Int) : Ev prog clsT X d mc182 19 [(2, 89), (0, x1)] [(0, s0)] (mk E c s (hh g)) =
  (if (0 : Nat) = 0 ∧ one01 s0 = true then some ((0, s0), ((mk E c s (hh g)))) else none) :=
  (evk_at (r := (if (0 : Nat) = 0 ∧ one01 s0 = true then some ((0, s0), (mk E c s (hh g))) else none)) X [0, 3, 6, 12, 16, 19, 23, 28, 32, 37, 41] 2 rfl).trans (by simp (disch := decide) only [bindI, Option.bind_some, if_true_, and_self, ite_true, true_and, true_or, or_true])
theorem r182_23 (d : Nat) (x1 s0 : Int) : Ev prog clsT X d mc182 23 [(2, 89), (0, x1)] [(0, s0)] (mk E c s (hh g)) =
  (if cmpI .eq s0 0 = true then
  ((Call prog clsT X d 171 [(2, 89), (1, 14828)] ((mk E c s (hh g)))).bind fun r1 => if r1.1.1 = 4 then none else
    Ev prog clsT X d mc182 32 [(2, 89), (0, x1)] (pushR r1.1 []) r1.2)
else
  ((Call prog clsT X d 173 [(2, 89), (0, 6), (0, 0)] ((mk E c s (hh g)))).bind fun r2 => if r2.1.1 = 4 then none else
    Ev prog clsT X d mc182 28 [(2, 89), (0, x1)] (pushR r2.1 []) r2.2)) :=
  (evk_at (r := (if cmpI .eq s0 0 = true then
  (if (2 : Nat) = 2 ∧ rcv ((mk E c s (hh g))) 89 13 = true then
    ((Call prog clsT X d 171 [(2, 89), (1, 14828)] ((mk E c s (hh g)))).bind fun r1 => if r1.1.1 = 4 then none else
    Ev prog clsT X d mc182 32 [(2, 89), (0, x1)] (pushR r1.1 []) r1.2) else none)
else
  (if (2 : Nat) = 2 ∧ rcv ((mk E c s (hh g))) 89 13 = true then
    ((Call prog clsT X d 173 [(2, 89), (0, 6), (0, 0)] ((mk E c s (hh g)))).bind fun r2 => if r2.1.1 = 4 then none else
    Ev prog clsT X d mc182 28 [(2, 89), (0, x1)] (pushR r2.1 []) r2.2) else none))) X [0, 3, 6, 12, 16, 19, 23, 28, 32, 37, 41] 6 rfl).trans (by simp (disch := decide) only [R89_13, bindI, Option.bind_some, if_true_, and_self, ite_true, true_and, true_or, or_true])
theorem r182_28 (d : Nat) (x1 s0 : Int) : Ev prog clsT X d mc182 28 [(2, 89), (0, x1)] [(0, s0)] (mk E c s (hh g)) =
  (if (0 : Nat) = 0 ∧ one01 s0 = true then some ((0, s0), ((mk E c s (hh g)))) else none) :=
  (evk_at (r := (if (0 : Nat) = 0 ∧ one01 s0 = true then some ((0, s0), (mk E c s (hh g))) else none)) X [0, 3, 6, 12, 16, 19, 23, 28, 32, 37, 41] 2 rfl).trans (by simp (disch := decide) only [bindI, Option.bind_some, if_true_, and_self, ite_true, true_and, true_or, or_true])
theorem r182_32 (d : Nat) (x1 s0 : Int) : Ev prog clsT X d mc182 32 [(2, 89), (0, x1)] [(0, s0)] (mk E c s (hh g)) =
  (if cmpI .eq s0 0 = true then
  ((Call prog clsT X d 172 [(2, 89), (0, 1)] ((mk E c s (hh g)))).bind fun r1 => if r1.1.1 = 4 then none else
    Ev prog clsT X d mc182 41 [(2, 89), (0, x1)] (pushR r1.1 []) r1.2)
else
  ((Call prog clsT X d 173 [(2, 89), (0, 7), (0, 0)] ((mk E c s (hh g)))).bind fun r2 => if r2.1.1 = 4 then none else
    Ev prog clsT X d mc182 37 [(2, 89), (0, x1)] (pushR r2.1 []) r2.2)) :=
  (evk_at (r := (if cmpI .eq s0 0 = true then
  (if (2 : Nat) = 2 ∧ rcv ((mk E c s (hh g))) 89 13 = true then
    ((Call prog clsT X d 172 [(2, 89), (0, 1)] ((mk E c s (hh g)))).bind fun r1 => if r1.1.1 = 4 then none else
    Ev prog clsT X d mc182 41 [(2, 89), (0, x1)] (pushR r1.1 []) r1.2) else none)
else
  (if (2 : Nat) = 2 ∧ rcv ((mk E c s (hh g))) 89 13 = true then
    ((Call prog clsT X d 173 [(2, 89), (0, 7), (0, 0)] ((mk E c s (hh g)))).bind fun r2 => if r2.1.1 = 4 then none else
    Ev prog clsT X d mc182 37 [(2, 89), (0, x1)] (pushR r2.1 []) r2.2) else none))) X [0, 3, 6, 12, 16, 19, 23, 28, 32, 37, 41] 6 rfl).trans (by simp (disch := decide) only [R89_13, bindI, Option.bind_some, if_true_, and_self, ite_true, true_and, true_or, or_true])
theorem r182_37 (d : Nat) (x1 s0 : Int) : Ev prog clsT X d mc182 37 [(2, 89), (0, x1)] [(0, s0)] (mk E c s (hh g)) =
  (Ev prog clsT X d mc182 41 [(2, 89), (0, x1)] [(0, s0)] (mk E c s (hh g))) :=
  evk_at X [0, 3, 6, 12, 16, 19, 23, 28, 32, 37, 41] 3 rfl
theorem r182_41 (d : Nat) (x1 s0 : Int) : Ev prog clsT X d mc182 41 [(2, 89), (0, x1)] [(0, s0)] (mk E c s (hh g)) =
  (if (0 : Nat) = 0 ∧ one01 s0 = true then some ((0, s0), ((mk E c s (hh g)))) else none) :=
  (evk_at (r := (if (0 : Nat) = 0 ∧ one01 s0 = true then some ((0, s0), (mk E c s (hh g))) else none)) X [0, 3, 6, 12, 16, 19, 23, 28, 32, 37, 41] 2 rfl).trans (by simp (disch := decide) only [bindI, Option.bind_some, if_true_, and_self, ite_true, true_and, true_or, or_true])
theorem r183_0 (d : Nat) : Ev prog clsT X d mc183 0 [(2, 89)] [] (mk E c s (hh g)) =
  (if cmpI .ne ((g 109 12)) 6 = true then
  ((Call prog clsT X d 167 [(2, 89)] ((mk E c s (hh g)))).bind fun r1 => if r1.1.1 = 4 then none else
    Ev prog clsT X d mc183 12 [(2, 89)] (pushR r1.1 []) r1.2)
else
  ((Call prog clsT X d 172 [(2, 89), (0, 5)] ((mk E c s (hh g)))).bind fun r2 => if r2.1.1 = 4 then none else
    Ev prog clsT X d mc183 9 [(2, 89)] (pushR r2.1 []) r2.2)) :=
  (evk_at (r := ((fget 6262 ((mk E c s (hh g))) 89).bind fun v1 =>
  (aget X 100 ((mk E c s (hh g))) v1 12).bind fun v2 =>
  if cmpI .ne v2 6 = true then
  (if (2 : Nat) = 2 ∧ rcv ((mk E c s (hh g))) 89 13 = true then
    ((Call prog clsT X d 167 [(2, 89)] ((mk E c s (hh g)))).bind fun r3 => if r3.1.1 = 4 then none else
    Ev prog clsT X d mc183 12 [(2, 89)] (pushR r3.1 []) r3.2) else none)
else
  (if (2 : Nat) = 2 ∧ rcv ((mk E c s (hh g))) 89 13 = true then
    ((Call prog clsT X d 172 [(2, 89), (0, 5)] ((mk E c s (hh g)))).bind fun r4 => if r4.1.1 = 4 then none else
    Ev prog clsT X d mc183 9 [(2, 89)] (pushR r4.1 []) r4.2) else none))) X [0, 9, 12, 19, 27, 41, 47] 10 rfl).trans (by simp (disch := decide) only [A109, F6262_89, R89_13, inbL 12 13 rfl, tn12, bindI, Option.bind_some, if_true_, and_self, ite_true, true_and, true_or, or_true])
theorem rc183_ (d : Nat) : Call prog clsT X (d + 1) 183 [(2, 89)] (mk E c s (hh g)) =
  (if cmpI .ne ((g 109 12)) 6 = true then
  ((Call prog clsT X d 167 [(2, 89)] ((mk E c s (hh g)))).bind fun r1 => if r1.1.1 = 4 then none else
    Ev prog clsT X d mc183 12 [(2, 89)] (pushR r1.1 []) r1.2)
else
  ((Call prog clsT X d 172 [(2, 89), (0, 5)] ((mk E c s (hh g)))).bind fun r2 => if r2.1.1 = 4 then none else
    Ev prog clsT X d mc183 9 [(2, 89)] (pushR r2.1 []) r2.2)) :=
  (show Call prog clsT X (d + 1) 183 [(2, 89)] (mk E c s (hh g)) = Ev prog clsT X d mc183 0 [(2, 89)] [] (mk E c s (hh g)) from rfl).trans (r183_0 X E c s g d  )
theorem r183_9 (d : Nat) (s0 : Int) : Ev prog clsT X d mc183 9 [(2, 89)] [(0, s0)] (mk E c s (hh g)) =
  (if (0 : Nat) = 0 ∧ one01 s0 = true then some ((0, s0), ((mk E c s (hh g)))) else none) :=
  (evk_at (r := (if (0 : Nat) = 0 ∧ one01 s0 = true then some ((0, s0), (mk E c s (hh g))) else none)) X [0, 9, 12, 19, 27, 41, 47] 2 rfl).trans (by simp (disch := decide) only [bindI, Option.bind_some, if_true_, and_self, ite_true, true_and, true_or, or_true])
theorem r183_19 (d : Nat) (s0 : Int) : Ev prog clsT X d mc183 19 [(2, 89)] [(0, s0)] (mk E c s (hh g)) =
  (if (0 : Nat) = 0 ∧ one01 s0 = true then some ((0, s0), ((mk E c s (hh g)))) else none) :=
  (evk_at (r := (if (0 : Nat) = 0 ∧ one01 s0 = true then some ((0, s0), (mk E c s (hh g))) else none)) X [0, 9, 12, 19, 27, 41, 47] 2 rfl).trans (by simp (disch := decide) only [bindI, Option.bind_some, if_true_, and_self, ite_true, true_and, true_or, or_true])
theorem r183_27 (d : Nat) (s0 : Int) : Ev prog clsT X d mc183 27 [(2, 89)] [(0, s0)] (mk E c s (hh g)) =
  (if (0 : Nat) = 0 ∧ one01 s0 = true then some ((0, s0), ((mk E c s (hh g)))) else none) :=
  (evk_at (r := (if (0 : Nat) = 0 ∧ one01 s0 = true then some ((0, s0), (mk E c s (hh g))) else none)) X [0, 9, 12, 19, 27, 41, 47] 2 rfl).trans (by simp (disch := decide) only [bindI, Option.bind_some, if_true_, and_self, ite_true, true_and, true_or, or_true])
theorem r183_41 (d : Nat) : Ev prog clsT X d mc183 41 [(2, 89)] [] (mk E c s (hh g)) =
  ((Call prog clsT X d 174 [(2, 89), (0, (g 109 12))] ((mk E c s (hh g)))).bind fun r1 => if r1.1.1 = 4 then none else
  Ev prog clsT X d mc183 47 [(2, 89)] (pushR r1.1 []) r1.2) :=
  (evk_at (r := ((fget 6262 ((mk E c s (hh g))) 89).bind fun v1 =>
  (aget X 100 ((mk E c s (hh g))) v1 12).bind fun v2 =>
  if (2 : Nat) = 2 ∧ rcv ((mk E c s (hh g))) 89 13 = true then
  ((Call prog clsT X d 174 [(2, 89), (0, v2)] ((mk E c s (hh g)))).bind fun r3 => if r3.1.1 = 4 then none else
  Ev prog clsT X d mc183 47 [(2, 89)] (pushR r3.1 []) r3.2) else none)) X [0, 9, 12, 19, 27, 41, 47] 7 rfl).trans (by simp (disch := decide) only [A109, F6262_89, R89_13, inbL 12 13 rfl, tn12, bindI, Option.bind_some, if_true_, and_self, ite_true, true_and, true_or, or_true])
theorem r184_0 (d : Nat) : Ev prog clsT X d mc184 0 [(2, 89)] [] (mk E c s (hh g)) =
  (if cmpI .le ((g 107 12)) 0 = true then
  ((Call prog clsT X d 167 [(2, 89)] ((mk E c s (hh g)))).bind fun r1 => if r1.1.1 = 4 then none else
    Ev prog clsT X d mc184 11 [(2, 89)] (pushR r1.1 []) r1.2)
else
  ((Call prog clsT X d 172 [(2, 89), (0, 3)] ((mk E c s (hh g)))).bind fun r2 => if r2.1.1 = 4 then none else
    Ev prog clsT X d mc184 8 [(2, 89)] (pushR r2.1 []) r2.2)) :=
  (evk_at (r := ((fget 6254 ((mk E c s (hh g))) 89).bind fun v1 =>
  (aget X 100 ((mk E c s (hh g))) v1 12).bind fun v2 =>
  if cmpI .le v2 0 = true then
  (if (2 : Nat) = 2 ∧ rcv ((mk E c s (hh g))) 89 13 = true then
    ((Call prog clsT X d 167 [(2, 89)] ((mk E c s (hh g)))).bind fun r3 => if r3.1.1 = 4 then none else
    Ev prog clsT X d mc184 11 [(2, 89)] (pushR r3.1 []) r3.2) else none)
else
  (if (2 : Nat) = 2 ∧ rcv ((mk E c s (hh g))) 89 13 = true then
    ((Call prog clsT X d 172 [(2, 89), (0, 3)] ((mk E c s (hh g)))).bind fun r4 => if r4.1.1 = 4 then none else
    Ev prog clsT X d mc184 8 [(2, 89)] (pushR r4.1 []) r4.2) else none))) X [0, 8, 11, 18, 30, 39, 42, 46, 49, 56, 64, 73, 76, 80, 83] 9 rfl).trans (by simp (disch := decide) only [A107, F6254_89, R89_13, inbL 12 13 rfl, tn12, bindI, Option.bind_some, if_true_, and_self, ite_true, true_and, true_or, or_true])
theorem rc184_ (d : Nat) : Call prog clsT X (d + 1) 184 [(2, 89)] (mk E c s (hh g)) =
  (if cmpI .le ((g 107 12)) 0 = true then
  ((Call prog clsT X d 167 [(2, 89)] ((mk E c s (hh g)))).bind fun r1 => if r1.1.1 = 4 then none else
    Ev prog clsT X d mc184 11 [(2, 89)] (pushR r1.1 []) r1.2)
else
  ((Call prog clsT X d 172 [(2, 89), (0, 3)] ((mk E c s (hh g)))).bind fun r2 => if r2.1.1 = 4 then none else
    Ev prog clsT X d mc184 8 [(2, 89)] (pushR r2.1 []) r2.2)) :=
  (show Call prog clsT X (d + 1) 184 [(2, 89)] (mk E c s (hh g)) = Ev prog clsT X d mc184 0 [(2, 89)] [] (mk E c s (hh g)) from rfl).trans (r184_0 X E c s g d  )
theorem r184_8 (d : Nat) (s0 : Int) : Ev prog clsT X d mc184 8 [(2, 89)] [(0, s0)] (mk E c s (hh g)) =
  (if (0 : Nat) = 0 ∧ one01 s0 = true then some ((0, s0), ((mk E c s (hh g)))) else none) :=
  (evk_at (r := (if (0 : Nat) = 0 ∧ one01 s0 = true then some ((0, s0), (mk E c s (hh g))) else none)) X [0, 8, 11, 18, 30, 39, 42, 46, 49, 56, 64, 73, 76, 80, 83] 2 rfl).trans (by simp (disch := decide) only [bindI, Option.bind_some, if_true_, and_self, ite_true, true_and, true_or, or_true])
theorem r184_18 (d : Nat) (s0 : Int) : Ev prog clsT X d mc184 18 [(2, 89)] [(0, s0)] (mk E c s (hh g)) =
  (if (0 : Nat) = 0 ∧ one01 s0 = true then some ((0, s0), ((mk E c s (hh g)))) else none) :=
  (evk_at (r := (if (0 : Nat) = 0 ∧ one01 s0 = true then some ((0, s0), (mk E c s (hh g))) else none)) X [0, 8, 11, 18, 30, 39, 42, 46, 49, 56, 64, 73, 76, 80, 83] 2 rfl).trans (by simp (disch := decide) only [bindI, Option.bind_some, if_true_, and_self, ite_true, true_and, true_or, or_true])
theorem r184_30 (d : Nat) (s0 : Int) : Ev prog clsT X d mc184 30 [(2, 89)] [(0, s0)] (mk E c s (hh g)) =
  (if (0 : Nat) = 0 ∧ one01 s0 = true then some ((0, s0), ((mk E c s (hh g)))) else none) :=
  (evk_at (r := (if (0 : Nat) = 0 ∧ one01 s0 = true then some ((0, s0), (mk E c s (hh g))) else none)) X [0, 8, 11, 18, 30, 39, 42, 46, 49, 56, 64, 73, 76, 80, 83] 2 rfl).trans (by simp (disch := decide) only [bindI, Option.bind_some, if_true_, and_self, ite_true, true_and, true_or, or_true])
theorem r184_39 (d : Nat) : Ev prog clsT X d mc184 39 [(2, 89)] [] (mk E c s (hh g)) =
  ((Call prog clsT X d 171 [(2, 89), (1, 223456)] ((mk E c s (hh g)))).bind fun r1 => if r1.1.1 = 4 then none else
  Ev prog clsT X d mc184 42 [(2, 89)] (pushR r1.1 []) r1.2) :=
  (evk_at (r := (if (2 : Nat) = 2 ∧ rcv ((mk E c s (hh g))) 89 13 = true then
  ((Call prog clsT X d 171 [(2, 89), (1, 223456)] ((mk E c s (hh g)))).bind fun r1 => if r1.1.1 = 4 then none else
  Ev prog clsT X d mc184 42 [(2, 89)] (pushR r1.1 []) r1.2) else none)) X [0, 8, 11, 18, 30, 39, 42, 46, 49, 56, 64, 73, 76, 80, 83] 4 rfl).trans (by simp (disch := decide) only [R89_13, bindI, Option.bind_some, if_true_, and_self, ite_true, true_and, true_or, or_true])
theorem r184_42 (d : Nat) (s0 : Int) : Ev prog clsT X d mc184 42 [(2, 89)] [(0, s0)] (mk E c s (hh g)) =
  (if cmpI .ne s0 0 = true then
  ((Call prog clsT X d 167 [(2, 89)] ((mk E c s (hh g)))).bind fun r1 => if r1.1.1 = 4 then none else
    Ev prog clsT X d mc184 49 [(2, 89)] (pushR r1.1 []) r1.2)
else
  ((Call prog clsT X d 172 [(2, 89), (0, 1)] ((mk E c s (hh g)))).bind fun r2 => if r2.1.1 = 4 then none else
    Ev prog clsT X d mc184 46 [(2, 89)] (pushR r2.1 []) r2.2)) :=
  (evk_at (r := (if cmpI .ne s0 0 = true then
  (if (2 : Nat) = 2 ∧ rcv ((mk E c s (hh g))) 89 13 = true then
    ((Call prog clsT X d 167 [(2, 89)] ((mk E c s (hh g)))).bind fun r1 => if r1.1.1 = 4 then none else
    Ev prog clsT X d mc184 49 [(2, 89)] (pushR r1.1 []) r1.2) else none)
else
  (if (2 : Nat) = 2 ∧ rcv ((mk E c s (hh g))) 89 13 = true then
    ((Call prog clsT X d 172 [(2, 89), (0, 1)] ((mk E c s (hh g)))).bind fun r2 => if r2.1.1 = 4 then none else
    Ev prog clsT X d mc184 46 [(2, 89)] (pushR r2.1 []) r2.2) else none))) X [0, 8, 11, 18, 30, 39, 42, 46, 49, 56, 64, 73, 76, 80, 83] 5 rfl).trans (by simp (disch := decide) only [R89_13, bindI, Option.bind_some, if_true_, and_self, ite_true, true_and, true_or, or_true])
theorem r184_46 (d : Nat) (s0 : Int) : Ev prog clsT X d mc184 46 [(2, 89)] [(0, s0)] (mk E c s (hh g)) =
  (if (0 : Nat) = 0 ∧ one01 s0 = true then some ((0, s0), ((mk E c s (hh g)))) else none) :=
  (evk_at (r := (if (0 : Nat) = 0 ∧ one01 s0 = true then some ((0, s0), (mk E c s (hh g))) else none)) X [0, 8, 11, 18, 30, 39, 42, 46, 49, 56, 64, 73, 76, 80, 83] 2 rfl).trans (by simp (disch := decide) only [bindI, Option.bind_some, if_true_, and_self, ite_true, true_and, true_or, or_true])
theorem r184_56 (d : Nat) (s0 : Int) : Ev prog clsT X d mc184 56 [(2, 89)] [(0, s0)] (mk E c s (hh g)) =
  (if (0 : Nat) = 0 ∧ one01 s0 = true then some ((0, s0), ((mk E c s (hh g)))) else none) :=
  (evk_at (r := (if (0 : Nat) = 0 ∧ one01 s0 = true then some ((0, s0), (mk E c s (hh g))) else none)) X [0, 8, 11, 18, 30, 39, 42, 46, 49, 56, 64, 73, 76, 80, 83] 2 rfl).trans (by simp (disch := decide) only [bindI, Option.bind_some, if_true_, and_self, ite_true, true_and, true_or, or_true])
theorem r184_64 (d : Nat) (s0 : Int) : Ev prog clsT X d mc184 64 [(2, 89)] [(0, s0)] (mk E c s (hh g)) =
  (if (0 : Nat) = 0 ∧ one01 s0 = true then some ((0, s0), ((mk E c s (hh g)))) else none) :=
  (evk_at (r := (if (0 : Nat) = 0 ∧ one01 s0 = true then some ((0, s0), (mk E c s (hh g))) else none)) X [0, 8, 11, 18, 30, 39, 42, 46, 49, 56, 64, 73, 76, 80, 83] 2 rfl).trans (by simp (disch := decide) only [bindI, Option.bind_some, if_true_, and_self, ite_true, true_and, true_or, or_true])
theorem r184_73 (d : Nat) : Ev prog clsT X d mc184 73 [(2, 89)] [] (mk E c s (hh g)) =
  ((Call prog clsT X d 180 [(2, 89), (0, 59)] ((mk E c s (hh g)))).bind fun r1 => if r1.1.1 = 4 then none else
  Ev prog clsT X d mc184 76 [(2, 89)] (pushR r1.1 []) r1.2) :=
  (evk_at (r := (if (2 : Nat) = 2 ∧ rcv ((mk E c s (hh g))) 89 13 = true then
  ((Call prog clsT X d 180 [(2, 89), (0, 59)] ((mk E c s (hh g)))).bind fun r1 => if r1.1.1 = 4 then none else
  Ev prog clsT X d mc184 76 [(2, 89)] (pushR r1.1 []) r1.2) else none)) X [0, 8, 11, 18, 30, 39, 42, 46, 49, 56, 64, 73, 76, 80, 83] 4 rfl).trans (by simp (disch := decide) only [R89_13, bindI, Option.bind_some, if_true_, and_self, ite_true, true_and, true_or, or_true])
theorem r184_76 (d : Nat) (s0 : Int) : Ev prog clsT X d mc184 76 [(2, 89)] [(0, s0)] (mk E c s (hh g)) =
  (if cmpI .ne s0 0 = true then
  ((Call prog clsT X d 167 [(2, 89)] ((mk E c s (hh g)))).bind fun r1 => if r1.1.1 = 4 then none else
    Ev prog clsT X d mc184 83 [(2, 89)] (pushR r1.1 []) r1.2)
else
  ((Call prog clsT X d 172 [(2, 89), (0, 1)] ((mk E c s (hh g)))).bind fun r2 => if r2.1.1 = 4 then none else
    Ev prog clsT X d mc184 80 [(2, 89)] (pushR r2.1 []) r2.2)) :=
  (evk_at (r := (if cmpI .ne s0 0 = true then
  (if (2 : Nat) = 2 ∧ rcv ((mk E c s (hh g))) 89 13 = true then
    ((Call prog clsT X d 167 [(2, 89)] ((mk E c s (hh g)))).bind fun r1 => if r1.1.1 = 4 then none else
    Ev prog clsT X d mc184 83 [(2, 89)] (pushR r1.1 []) r1.2) else none)
else
  (if (2 : Nat) = 2 ∧ rcv ((mk E c s (hh g))) 89 13 = true then
    ((Call prog clsT X d 172 [(2, 89), (0, 1)] ((mk E c s (hh g)))).bind fun r2 => if r2.1.1 = 4 then none else
    Ev prog clsT X d mc184 80 [(2, 89)] (pushR r2.1 []) r2.2) else none))) X [0, 8, 11, 18, 30, 39, 42, 46, 49, 56, 64, 73, 76, 80, 83] 5 rfl).trans (by simp (disch := decide) only [R89_13, bindI, Option.bind_some, if_true_, and_self, ite_true, true_and, true_or, or_true])
theorem r184_80 (d : Nat) (s0 : Int) : Ev prog clsT X d mc184 80 [(2, 89)] [(0, s0)] (mk E c s (hh g)) =
  (if (0 : Nat) = 0 ∧ one01 s0 = true then some ((0, s0), ((mk E c s (hh g)))) else none) :=
  (evk_at (r := (if (0 : Nat) = 0 ∧ one01 s0 = true then some ((0, s0), (mk E c s (hh g))) else none)) X [0, 8, 11, 18, 30, 39, 42, 46, 49, 56, 64, 73, 76, 80, 83] 2 rfl).trans (by simp (disch := decide) only [bindI, Option.bind_some, if_true_, and_self, ite_true, true_and, true_or, or_true])
theorem r184_83 (d : Nat) : Ev prog clsT X d mc184 83 [(2, 89)] [] (mk E c s (hh g)) =
  (some ((0, 1), ((mk E c s (hh g))))) :=
  (evk_at (r := (some ((0, 1), (mk E c s (hh g))))) X [0, 8, 11, 18, 30, 39, 42, 46, 49, 56, 64, 73, 76, 80, 83] 3 rfl).trans (by simp (disch := decide) only [bindI, Option.bind_some, if_true_, and_self, ite_true, true_and, true_or, or_true])
theorem r185_0 (d : Nat) : Ev prog clsT X d mc185 0 [(2, 89)] [] (mk E c s (hh g)) =
  ((Call prog clsT X d 166 [(2, 89)] ((mk E c s (hh (up g 89 0 0))))).bind fun r1 => if r1.1.1 = 4 then none else
  Ev prog clsT X d mc185 5 [(2, 89)] (pushR r1.1 []) r1.2) :=
  (evk_at (r := ((fput 6144 ((mk E c s (hh g))) 89 0).bind fun M1 =>
  if (2 : Nat) = 2 ∧ rcv M1 89 13 = true then
  ((Call prog clsT X d 166 [(2, 89)] M1).bind fun r2 => if r2.1.1 = 4 then none else
  Ev prog clsT X d mc185 5 [(2, 89)] (pushR r2.1 []) r2.2) else none)) X [0, 5, 8] 6 rfl).trans (by simp (disch := decide) only [R89_13, W6144_89, bindI, Option.bind_some, if_true_, and_self, ite_true, true_and, true_or, or_true])
theorem rc185_ (d : Nat) : Call prog clsT X (d + 1) 185 [(2, 89)] (mk E c s (hh g)) =
  ((Call prog clsT X d 166 [(2, 89)] ((mk E c s (hh (up g 89 0 0))))).bind fun r1 => if r1.1.1 = 4 then none else
  Ev prog clsT X d mc185 5 [(2, 89)] (pushR r1.1 []) r1.2) :=
  (show Call prog clsT X (d + 1) 185 [(2, 89)] (mk E c s (hh g)) = Ev prog clsT X d mc185 0 [(2, 89)] [] (mk E c s (hh g)) from rfl).trans (r185_0 X E c s g d  )
theorem r185_5 (d : Nat) : Ev prog clsT X d mc185 5 [(2, 89)] [] (mk E c s (hh g)) =
  ((Call prog clsT X d 169 [(2, 89), (0, 10)] ((mk E c s (hh g)))).bind fun r1 => if r1.1.1 = 4 then none else
  Ev prog clsT X d mc185 8 [(2, 89)] (pushR r1.1 []) r1.2) :=
  (evk_at (r := (if (2 : Nat) = 2 ∧ rcv ((mk E c s (hh g))) 89 13 = true then
  ((Call prog clsT X d 169 [(2, 89), (0, 10)] ((mk E c s (hh g)))).bind fun r1 => if r1.1.1 = 4 then none else
  Ev prog clsT X d mc185 8 [(2, 89)] (pushR r1.1 []) r1.2) else none)) X [0, 5, 8] 4 rfl).trans (by simp (disch := decide) only [R89_13, bindI, Option.bind_some, if_true_, and_self, ite_true, true_and, true_or, or_true])
theorem r185_8 (d : Nat) (s0 : Int) : Ev prog clsT X d mc185 8 [(2, 89)] [(0, s0)] (mk E c s (hh g)) =
  (some ((0, s0), ((mk E c s (hh g))))) :=
  (evk_at (r := (some ((0, s0), (mk E c s (hh g))))) X [0, 5, 8] 2 rfl).trans (by simp (disch := decide) only [bindI, Option.bind_some, if_true_, and_self, ite_true, true_and, true_or, or_true])
theorem r186_0 (d : Nat) : Ev prog clsT X d mc186 0 [(2, 89)] [] (mk E c s (hh g)) =
  ((Call prog clsT X d 166 [(2, 89)] ((mk E c s (hh (up g 89 0 0))))).bind fun r1 => if r1.1.1 = 4 then none else
  Ev prog clsT X d mc186 5 [(2, 89)] (pushR r1.1 []) r1.2) :=
  (evk_at (r := ((fput 6144 ((mk E c s (hh g))) 89 0).bind fun M1 =>
  if (2 : Nat) = 2 ∧ rcv M1 89 13 = true then
  ((Call prog clsT X d 166 [(2, 89)] M1).bind fun r2 => if r2.1.1 = 4 then none else
  Ev prog clsT X d mc186 5 [(2, 89)] (pushR r2.1 []) r2.2) else none)) X [0, 5, 8] 6 rfl).trans (by simp (disch := decide) only [R89_13, W6144_89, bindI, Option.bind_some, if_true_, and_self, ite_true, true_and, true_or, or_true])
theorem rc186_ (d : Nat) : Call prog clsT X (d + 1) 186 [(2, 89)] (mk E c s (hh g)) =
  ((Call prog clsT X d 166 [(2, 89)] ((mk E c s (hh (up g 89 0 0))))).bind fun r1 => if r1.1.1 = 4 then none else
  Ev prog clsT X d mc186 5 [(2, 89)] (pushR r1.1 []) r1.2) :=
  (show Call prog clsT X (d + 1) 186 [(2, 89)] (mk E c s (hh g)) = Ev prog clsT X d mc186 0 [(2, 89)] [] (mk E c s (hh g)) from rfl).trans (r186_0 X E c s g d  )
theorem r186_5 (d : Nat) : Ev prog clsT X d mc186 5 [(2, 89)] [] (mk E c s (hh g)) =
  ((Call prog clsT X d 169 [(2, 89), (0, 11)] ((mk E c s (hh g)))).bind fun r1 => if r1.1.1 = 4 then none else
  Ev prog clsT X d mc186 8 [(2, 89)] (pushR r1.1 []) r1.2) :=
  (evk_at (r := (if (2 : Nat) = 2 ∧ rcv ((mk E c s (hh g))) 89 13 = true then
  ((Call prog clsT X d 169 [(2, 89), (0, 11)] ((mk E c s (hh g)))).bind fun r1 => if r1.1.1 = 4 then none else
  Ev prog clsT X d mc186 8 [(2, 89)] (pushR r1.1 []) r1.2) else none)) X [0, 5, 8] 4 rfl).trans (by simp (disch := decide) only [R89_13, bindI, Option.bind_some, if_true_, and_self, ite_true, true_and, true_or, or_true])
theorem r186_8 (d : Nat) (s0 : Int) : Ev prog clsT X d mc186 8 [(2, 89)] [(0, s0)] (mk E c s (hh g)) =
  (some ((0, s0), ((mk E c s (hh g))))) :=
  (evk_at (r := (some ((0, s0), (mk E c s (hh g))))) X [0, 5, 8] 2 rfl).trans (by simp (disch := decide) only [bindI, Option.bind_some, if_true_, and_self, ite_true, true_and, true_or, or_true])
theorem r187_0 (d : Nat) (x1 : Int) : Ev prog clsT X d mc187 0 [(2, 89), (0, x1)] [] (mk E c s (hh g)) =
  ((Call prog clsT X d 162 [(2, 89), (0, x1)] ((mk E c s (hh g)))).bind fun r1 => if r1.1.1 = 4 then none else
  Ev prog clsT X d mc187 4 [(2, 89), (0, x1)] (pushR r1.1 [(2, 89)]) r1.2) :=
  (evk_at (r := (if (2 : Nat) = 2 ∧ rcv ((mk E c s (hh g))) 89 13 = true then
  ((Call prog clsT X d 162 [(2, 89), (0, x1)] ((mk E c s (hh g)))).bind fun r1 => if r1.1.1 = 4 then none else
  Ev prog clsT X d mc187 4 [(2, 89), (0, x1)] (pushR r1.1 [(2, 89)]) r1.2) else none)) X [0, 4, 18] 5 rfl).trans (by simp (disch := decide) only [R89_13, bindI, Option.bind_some, if_true_, and_self, ite_true, true_and, true_or, or_true])
theorem rc187_ (d : Nat) (x1 : Int) : Call prog clsT X (d + 1) 187 [(2, 89), (0, x1)] (mk E c s (hh g)) =
  ((Call prog clsT X d 162 [(2, 89), (0, x1)] ((mk E c s (hh g)))).bind fun r1 => if r1.1.1 = 4 then none else
  Ev prog clsT X d mc187 4 [(2, 89), (0, x1)] (pushR r1.1 [(2, 89)]) r1.2) :=
  (show Call prog clsT X (d + 1) 187 [(2, 89), (0, x1)] (mk E c s (hh g)) = Ev prog clsT X d mc187 0 [(2, 89), (0, x1)] [] (mk E c s (hh g)) from rfl).trans (r187_0 X E c s g d x1 )
theorem r187_4 (d : Nat) (x1 s1 : Int) : Ev prog clsT X d mc187 4 [(2, 89), (0, x1)] [(0, s1), (2, 89)] (mk E c s (hh g)) =
  (if cmpI .eq s1 0 = true then
  (if cmpI .ne (((up g 89 0 1) 89 0)) 1 = true then
    ((Call prog clsT X d 188 [(2, 89), (0, x1)] ((mk E c s (hh (up g 89 0 1))))).bind fun r1 => if r1.1.1 = 4 then none else
      Ev prog clsT X d mc187 18 [(2, 89), (0, x1)] (pushR r1.1 []) r1.2)
  else
    (Ev prog clsT X d mc187 18 [(2, 89), (0, x1)] [(0, 0)] (mk E c s (hh (up g 89 0 1)))))
else
  (if cmpI .ne (((up g 89 0 0) 89 0)) 1 = true then
    ((Call prog clsT X d 188 [(2, 89), (0, x1)] ((mk E c s (hh (up g 89 0 0))))).bind fun r2 => if r2.1.1 = 4 then none else
      Ev prog clsT X d mc187 18 [(2, 89), (0, x1)] (pushR r2.1 []) r2.2)
  else
    (Ev prog clsT X d mc187 18 [(2, 89), (0, x1)] [(0, 0)] (mk E c s (hh (up g 89 0 0)))))) :=
  (evk_at (r := (if cmpI .eq s1 0 = true then
  ((fput 6144 ((mk E c s (hh g))) 89 1).bind fun M1 =>
    (fget 6144 M1 89).bind fun v2 =>
    if cmpI .ne v2 1 = true then
    (if (2 : Nat) = 2 ∧ rcv M1 89 13 = true then
      ((Call prog clsT X d 188 [(2, 89), (0, x1)] M1).bind fun r3 => if r3.1.1 = 4 then none else
      Ev prog clsT X d mc187 18 [(2, 89), (0, x1)] (pushR r3.1 []) r3.2) else none)
  else
    (Ev prog clsT X d mc187 18 [(2, 89), (0, x1)] [(0, 0)] M1))
else
  ((fput 6144 ((mk E c s (hh g))) 89 0).bind fun M4 =>
    (fget 6144 M4 89).bind fun v5 =>
    if cmpI .ne v5 1 = true then
    (if (2 : Nat) = 2 ∧ rcv M4 89 13 = true then
      ((Call prog clsT X d 188 [(2, 89), (0, x1)] M4).bind fun r6 => if r6.1.1 = 4 then none else
      Ev prog clsT X d mc187 18 [(2, 89), (0, x1)] (pushR r6.1 []) r6.2) else none)
  else
    (Ev prog clsT X d mc187 18 [(2, 89), (0, x1)] [(0, 0)] M4)))) X [0, 4, 18] 12 rfl).trans (by simp (disch := decide) only [F6144_89, R89_13, W6144_89, cpy_cell, up_cell, bindI, Option.bind_some, if_true_, and_self, ite_true, true_and, true_or, or_true])
theorem r187_18 (d : Nat) (x1 s0 : Int) : Ev prog clsT X d mc187 18 [(2, 89), (0, x1)] [(0, s0)] (mk E c s (hh g)) =
  (some ((0, s0), ((mk E c s (hh g))))) :=
  (evk_at (r := (some ((0, s0), (mk E c s (hh g))))) X [0, 4, 18] 2 rfl).trans (by simp (disch := decide) only [bindI, Option.bind_some, if_true_, and_self, ite_true, true_and, true_or, or_true])
theorem r188_0 (d : Nat) (x1 : Int) : Ev prog clsT X d mc188 0 [(2, 89), (0, x1)] [] (mk E c s (hh g)) =
  ((Call prog clsT X d 189 [(2, 89), (0, x1)] ((mk E c s (hh g)))).bind fun r1 => if r1.1.1 = 4 then none else
  Ev prog clsT X d mc188 3 [(2, 89), (0, x1)] (pushR r1.1 []) r1.2) :=
  (evk_at (r := (if (2 : Nat) = 2 ∧ rcv ((mk E c s (hh g))) 89 13 = true then
  ((Call prog clsT X d 189 [(2, 89), (0, x1)] ((mk E c s (hh g)))).bind fun r1 => if r1.1.1 = 4 then none else
  Ev prog clsT X d mc188 3 [(2, 89), (0, x1)] (pushR r1.1 []) r1.2) else none)) X [0, 3, 9] 4 rfl).trans (by simp (disch := decide) only [R89_13, bindI, Option.bind_some, if_true_, and_self, ite_true, true_and, true_or, or_true])
theorem rc188_ (d : Nat) (x1 : Int) : Call prog clsT X (d + 1) 188 [(2, 89), (0, x1)] (mk E c s (hh g)) =
  ((Call prog clsT X d 189 [(2, 89), (0, x1)] ((mk E c s (hh g)))).bind fun r1 => if r1.1.1 = 4 then none else
  Ev prog clsT X d mc188 3 [(2, 89), (0, x1)] (pushR r1.1 []) r1.2) :=
  (show Call prog clsT X (d + 1) 188 [(2, 89), (0, x1)] (mk E c s (hh g)) = Ev prog clsT X d mc188 0 [(2, 89), (0, x1)] [] (mk E c s (hh g)) from rfl).trans (r188_0 X E c s g d x1 )
theorem r188_3 (d : Nat) (x1 : Int) : Ev prog clsT X d mc188 3 [(2, 89), (0, x1)] [] (mk E c s (hh g)) =
  (if inb x1 40 = true then
  ((Call prog clsT X d 192 [(2, 89), (0, (g 99 (Int.toNat x1)))] ((mk E c s (hh g)))).bind fun r1 => if r1.1.1 = 4 then none else
  Ev prog clsT X d mc188 9 [(2, 89), (0, x1)] (pushR r1.1 []) r1.2)
else none) :=
  (evk_at (r := ((fget 6190 ((mk E c s (hh g))) 89).bind fun v1 =>
  (aget X 100 ((mk E c s (hh g))) v1 x1).bind fun v2 =>
  if (2 : Nat) = 2 ∧ rcv ((mk E c s (hh g))) 89 13 = true then
  ((Call prog clsT X d 192 [(2, 89), (0, v2)] ((mk E c s (hh g)))).bind fun r3 => if r3.1.1 = 4 then none else
  Ev prog clsT X d mc188 9 [(2, 89), (0, x1)] (pushR r3.1 []) r3.2) else none)) X [0, 3, 9] 7 rfl).trans (by simp (disch := decide) only [A99, F6190_89, R89_13, bindI, Option.bind_some, if_true_, and_self, ite_true, true_and, true_or, or_true])
theorem r188_9 (d : Nat) (x1 s0 : Int) : Ev prog clsT X d mc188 9 [(2, 89), (0, x1)] [(0, s0)] (mk E c s (hh g)) =
  (some ((0, s0), ((mk E c s (hh g))))) :=
  (evk_at (r := (some ((0, s0), (mk E c s (hh g))))) X [0, 3, 9] 2 rfl).trans (by simp (disch := decide) only [bindI, Option.bind_some, if_true_, and_self, ite_true, true_and, true_or, or_true])
theorem r189_0 (d : Nat) (x1 : Int) : Ev prog clsT X d mc189 0 [(2, 89), (0, x1)] [] (mk E c s (hh g)) =
  (if inb x1 40 = true then
  (if inb x1 40 = true then
  (if inb x1 40 = true then
  (if inb x1 40 = true then
  (if inb x1 40 = true then
  ((Call prog clsT X d 190 [(2, 89), (0, (g 99 (Int.toNat x1))), (0, (g 100 (Int.toNat x1)))] ((mk E c s (hh g)))).bind fun r1 => if r1.1.1 = 4 then none else
  Ev prog clsT X d mc189 23 [(2, 89), (0, x1)] (pushR r1.1 [(1, (g 101 (Int.toNat x1))), (0, (g 100 (Int.toNat x1))), (0, (g 99 (Int.toNat x1))), (2, 89)]) r1.2)
else none)
else none)
else none)
else none)
else none) :=
  (evk_at (r := ((fget 6190 ((mk E c s (hh g))) 89).bind fun v1 =>
  (aget X 100 ((mk E c s (hh g))) v1 x1).bind fun v2 =>
  (fget 6194 ((mk E c s (hh g))) 89).bind fun v3 =>
  (aget X 100 ((mk E c s (hh g))) v3 x1).bind fun v4 =>
  (fget 6198 ((mk E c s (hh g))) 89).bind fun v5 =>
  (aget X 101 ((mk E c s (hh g))) v5 x1).bind fun v6 =>
  (fget 6190 ((mk E c s (hh g))) 89).bind fun v7 =>
  (aget X 100 ((mk E c s (hh g))) v7 x1).bind fun v8 =>
  (fget 6194 ((mk E c s (hh g))) 89).bind fun v9 =>
  (aget X 100 ((mk E c s (hh g))) v9 x1).bind fun v10 =>
  if (2 : Nat) = 2 ∧ rcv ((mk E c s (hh g))) 89 13 = true then
  ((Call prog clsT X d 190 [(2, 89), (0, v8), (0, v10)] ((mk E c s (hh g)))).bind fun r11 => if r11.1.1 = 4 then none else
  Ev prog clsT X d mc189 23 [(2, 89), (0, x1)] (pushR r11.1 [(1, v6), (0, v4), (0, v2), (2, 89)]) r11.2) else none)) X [0, 23, 24] 24 rfl).trans (by simp (disch := decide) only [A100, A101, A99, F6190_89, F6194_89, F6198_89, R89_13, bindI, Option.bind_some, if_true_, and_self, ite_true, true_and, true_or, or_true])
theorem rc189_ (d : Nat) (x1 : Int) : Call prog clsT X (d + 1) 189 [(2, 89), (0, x1)] (mk E c s (hh g)) =
  (if inb x1 40 = true then
  (if inb x1 40 = true then
  (if inb x1 40 = true then
  (if inb x1 40 = true then
  (if inb x1 40 = true then
  ((Call prog clsT X d 190 [(2, 89), (0, (g 99 (Int.toNat x1))), (0, (g 100 (Int.toNat x1)))] ((mk E c s (hh g)))).bind fun r1 => if r1.1.1 = 4 then none else
  Ev prog clsT X d mc189 23 [(2, 89), (0, x1)] (pushR r1.1 [(1, (g 101 (Int.toNat x1))), (0, (g 100 (Int.toNat x1))), (0, (g 99 (Int.toNat x1))), (2, 89)]) r1.2)
else none)
else none)
else none)
else none)
else none) :=
  (show Call prog clsT X (d + 1) 189 [(2, 89), (0, x1)] (mk E c s (hh g)) = Ev prog clsT X d mc189 0 [(2, 89), (0, x1)] [] (mk E c s (hh g)) from rfl).trans (r189_0 X E c s g d x1 )
theorem r189_23 (d : Nat) (x1 s1 s2 s3 s4 : Int) : Ev prog clsT X d mc189 23 [(2, 89), (0, x1)] [(0, s4), (1, s3), (0, s2), (0, s1), (2, 89)] (mk E c s (hh g)) =
  ((Call prog clsT X d 191 [(2, 89), (0, s1), (0, s2), (1, s3), (0, s4)] ((mk E c s (hh g)))).bind fun r1 => if r1.1.1 = 4 then none else
  Ev prog clsT X d mc189 24 [(2, 89), (0, x1)] (pushR r1.1 []) r1.2) :=
  (evk_at (r := (if (2 : Nat) = 2 ∧ rcv ((mk E c s (hh g))) 89 13 = true then
  ((Call prog clsT X d 191 [(2, 89), (0, s1), (0, s2), (1, s3), (0, s4)] ((mk E c s (hh g)))).bind fun r1 => if r1.1.1 = 4 then none else
  Ev prog clsT X d mc189 24 [(2, 89), (0, x1)] (pushR r1.1 []) r1.2) else none)) X [0, 23, 24] 2 rfl).trans (by simp (disch := decide) only [R89_13, bindI, Option.bind_some, if_true_, and_self, ite_true, true_and, true_or, or_true])
theorem r189_24 (d : Nat) (x1 : Int) : Ev prog clsT X d mc189 24 [(2, 89), (0, x1)] [] (mk E c s (hh g)) =
  (some ((3, 0), ((mk E c s (hh g))))) :=
  (evk_at (r := (some ((3, 0), (mk E c s (hh g))))) X [0, 23, 24] 2 rfl).trans (by simp (disch := decide) only [bindI, Option.bind_some, if_true_, and_self, ite_true, true_and, true_or, or_true])
theorem r190_0 (d : Nat) (x1 x2 : Int) : Ev prog clsT X d mc190 0 [(2, 89), (0, x1), (0, x2), (3, 0), (3, 0)] [] (mk E c s (hh g)) =
  (Ev prog clsT X d mc190 4 [(2, 89), (0, x1), (0, x2), (0, 0), (0, 0)] [] (mk E c s (hh g))) :=
  evk_at X [0, 4] 6 rfl
theorem rc190_ (d : Nat) (x1 x2 : Int) : Call prog clsT X (d + 1) 190 [(2, 89), (0, x1), (0, x2)] (mk E c s (hh g)) =
  (Ev prog clsT X d mc190 4 [(2, 89), (0, x1), (0, x2), (0, 0), (0, 0)] [] (mk E c s (hh g))) :=
  (show Call prog clsT X (d + 1) 190 [(2, 89), (0, x1), (0, x2)] (mk E c s (hh g)) = Ev prog clsT X d mc190 0 [(2, 89), (0, x1), (0, x2), (3, 0), (3, 0)] [] (mk E c s (hh g)) from rfl).trans (r190_0 X E c s g d x1 x2 )
set_option maxRecDepth 100000 in
theorem r190_4 (d : Nat) (x1 x2 x3 x4 : Int) : Ev prog clsT X d mc190 4 [(2, 89), (0, x1), (0, x2), (0, x3), (0, x4)] [] (mk E c s (hh g)) =
  (if cmpI .ge x4 ((g 89 10)) = true then
  (some ((0, x3), ((mk E c s (hh g)))))
else
  (if inb x4 40 = true then
    (if cmpI .ne ((g 104 (Int.toNat x4))) 0 = true then
    (Ev prog clsT X d mc190 4 [(2, 89), (0, x1), (0, x2), (0, (w32 (x3 + 0))), (0, (w32 (x4 + 1)))] [] (mk E c s (hh g)))
  else
    (if inb x4 40 = true then
      (if cmpI .ne ((g 99 (Int.toNat x4))) x1 = true then
      (Ev prog clsT X d mc190 4 [(2, 89), (0, x1), (0, x2), (0, (w32 (x3 + 0))), (0, (w32 (x4 + 1)))] [] (mk E c s (hh g)))
    else
      (if cmpI .eq x2 ((-1)) = true then
        (Ev prog clsT X d mc190 4 [(2, 89), (0, x1), (0, x2), (0, (w32 (x3 + 1))), (0, (w32 (x4 + 1)))] [] (mk E c s (hh g)))
      else
        (if inb x4 40 = true then
          (if cmpI .ne ((g 100 (Int.toNat x4))) x2 = true then
          (Ev prog clsT X d mc190 4 [(2, 89), (0, x1), (0, x2), (0, (w32 (x3 + 0))), (0, (w32 (x4 + 1)))] [] (mk E c s (hh g)))
        else
          (Ev prog clsT X d mc190 4 [(2, 89), (0, x1), (0, x2), (0, (w32 (x3 + 1))), (0, (w32 (x4 + 1)))] [] (mk E c s (hh g))))
        else none)))
    else none))
  else none)) :=
  (evk_at (r := ((fget 6184 ((mk E c s (hh g))) 89).bind fun v1 =>
  if cmpI .ge x4 v1 = true then
  (some ((0, x3), (mk E c s (hh g))))
else
  ((fget 6210 ((mk E c s (hh g))) 89).bind fun v2 =>
    (aget X 102 ((mk E c s (hh g))) v2 x4).bind fun v3 =>
    if cmpI .ne v3 0 = true then
    (Ev prog clsT X d mc190 4 [(2, 89), (0, x1), (0, x2), (0, (w32 (x3 + 0))), (0, (w32 (x4 + 1)))] [] (mk E c s (hh g)))
  else
    ((fget 6190 ((mk E c s (hh g))) 89).bind fun v4 =>
      (aget X 100 ((mk E c s (hh g))) v4 x4).bind fun v5 =>
      if cmpI .ne v5 x1 = true then
      (Ev prog clsT X d mc190 4 [(2, 89), (0, x1), (0, x2), (0, (w32 (x3 + 0))), (0, (w32 (x4 + 1)))] [] (mk E c s (hh g)))
    else
      (if cmpI .eq x2 ((-1)) = true then
        (Ev prog clsT X d mc190 4 [(2, 89), (0, x1), (0, x2), (0, (w32 (x3 + 1))), (0, (w32 (x4 + 1)))] [] (mk E c s (hh g)))
      else
        ((fget 6194 ((mk E c s (hh g))) 89).bind fun v6 =>
          (aget X 100 ((mk E c s (hh g))) v6 x4).bind fun v7 =>
          if cmpI .ne v7 x2 = true then
          (Ev prog clsT X d mc190 4 [(2, 89), (0, x1), (0, x2), (0, (w32 (x3 + 0))), (0, (w32 (x4 + 1)))] [] (mk E c s (hh g)))
        else
          (Ev prog clsT X d mc190 4 [(2, 89), (0, x1), (0, x2), (0, (w32 (x3 + 1))), (0, (w32 (x4 + 1)))] [] (mk E c s (hh g))))))))) X [0, 4] 33 rfl).trans (by simp (disch := decide) only [A100, A104, A99, F6184_89, F6190_89, F6194_89, F6210_89, bindI, Option.bind_some, if_true_, and_self, ite_true, true_and, true_or, or_true])
theorem r191_0 (d : Nat) (x1 x2 x3 x5 : Int) : Ev prog clsT X d mc191 0 [(2, 89), (0, x1), (0, x2), (1, x3), (3, 0), (0, x5), (3, 0), (3, 0), (3, 0), (3, 0)] [] (mk E c s (hh g)) =
  (Ev prog clsT X d mc191 8 [(2, 89), (0, x1), (0, x2), (1, x3), (3, 0), (0, x5), (0, 0), (0, 100), (0, 0), (0, 1)] [] (mk E c s (hh g))) :=
  evk_at X [0, 8, 25, 135] 10 rfl
theorem rc191_ (d : Nat) (x1 x2 x3 x5 : Int) : Call prog clsT X (d + 1) 191 [(2, 89), (0, x1), (0, x2), (1, x3), (0, x5)] (mk E c s (hh g)) =
  (Ev prog clsT X d mc191 8 [(2, 89), (0, x1), (0, x2), (1, x3), (3, 0), (0, x5), (0, 0), (0, 100), (0, 0), (0, 1)] [] (mk E c s (hh g))) :=
  (show Call prog clsT X (d + 1) 191 [(2, 89), (0, x1), (0, x2), (1, x3), (0, x5)] (mk E c s (hh g)) = Ev prog clsT X d mc191 0 [(2, 89), (0, x1), (0, x2), (1, x3), (3, 0), (0, x5), (3, 0), (3, 0), (3, 0), (3, 0)] [] (mk E c s (hh g)) from rfl).trans (r191_0 X E c s g d x1 x2 x3 x5 )
theorem r192_0 (d : Nat) (x1 : Int) : Ev prog clsT X d mc192 0 [(2, 89), (0, x1), (3, 0)] [] (mk E c s (hh g)) =
  (if inb x1 13 = true then
  (if cmpI .le ((g 107 (Int.toNat x1))) 0 = true then
  ((Call prog clsT X d 193 [(2, 89), (0, x1)] ((mk E c s (hh g)))).bind fun r1 => if r1.1.1 = 4 then none else
    Ev prog clsT X d mc192 24 [(2, 89), (0, x1), (3, 0)] (pushR r1.1 []) r1.2)
else
  (if inb x1 13 = true then
    (if cmpI .ne ((g 126 1)) ((g 107 (Int.toNat x1))) = true then
    (some ((0, 100), ((mk E c s (hh g)))))
  else
    (if cmpI .le ((g 126 3)) 0 = true then
      ((Call prog clsT X d 193 [(2, 89), (0, x1)] ((mk E c s (hh g)))).bind fun r2 => if r2.1.1 = 4 then none else
        Ev prog clsT X d mc192 24 [(2, 89), (0, x1), (3, 0)] (pushR r2.1 []) r2.2)
    else
      (some ((0, 100), ((mk E c s (hh g)))))))
  else none))
else none) :=
  (evk_at (r := ((fget 6254 ((mk E c s (hh g))) 89).bind fun v1 =>
  (aget X 100 ((mk E c s (hh g))) v1 x1).bind fun v2 =>
  if cmpI .le v2 0 = true then
  (if (2 : Nat) = 2 ∧ rcv ((mk E c s (hh g))) 89 13 = true then
    ((Call prog clsT X d 193 [(2, 89), (0, x1)] ((mk E c s (hh g)))).bind fun r3 => if r3.1.1 = 4 then none else
    Ev prog clsT X d mc192 24 [(2, 89), (0, x1), (3, 0)] (pushR r3.1 []) r3.2) else none)
else
  ((fget 6338 ((mk E c s (hh g))) 89).bind fun v4 =>
    (aget X 100 ((mk E c s (hh g))) v4 1).bind fun v5 =>
    (fget 6254 ((mk E c s (hh g))) 89).bind fun v6 =>
    (aget X 100 ((mk E c s (hh g))) v6 x1).bind fun v7 =>
    if cmpI .ne v5 v7 = true then
    (some ((0, 100), (mk E c s (hh g))))
  else
    ((fget 6338 ((mk E c s (hh g))) 89).bind fun v8 =>
      (aget X 100 ((mk E c s (hh g))) v8 3).bind fun v9 =>
      if cmpI .le v9 0 = true then
      (if (2 : Nat) = 2 ∧ rcv ((mk E c s (hh g))) 89 13 = true then
        ((Call prog clsT X d 193 [(2, 89), (0, x1)] ((mk E c s (hh g)))).bind fun r10 => if r10.1.1 = 4 then none else
        Ev prog clsT X d mc192 24 [(2, 89), (0, x1), (3, 0)] (pushR r10.1 []) r10.2) else none)
    else
      (some ((0, 100), (mk E c s (hh g)))))))) X [0, 24, 32] 23 rfl).trans (by simp (disch := decide) only [A107, A126, F6254_89, F6338_89, R89_13, inbL 1 20 rfl, inbL 3 20 rfl, tn1, tn3, bindI, Option.bind_some, if_true_, and_self, ite_true, true_and, true_or, or_true])
theorem rc192_ (d : Nat) (x1 : Int) : Call prog clsT X (d + 1) 192 [(2, 89), (0, x1)] (mk E c s (hh g)) =
  (if inb x1 13 = true then
  (if cmpI .le ((g 107 (Int.toNat x1))) 0 = true then
  ((Call prog clsT X d 193 [(2, 89), (0, x1)] ((mk E c s (hh g)))).bind fun r1 => if r1.1.1 = 4 then none else
    Ev prog clsT X d mc192 24 [(2, 89), (0, x1), (3, 0)] (pushR r1.1 []) r1.2)
else
  (if inb x1 13 = true then
    (if cmpI .ne ((g 126 1)) ((g 107 (Int.toNat x1))) = true then
    (some ((0, 100), ((mk E c s (hh g)))))
  else
    (if cmpI .le ((g 126 3)) 0 = true then
      ((Call prog clsT X d 193 [(2, 89), (0, x1)] ((mk E c s (hh g)))).bind fun r2 => if r2.1.1 = 4 then none else
        Ev prog clsT X d mc192 24 [(2, 89), (0, x1), (3, 0)] (pushR r2.1 []) r2.2)
    else
      (some ((0, 100), ((mk E c s (hh g)))))))
  else none))
else none) :=
  (show Call prog clsT X (d + 1) 192 [(2, 89), (0, x1)] (mk E c s (hh g)) = Ev prog clsT X d mc192 0 [(2, 89), (0, x1), (3, 0)] [] (mk E c s (hh g)) from rfl).trans (r192_0 X E c s g d x1 )
theorem r192_24 (d : Nat) (x1 s0 : Int) : Ev prog clsT X d mc192 24 [(2, 89), (0, x1), (3, 0)] [(0, s0)] (mk E c s (hh g)) =
  (if cmpI .lt s0 0 = true then
  ((Call prog clsT X d 193 [(2, 89), (0, 10)] ((mk E c s (hh g)))).bind fun r1 => if r1.1.1 = 4 then none else
    Ev prog clsT X d mc192 32 [(2, 89), (0, x1), (0, s0)] (pushR r1.1 []) r1.2)
else
  (Ev prog clsT X d mc192 32 [(2, 89), (0, x1), (0, s0)] [(0, s0)] (mk E c s (hh g)))) :=
  (evk_at (r := (if cmpI .lt s0 0 = true then
  (if (2 : Nat) = 2 ∧ rcv ((mk E c s (hh g))) 89 13 = true then
    ((Call prog clsT X d 193 [(2, 89), (0, 10)] ((mk E c s (hh g)))).bind fun r1 => if r1.1.1 = 4 then none else
    Ev prog clsT X d mc192 32 [(2, 89), (0, x1), (0, s0)] (pushR r1.1 []) r1.2) else none)
else
  (Ev prog clsT X d mc192 32 [(2, 89), (0, x1), (0, s0)] [(0, s0)] (mk E c s (hh g))))) X [0, 24, 32] 7 rfl).trans (by simp (disch := decide) only [R89_13, bindI, Option.bind_some, if_true_, and_self, ite_true, true_and, true_or, or_true])
theorem r192_32 (d : Nat) (x1 x2 s0 : Int) : Ev prog clsT X d mc192 32 [(2, 89), (0, x1), (0, x2)] [(0, s0)] (mk E c s (hh g)) =
  (some ((0, s0), ((mk E c s (hh g))))) :=
  (evk_at (r := (some ((0, s0), (mk E c s (hh g))))) X [0, 24, 32] 2 rfl).trans (by simp (disch := decide) only [bindI, Option.bind_some, if_true_, and_self, ite_true, true_and, true_or, or_true])
theorem r193_0 (d : Nat) (x1 : Int) : Ev prog clsT X d mc193 0 [(2, 89), (0, x1), (3, 0)] [] (mk E c s (hh g)) =
  (Ev prog clsT X d mc193 4 [(2, 89), (0, x1), (0, (w32 (9 * x1)))] [] (mk E c s (hh g))) :=
  evk_at X [0, 4, 17] 6 rfl
theorem rc193_ (d : Nat) (x1 : Int) : Call prog clsT X (d + 1) 193 [(2, 89), (0, x1)] (mk E c s (hh g)) =
  (Ev prog clsT X d mc193 4 [(2, 89), (0, x1), (0, (w32 (9 * x1)))] [] (mk E c s (hh g))) :=
  (show Call prog clsT X (d + 1) 193 [(2, 89), (0, x1)] (mk E c s (hh g)) = Ev prog clsT X d mc193 0 [(2, 89), (0, x1), (3, 0)] [] (mk E c s (hh g)) from rfl).trans (r193_0 X E c s g d x1 )
theorem r193_4 (d : Nat) (x1 x2 : Int) : Ev prog clsT X d mc193 4 [(2, 89), (0, x1), (0, x2)] [] (mk E c s (hh g)) =
  (if inb x1 13 = true then
  (if cmpI .ge x2 ((w32 (((w32 (9 * x1))) + ((g 109 (Int.toNat x1)))))) = true then
  (some ((0, (-1)), ((mk E c s (hh g)))))
else
  ((Call prog clsT X d 194 [(2, 89), (0, x2)] ((mk E c s (hh g)))).bind fun r1 => if r1.1.1 = 4 then none else
    Ev prog clsT X d mc193 17 [(2, 89), (0, x1), (0, x2)] (pushR r1.1 []) r1.2))
else none) :=
  (evk_at (r := ((fget 6262 ((mk E c s (hh g))) 89).bind fun v1 =>
  (aget X 100 ((mk E c s (hh g))) v1 x1).bind fun v2 =>
  if cmpI .ge x2 ((w32 (((w32 (9 * x1))) + v2))) = true then
  (some ((0, (-1)), (mk E c s (hh g))))
else
  (if (2 : Nat) = 2 ∧ rcv ((mk E c s (hh g))) 89 13 = true then
    ((Call prog clsT X d 194 [(2, 89), (0, x2)] ((mk E c s (hh g)))).bind fun r3 => if r3.1.1 = 4 then none else
    Ev prog clsT X d mc193 17 [(2, 89), (0, x1), (0, x2)] (pushR r3.1 []) r3.2) else none))) X [0, 4, 17] 14 rfl).trans (by simp (disch := decide) only [A109, F6262_89, R89_13, bindI, Option.bind_some, if_true_, and_self, ite_true, true_and, true_or, or_true])
theorem r193_17 (d : Nat) (x1 x2 s0 : Int) : Ev prog clsT X d mc193 17 [(2, 89), (0, x1), (0, x2)] [(0, s0)] (mk E c s (hh g)) =
  (if cmpI .eq s0 0 = true then
  (Ev prog clsT X d mc193 4 [(2, 89), (0, x1), (0, (w32 (x2 + 1)))] [] (mk E c s (hh g)))
else
  (if inb x2 117 = true then
    (some ((0, (g 111 (Int.toNat x2))), ((mk E c s (hh g)))))
  else none)) :=
  (evk_at (r := (if cmpI .eq s0 0 = true then
  (Ev prog clsT X d mc193 4 [(2, 89), (0, x1), (0, (w32 (x2 + 1)))] [] (mk E c s (hh g)))
else
  ((fget 6270 ((mk E c s (hh g))) 89).bind fun v1 =>
    (aget X 100 ((mk E c s (hh g))) v1 x2).bind fun v2 =>
    some ((0, v2), (mk E c s (hh g)))))) X [0, 4, 17] 7 rfl).trans (by simp (disch := decide) only [A111, F6270_89, bindI, Option.bind_some, if_true_, and_self, ite_true, true_and, true_or, or_true])
theorem r194_0 (d : Nat) (x1 : Int) : Ev prog clsT X d mc194 0 [(2, 89), (0, x1), (3, 0), (3, 0), (3, 0), (3, 0)] [] (mk E c s (hh g)) =
  ((Call prog clsT X d 195 [(2, 89), (0, 0)] ((mk E c s (hh g)))).bind fun r1 => if r1.1.1 = 4 then none else
  Ev prog clsT X d mc194 5 [(2, 89), (0, x1), (0, 0), (3, 0), (3, 0), (3, 0)] (pushR r1.1 []) r1.2) :=
  (evk_at (r := (if (2 : Nat) = 2 ∧ rcv ((mk E c s (hh g))) 89 13 = true then
  ((Call prog clsT X d 195 [(2, 89), (0, 0)] ((mk E c s (hh g)))).bind fun r1 => if r1.1.1 = 4 then none else
  Ev prog clsT X d mc194 5 [(2, 89), (0, x1), (0, 0), (3, 0), (3, 0), (3, 0)] (pushR r1.1 []) r1.2) else none)) X [0, 5, 10, 41, 51, 75, 108, 137, 143, 159, 181] 6 rfl).trans (by simp (disch := decide) only [R89_13, bindI, Option.bind_some, if_true_, and_self, ite_true, true_and, true_or, or_true])
theorem rc194_ (d : Nat) (x1 : Int) : Call prog clsT X (d + 1) 194 [(2, 89), (0, x1)] (mk E c s (hh g)) =
  ((Call prog clsT X d 195 [(2, 89), (0, 0)] ((mk E c s (hh g)))).bind fun r1 => if r1.1.1 = 4 then none else
  Ev prog clsT X d mc194 5 [(2, 89), (0, x1), (0, 0), (3, 0), (3, 0), (3, 0)] (pushR r1.1 []) r1.2) :=
  (show Call prog clsT X (d + 1) 194 [(2, 89), (0, x1)] (mk E c s (hh g)) = Ev prog clsT X d mc194 0 [(2, 89), (0, x1), (3, 0), (3, 0), (3, 0), (3, 0)] [] (mk E c s (hh g)) from rfl).trans (r194_0 X E c s g d x1 )
theorem r194_5 (d : Nat) (x1 x2 : Int) : Ev prog clsT X d mc194 5 [(2, 89), (0, x1), (0, x2), (3, 0), (3, 0), (3, 0)] [] (mk E c s (hh g)) =
  (if inb x1 117 = true then
  (Ev prog clsT X d mc194 10 [(2, 89), (0, x1), (0, x2), (0, (g 112 (Int.toNat x1))), (3, 0), (3, 0)] [] (mk E c s (hh g)))
else none) :=
  (evk_at (r := ((fget 6274 ((mk E c s (hh g))) 89).bind fun v1 =>
  (aget X 100 ((mk E c s (hh g))) v1 x1).bind fun v2 =>
  Ev prog clsT X d mc194 10 [(2, 89), (0, x1), (0, x2), (0, v2), (3, 0), (3, 0)] [] (mk E c s (hh g)))) X [0, 5, 10, 41, 51, 75, 108, 137, 143, 159, 181] 7 rfl).trans (by simp (disch := decide) only [A112, F6274_89, bindI, Option.bind_some, if_true_, and_self, ite_true, true_and, true_or, or_true])
theorem r194_41 (d : Nat) (x1 x2 x3 x4 : Int) : Ev prog clsT X d mc194 41 [(2, 89), (0, x1), (0, x2), (0, x3), (0, x4), (3, 0)] [] (mk E c s (hh g)) =
  (Ev prog clsT X d mc194 10 [(2, 89), (0, x1), (0, x2), (0, (w32 (x3 + 1))), (0, x4), (3, 0)] [] (mk E c s (hh g))) :=
  evk_at X [0, 5, 10, 41, 51, 75, 108, 137, 143, 159, 181] 5 rfl
theorem r194_137 (d : Nat) (x1 x2 x3 x4 x5 : Int) : Ev prog clsT X d mc194 137 [(2, 89), (0, x1), (0, x2), (0, x3), (0, x4), (0, x5)] [] (mk E c s (hh g)) =
  (if inb x2 7 = true then
  (Ev prog clsT X d mc194 143 [(2, 89), (0, x1), (0, (w32 (x2 + (-1)))), (0, x3), (0, x4), (0, (g 117 (Int.toNat x2)))] [] (mk E c s (hh g)))
else none) :=
  (evk_at (r := ((fget 6302 ((mk E c s (hh g))) 89).bind fun v1 =>
  (aget X 100 ((mk E c s (hh g))) v1 x2).bind fun v2 =>
  Ev prog clsT X d mc194 143 [(2, 89), (0, x1), (0, (w32 (x2 + (-1)))), (0, x3), (0, x4), (0, v2)] [] (mk E c s (hh g)))) X [0, 5, 10, 41, 51, 75, 108, 137, 143, 159, 181] 8 rfl).trans (by simp (disch := decide) only [A117, F6302_89, bindI, Option.bind_some, if_true_, and_self, ite_true, true_and, true_or, or_true])
theorem r194_143 (d : Nat) (x1 x2 x3 x5 : Int) (w4 : MV) : Ev prog clsT X d mc194 143 [(2, 89), (0, x1), (0, x2), (0, x3), w4, (0, x5)] [] (mk E c s (hh g)) =
  (if cmpI .le x2 0 = true then
  (Ev prog clsT X d mc194 159 [(2, 89), (0, x1), (0, x2), (0, x3), (3, 0), (0, x5)] [] (mk E c s (hh g)))
else
  (if inb x2 7 = true then
    (if cmpI .ne ((g 125 (Int.toNat x2))) 1 = true then
    (Ev prog clsT X d mc194 159 [(2, 89), (0, x1), (0, x2), (0, x3), (3, 0), (0, x5)] [] (mk E c s (hh g)))
  else
    (if cmpI .ne x5 0 = true then
      (Ev prog clsT X d mc194 143 [(2, 89), (0, x1), (0, (w32 (x2 + (-1)))), (0, x3), (3, 0), (0, 0)] [] (mk E c s (hh g)))
    else
      (Ev prog clsT X d mc194 143 [(2, 89), (0, x1), (0, (w32 (x2 + (-1)))), (0, x3), (3, 0), (0, 1)] [] (mk E c s (hh g)))))
  else none)) :=
  (evk_at (r := (if cmpI .le x2 0 = true then
  (Ev prog clsT X d mc194 159 [(2, 89), (0, x1), (0, x2), (0, x3), (3, 0), (0, x5)] [] (mk E c s (hh g)))
else
  ((fget 6334 ((mk E c s (hh g))) 89).bind fun v1 =>
    (aget X 100 ((mk E c s (hh g))) v1 x2).bind fun v2 =>
    if cmpI .ne v2 1 = true then
    (Ev prog clsT X d mc194 159 [(2, 89), (0, x1), (0, x2), (0, x3), (3, 0), (0, x5)] [] (mk E c s (hh g)))
  else
    (if cmpI .ne x5 0 = true then
      (Ev prog clsT X d mc194 143 [(2, 89), (0, x1), (0, (w32 (x2 + (-1)))), (0, x3), (3, 0), (0, 0)] [] (mk E c s (hh g)))
    else
      (Ev prog clsT X d mc194 143 [(2, 89), (0, x1), (0, (w32 (x2 + (-1)))), (0, x3), (3, 0), (0, 1)] [] (mk E c s (hh g))))))) X [0, 5, 10, 41, 51, 75, 108, 137, 143, 159, 181] 17 rfl).trans (by simp (disch := decide) only [A125, F6334_89, bindI, Option.bind_some, if_true_, and_self, ite_true, true_and, true_or, or_true])
theorem r194_181 (d : Nat) (x1 x2 x3 : Int) : Ev prog clsT X d mc194 181 [(2, 89), (0, x1), (0, x2), (0, x3), (3, 0), (3, 0)] [] (mk E c s (hh g)) =
  (some ((0, (g 117 0)), ((mk E c s (hh g))))) :=
  (evk_at (r := ((fget 6302 ((mk E c s (hh g))) 89).bind fun v1 =>
  (aget X 100 ((mk E c s (hh g))) v1 0).bind fun v2 =>
  some ((0, v2), (mk E c s (hh g))))) X [0, 5, 10, 41, 51, 75, 108, 137, 143, 159, 181] 6 rfl).trans (by simp (disch := decide) only [A117, F6302_89, inbL 0 7 rfl, tn0, bindI, Option.bind_some, if_true_, and_self, ite_true, true_and, true_or, or_true])
theorem r197_0 (d : Nat) (x1 : Int) : Ev prog clsT X d mc197 0 [(2, 89), (0, x1), (3, 0)] [] (mk E c s (hh g)) =
  ((Call prog clsT X d 196 [(2, 89), (0, x1)] ((mk E c s (hh g)))).bind fun r1 => if r1.1.1 = 4 then none else
  Ev prog clsT X d mc197 3 [(2, 89), (0, x1), (3, 0)] (pushR r1.1 []) r1.2) :=
  (evk_at (r := (if (2 : Nat) = 2 ∧ rcv ((mk E c s (hh g))) 89 13 = true then
  ((Call prog clsT X d 196 [(2, 89), (0, x1)] ((mk E c s (hh g)))).bind fun r1 => if r1.1.1 = 4 then none else
  Ev prog clsT X d mc197 3 [(2, 89), (0, x1), (3, 0)] (pushR r1.1 []) r1.2) else none)) X [0, 3, 27, 46, 63, 80] 4 rfl).trans (by simp (disch := decide) only [R89_13, bindI, Option.bind_some, if_true_, and_self, ite_true, true_and, true_or, or_true])
theorem rc197_ (d : Nat) (x1 : Int) : Call prog clsT X (d + 1) 197 [(2, 89), (0, x1)] (mk E c s (hh g)) =
  ((Call prog clsT X d 196 [(2, 89), (0, x1)] ((mk E c s (hh g)))).bind fun r1 => if r1.1.1 = 4 then none else
  Ev prog clsT X d mc197 3 [(2, 89), (0, x1), (3, 0)] (pushR r1.1 []) r1.2) :=
  (show Call prog clsT X (d + 1) 197 [(2, 89), (0, x1)] (mk E c s (hh g)) = Ev prog clsT X d mc197 0 [(2, 89), (0, x1), (3, 0)] [] (mk E c s (hh g)) from rfl).trans (r197_0 X E c s g d x1 )
theorem r197_3 (d : Nat) (x1 : Int) : Ev prog clsT X d mc197 3 [(2, 89), (0, x1), (3, 0)] [] (mk E c s (hh g)) =
  (if inb x1 7 = true then
  (if inb x1 7 = true then
  (if cmpI .ne ((g 120 (Int.toNat x1))) 24 = true then
  (Ev prog clsT X d mc197 27 [(2, 89), (0, x1), (0, (g 121 (Int.toNat x1)))] [] (mk E c s (hh g)))
else
  (if inb x1 7 = true then
    (if inb x1 7 = true then
    (if cmpI .ge ((g 119 (Int.toNat x1))) ((g 121 (Int.toNat x1))) = true then
    (Ev prog clsT X d mc197 27 [(2, 89), (0, x1), (0, 0)] [] (mk E c s (hh g)))
  else
    (Ev prog clsT X d mc197 27 [(2, 89), (0, x1), (0, 1)] [] (mk E c s (hh g))))
  else none)
  else none))
else none)
else none) :=
  (evk_at (r := ((fget 6318 ((mk E c s (hh g))) 89).bind fun v1 =>
  (aget X 100 ((mk E c s (hh g))) v1 x1).bind fun v2 =>
  (fget 6314 ((mk E c s (hh g))) 89).bind fun v3 =>
  (aget X 100 ((mk E c s (hh g))) v3 x1).bind fun v4 =>
  if cmpI .ne v4 24 = true then
  (Ev prog clsT X d mc197 27 [(2, 89), (0, x1), (0, v2)] [] (mk E c s (hh g)))
else
  ((fget 6310 ((mk E c s (hh g))) 89).bind fun v5 =>
    (aget X 100 ((mk E c s (hh g))) v5 x1).bind fun v6 =>
    (fget 6318 ((mk E c s (hh g))) 89).bind fun v7 =>
    (aget X 100 ((mk E c s (hh g))) v7 x1).bind fun v8 =>
    if cmpI .ge v6 v8 = true then
    (Ev prog clsT X d mc197 27 [(2, 89), (0, x1), (0, 0)] [] (mk E c s (hh g)))
  else
    (Ev prog clsT X d mc197 27 [(2, 89), (0, x1), (0, 1)] [] (mk E c s (hh g)))))) X [0, 3, 27, 46, 63, 80] 25 rfl).trans (by simp (disch := decide) only [A119, A120, A121, F6310_89, F6314_89, F6318_89, bindI, Option.bind_some, if_true_, and_self, ite_true, true_and, true_or, or_true])
theorem r197_27 (d : Nat) (x1 x2 : Int) : Ev prog clsT X d mc197 27 [(2, 89), (0, x1), (0, x2)] [] (mk E c s (hh g)) =
  (if inb x1 7 = true then
  (if cmpI .ne ((g 120 (Int.toNat x1))) 25 = true then
  (Ev prog clsT X d mc197 46 [(2, 89), (0, x1), (0, x2)] [] (mk E c s (hh g)))
else
  (if inb x1 7 = true then
    (if inb x1 7 = true then
    (if cmpI .ne ((g 119 (Int.toNat x1))) ((g 121 (Int.toNat x1))) = true then
    (Ev prog clsT X d mc197 46 [(2, 89), (0, x1), (0, 0)] [] (mk E c s (hh g)))
  else
    (Ev prog clsT X d mc197 46 [(2, 89), (0, x1), (0, 1)] [] (mk E c s (hh g))))
  else none)
  else none))
else none) :=
  (evk_at (r := ((fget 6314 ((mk E c s (hh g))) 89).bind fun v1 =>
  (aget X 100 ((mk E c s (hh g))) v1 x1).bind fun v2 =>
  if cmpI .ne v2 25 = true then
  (Ev prog clsT X d mc197 46 [(2, 89), (0, x1), (0, x2)] [] (mk E c s (hh g)))
else
  ((fget 6310 ((mk E c s (hh g))) 89).bind fun v3 =>
    (aget X 100 ((mk E c s (hh g))) v3 x1).bind fun v4 =>
    (fget 6318 ((mk E c s (hh g))) 89).bind fun v5 =>
    (aget X 100 ((mk E c s (hh g))) v5 x1).bind fun v6 =>
    if cmpI .ne v4 v6 = true then
    (Ev prog clsT X d mc197 46 [(2, 89), (0, x1), (0, 0)] [] (mk E c s (hh g)))
  else
    (Ev prog clsT X d mc197 46 [(2, 89), (0, x1), (0, 1)] [] (mk E c s (hh g)))))) X [0, 3, 27, 46, 63, 80] 20 rfl).trans (by simp (disch := decide) only [A119, A120, A121, F6310_89, F6314_89, F6318_89, bindI, Option.bind_some, if_true_, and_self, ite_true, true_and, true_or, or_true])
theorem r197_46 (d : Nat) (x1 x2 : Int) : Ev prog clsT X d mc197 46 [(2, 89), (0, x1), (0, x2)] [] (mk E c s (hh g)) =
  (if inb x1 7 = true then
  (if cmpI .ne ((g 118 (Int.toNat x1))) 26 = true then
  (Ev prog clsT X d mc197 63 [(2, 89), (0, x1), (0, x2)] [] (mk E c s (hh g)))
else
  (if inb x1 7 = true then
    (if cmpI .eq ((g 117 (Int.toNat x1))) 0 = true then
    (Ev prog clsT X d mc197 63 [(2, 89), (0, x1), (0, 0)] [] (mk E c s (hh g)))
  else
    (if cmpI .eq x2 0 = true then
      (Ev prog clsT X d mc197 63 [(2, 89), (0, x1), (0, 0)] [] (mk E c s (hh g)))
    else
      (Ev prog clsT X d mc197 63 [(2, 89), (0, x1), (0, 1)] [] (mk E c s (hh g)))))
  else none))
else none) :=
  (evk_at (r := ((fget 6306 ((mk E c s (hh g))) 89).bind fun v1 =>
  (aget X 100 ((mk E c s (hh g))) v1 x1).bind fun v2 =>
  if cmpI .ne v2 26 = true then
  (Ev prog clsT X d mc197 63 [(2, 89), (0, x1), (0, x2)] [] (mk E c s (hh g)))
else
  ((fget 6302 ((mk E c s (hh g))) 89).bind fun v3 =>
    (aget X 100 ((mk E c s (hh g))) v3 x1).bind fun v4 =>
    if cmpI .eq v4 0 = true then
    (Ev prog clsT X d mc197 63 [(2, 89), (0, x1), (0, 0)] [] (mk E c s (hh g)))
  else
    (if cmpI .eq x2 0 = true then
      (Ev prog clsT X d mc197 63 [(2, 89), (0, x1), (0, 0)] [] (mk E c s (hh g)))
    else
      (Ev prog clsT X d mc197 63 [(2, 89), (0, x1), (0, 1)] [] (mk E c s (hh g))))))) X [0, 3, 27, 46, 63, 80] 18 rfl).trans (by simp (disch := decide) only [A117, A118, F6302_89, F6306_89, bindI, Option.bind_some, if_true_, and_self, ite_true, true_and, true_or, or_true])
theorem r197_63 (d : Nat) (x1 x2 : Int) : Ev prog clsT X d mc197 63 [(2, 89), (0, x1), (0, x2)] [] (mk E c s (hh g)) =
  (if inb x1 7 = true then
  (if cmpI .ne ((g 118 (Int.toNat x1))) 27 = true then
  (Ev prog clsT X d mc197 80 [(2, 89), (0, x1), (0, x2)] [] (mk E c s (hh g)))
else
  (if inb x1 7 = true then
    (if cmpI .ne ((g 117 (Int.toNat x1))) 0 = true then
    (Ev prog clsT X d mc197 80 [(2, 89), (0, x1), (0, 1)] [] (mk E c s (hh g)))
  else
    (if cmpI .eq x2 0 = true then
      (Ev prog clsT X d mc197 80 [(2, 89), (0, x1), (0, 0)] [] (mk E c s (hh g)))
    else
      (Ev prog clsT X d mc197 80 [(2, 89), (0, x1), (0, 1)] [] (mk E c s (hh g)))))
  else none))
else none) :=
  (evk_at (r := ((fget 6306 ((mk E c s (hh g))) 89).bind fun v1 =>
  (aget X 100 ((mk E c s (hh g))) v1 x1).bind fun v2 =>
  if cmpI .ne v2 27 = true then
  (Ev prog clsT X d mc197 80 [(2, 89), (0, x1), (0, x2)] [] (mk E c s (hh g)))
else
  ((fget 6302 ((mk E c s (hh g))) 89).bind fun v3 =>
    (aget X 100 ((mk E c s (hh g))) v3 x1).bind fun v4 =>
    if cmpI .ne v4 0 = true then
    (Ev prog clsT X d mc197 80 [(2, 89), (0, x1), (0, 1)] [] (mk E c s (hh g)))
  else
    (if cmpI .eq x2 0 = true then
      (Ev prog clsT X d mc197 80 [(2, 89), (0, x1), (0, 0)] [] (mk E c s (hh g)))
    else
      (Ev prog clsT X d mc197 80 [(2, 89), (0, x1), (0, 1)] [] (mk E c s (hh g))))))) X [0, 3, 27, 46, 63, 80] 18 rfl).trans (by simp (disch := decide) only [A117, A118, F6302_89, F6306_89, bindI, Option.bind_some, if_true_, and_self, ite_true, true_and, true_or, or_true])
theorem r198_0 (d : Nat) (x1 x2 : Int) : Ev prog clsT X d mc198 0 [(2, 89), (0, x1), (0, x2)] [] (mk E c s (hh g)) =
  ((Call prog clsT X d 162 [(2, 89), (0, x1)] ((mk E c s (hh g)))).bind fun r1 => if r1.1.1 = 4 then none else
  Ev prog clsT X d mc198 4 [(2, 89), (0, x1), (0, x2)] (pushR r1.1 [(2, 89)]) r1.2) :=
  (evk_at (r := (if (2 : Nat) = 2 ∧ rcv ((mk E c s (hh g))) 89 13 = true then
  ((Call prog clsT X d 162 [(2, 89), (0, x1)] ((mk E c s (hh g)))).bind fun r1 => if r1.1.1 = 4 then none else
  Ev prog clsT X d mc198 4 [(2, 89), (0, x1), (0, x2)] (pushR r1.1 [(2, 89)]) r1.2) else none)) X [0, 4, 9, 23] 5 rfl).trans (by simp (disch := decide) only [R89_13, bindI, Option.bind_some, if_true_, and_self, ite_true, true_and, true_or, or_true])
theorem rc198_ (d : Nat) (x1 x2 : Int) : Call prog clsT X (d + 1) 198 [(2, 89), (0, x1), (0, x2)] (mk E c s (hh g)) =
  ((Call prog clsT X d 162 [(2, 89), (0, x1)] ((mk E c s (hh g)))).bind fun r1 => if r1.1.1 = 4 then none else
  Ev prog clsT X d mc198 4 [(2, 89), (0, x1), (0, x2)] (pushR r1.1 [(2, 89)]) r1.2) :=
  (show Call prog clsT X (d + 1) 198 [(2, 89), (0, x1), (0, x2)] (mk E c s (hh g)) = Ev prog clsT X d mc198 0 [(2, 89), (0, x1), (0, x2)] [] (mk E c s (hh g)) from rfl).trans (r198_0 X E c s g d x1 x2 )
theorem r198_4 (d : Nat) (x1 x2 s1 : Int) : Ev prog clsT X d mc198 4 [(2, 89), (0, x1), (0, x2)] [(0, s1), (2, 89)] (mk E c s (hh g)) =
  (if cmpI .eq s1 0 = true then
  (if cmpI .ne (((up g 89 0 1) 89 0)) 1 = true then
    ((Call prog clsT X d 189 [(2, 89), (0, x1)] ((mk E c s (hh (up g 89 0 1))))).bind fun r1 => if r1.1.1 = 4 then none else
      Ev prog clsT X d mc198 23 [(2, 89), (0, x1), (0, x2)] (pushR r1.1 []) r1.2)
  else
    (some ((0, 0), ((mk E c s (hh (up g 89 0 1)))))))
else
  ((Call prog clsT X d 152 [(0, x2), (0, 0), (0, 13)] ((mk E c s (hh g)))).bind fun r2 => if r2.1.1 = 4 then none else
    Ev prog clsT X d mc198 9 [(2, 89), (0, x1), (0, x2)] (pushR r2.1 [(2, 89)]) r2.2)) :=
  (evk_at (r := (if cmpI .eq s1 0 = true then
  ((fput 6144 ((mk E c s (hh g))) 89 1).bind fun M1 =>
    (fget 6144 M1 89).bind fun v2 =>
    if cmpI .ne v2 1 = true then
    (if (2 : Nat) = 2 ∧ rcv M1 89 13 = true then
      ((Call prog clsT X d 189 [(2, 89), (0, x1)] M1).bind fun r3 => if r3.1.1 = 4 then none else
      Ev prog clsT X d mc198 23 [(2, 89), (0, x1), (0, x2)] (pushR r3.1 []) r3.2) else none)
  else
    (some ((0, 0), M1)))
else
  ((Call prog clsT X d 152 [(0, x2), (0, 0), (0, 13)] ((mk E c s (hh g)))).bind fun r4 => if r4.1.1 = 4 then none else
    Ev prog clsT X d mc198 9 [(2, 89), (0, x1), (0, x2)] (pushR r4.1 [(2, 89)]) r4.2))) X [0, 4, 9, 23] 11 rfl).trans (by simp (disch := decide) only [F6144_89, R89_13, W6144_89, cpy_cell, up_cell, bindI, Option.bind_some, if_true_, and_self, ite_true, true_and, true_or, or_true])
theorem r198_9 (d : Nat) (x1 x2 s1 : Int) : Ev prog clsT X d mc198 9 [(2, 89), (0, x1), (0, x2)] [(0, s1), (2, 89)] (mk E c s (hh g)) =
  (if cmpI .eq s1 0 = true then
  (if cmpI .ne (((up g 89 0 1) 89 0)) 1 = true then
    ((Call prog clsT X d 189 [(2, 89), (0, x1)] ((mk E c s (hh (up g 89 0 1))))).bind fun r1 => if r1.1.1 = 4 then none else
      Ev prog clsT X d mc198 23 [(2, 89), (0, x1), (0, x2)] (pushR r1.1 []) r1.2)
  else
    (some ((0, 0), ((mk E c s (hh (up g 89 0 1)))))))
else
  (if cmpI .ne (((up g 89 0 0) 89 0)) 1 = true then
    ((Call prog clsT X d 189 [(2, 89), (0, x1)] ((mk E c s (hh (up g 89 0 0))))).bind fun r2 => if r2.1.1 = 4 then none else
      Ev prog clsT X d mc198 23 [(2, 89), (0, x1), (0, x2)] (pushR r2.1 []) r2.2)
  else
    (some ((0, 0), ((mk E c s (hh (up g 89 0 0)))))))) :=
  (evk_at (r := (if cmpI .eq s1 0 = true then
  ((fput 6144 ((mk E c s (hh g))) 89 1).bind fun M1 =>
    (fget 6144 M1 89).bind fun v2 =>
    if cmpI .ne v2 1 = true then
    (if (2 : Nat) = 2 ∧ rcv M1 89 13 = true then
      ((Call prog clsT X d 189 [(2, 89), (0, x1)] M1).bind fun r3 => if r3.1.1 = 4 then none else
      Ev prog clsT X d mc198 23 [(2, 89), (0, x1), (0, x2)] (pushR r3.1 []) r3.2) else none)
  else
    (some ((0, 0), M1)))
else
  ((fput 6144 ((mk E c s (hh g))) 89 0).bind fun M4 =>
    (fget 6144 M4 89).bind fun v5 =>
    if cmpI .ne v5 1 = true then
    (if (2 : Nat) = 2 ∧ rcv M4 89 13 = true then
      ((Call prog clsT X d 189 [(2, 89), (0, x1)] M4).bind fun r6 => if r6.1.1 = 4 then none else
      Ev prog clsT X d mc198 23 [(2, 89), (0, x1), (0, x2)] (pushR r6.1 []) r6.2) else none)
  else
    (some ((0, 0), M4))))) X [0, 4, 9, 23] 12 rfl).trans (by simp (disch := decide) only [F6144_89, R89_13, W6144_89, cpy_cell, up_cell, bindI, Option.bind_some, if_true_, and_self, ite_true, true_and, true_or, or_true])
theorem r198_23 (d : Nat) (x1 x2 : Int) : Ev prog clsT X d mc198 23 [(2, 89), (0, x1), (0, x2)] [] (mk E c s (hh g)) =
  (if cmpI .ge x2 11 = true then
  (if cmpI .ne x2 11 = true then
    (if cmpI .ne x2 12 = true then
      (if inb x1 40 = true then
        (if cmpI .eq ((g 104 (Int.toNat x1))) 0 = true then
        (some ((0, 1), ((mk E c s (hh g)))))
      else
        (some ((0, 0), ((mk E c s (hh g))))))
      else none)
    else
      (if inb x1 40 = true then
        (some ((0, (g 100 (Int.toNat x1))), ((mk E c s (hh g)))))
      else none))
  else
    (if inb x1 40 = true then
      (some ((0, (g 99 (Int.toNat x1))), ((mk E c s (hh g)))))
    else none))
else
  (if inb ((w32 (1 + x2))) 20 = true then
    (some ((0, (g 126 (Int.toNat ((w32 (1 + x2)))))), ((mk E c s (hh g)))))
  else none)) :=
  (evk_at (r := (if cmpI .ge x2 11 = true then
  (if cmpI .ne x2 11 = true then
    (if cmpI .ne x2 12 = true then
      ((fget 6210 ((mk E c s (hh g))) 89).bind fun v1 =>
        (aget X 102 ((mk E c s (hh g))) v1 x1).bind fun v2 =>
        if cmpI .eq v2 0 = true then
        (some ((0, 1), (mk E c s (hh g))))
      else
        (some ((0, 0), (mk E c s (hh g)))))
    else
      ((fget 6194 ((mk E c s (hh g))) 89).bind fun v3 =>
        (aget X 100 ((mk E c s (hh g))) v3 x1).bind fun v4 =>
        some ((0, v4), (mk E c s (hh g)))))
  else
    ((fget 6190 ((mk E c s (hh g))) 89).bind fun v5 =>
      (aget X 100 ((mk E c s (hh g))) v5 x1).bind fun v6 =>
      some ((0, v6), (mk E c s (hh g)))))
else
  ((fget 6338 ((mk E c s (hh g))) 89).bind fun v7 =>
    (aget X 100 ((mk E c s (hh g))) v7 ((w32 (1 + x2)))).bind fun v8 =>
    some ((0, v8), (mk E c s (hh g)))))) X [0, 4, 9, 23] 18 rfl).trans (by simp (disch := decide) only [A100, A104, A126, A99, F6190_89, F6194_89, F6210_89, F6338_89, bindI, Option.bind_some, if_true_, and_self, ite_true, true_and, true_or, or_true])
theorem r199_0 (d : Nat) (x1 x2 : Int) : Ev prog clsT X d mc199 0 [(2, 89), (0, x1), (0, x2), (3, 0), (3, 0), (3, 0), (3, 0)] [] (mk E c s (hh g)) =
  ((Call prog clsT X d 157 [(2, 89), (0, x1)] ((mk E c s (hh (up g 89 0 0))))).bind fun r1 => if r1.1.1 = 4 then none else
  Ev prog clsT X d mc199 6 [(2, 89), (0, x1), (0, x2), (3, 0), (3, 0), (3, 0), (3, 0)] (pushR r1.1 []) r1.2) :=
  (evk_at (r := ((fput 6144 ((mk E c s (hh g))) 89 0).bind fun M1 =>
  if (2 : Nat) = 2 ∧ rcv M1 89 13 = true then
  ((Call prog clsT X d 157 [(2, 89), (0, x1)] M1).bind fun r2 => if r2.1.1 = 4 then none else
  Ev prog clsT X d mc199 6 [(2, 89), (0, x1), (0, x2), (3, 0), (3, 0), (3, 0), (3, 0)] (pushR r2.1 []) r2.2) else none)) X [0, 6, 16, 25, 30, 91] 7 rfl).trans (by simp (disch := decide) only [R89_13, W6144_89, bindI, Option.bind_some, if_true_, and_self, ite_true, true_and, true_or, or_true])
theorem rc199_ (d : Nat) (x1 x2 : Int) : Call prog clsT X (d + 1) 199 [(2, 89), (0, x1), (0, x2)] (mk E c s (hh g)) =
  ((Call prog clsT X d 157 [(2, 89), (0, x1)] ((mk E c s (hh (up g 89 0 0))))).bind fun r1 => if r1.1.1 = 4 then none else
  Ev prog clsT X d mc199 6 [(2, 89), (0, x1), (0, x2), (3, 0), (3, 0), (3, 0), (3, 0)] (pushR r1.1 []) r1.2) :=
  (show Call prog clsT X (d + 1) 199 [(2, 89), (0, x1), (0, x2)] (mk E c s (hh g)) = Ev prog clsT X d mc199 0 [(2, 89), (0, x1), (0, x2), (3, 0), (3, 0), (3, 0), (3, 0)] [] (mk E c s (hh g)) from rfl).trans (r199_0 X E c s g d x1 x2 )
theorem r199_6 (d : Nat) (x1 x2 s0 : Int) : Ev prog clsT X d mc199 6 [(2, 89), (0, x1), (0, x2), (3, 0), (3, 0), (3, 0), (3, 0)] [(0, s0)] (mk E c s (hh g)) =
  (if cmpI .eq s0 0 = true then
  (some ((0, (-1)), ((mk E c s (hh g)))))
else
  (if inb x1 13 = true then
    (if cmpI .eq ((g 107 (Int.toNat x1))) 0 = true then
    (some ((0, (-1)), ((mk E c s (hh g)))))
  else
    ((Call prog clsT X d 152 [(0, x2), (0, 0), (0, 1)] ((mk E c s (hh g)))).bind fun r1 => if r1.1.1 = 4 then none else
      Ev prog clsT X d mc199 16 [(2, 89), (0, x1), (0, x2), (3, 0), (3, 0), (3, 0), (3, 0)] (pushR r1.1 []) r1.2))
  else none)) :=
  (evk_at (r := (if cmpI .eq s0 0 = true then
  (some ((0, (-1)), (mk E c s (hh g))))
else
  ((fget 6254 ((mk E c s (hh g))) 89).bind fun v1 =>
    (aget X 100 ((mk E c s (hh g))) v1 x1).bind fun v2 =>
    if cmpI .eq v2 0 = true then
    (some ((0, (-1)), (mk E c s (hh g))))
  else
    ((Call prog clsT X d 152 [(0, x2), (0, 0), (0, 1)] ((mk E c s (hh g)))).bind fun r3 => if r3.1.1 = 4 then none else
      Ev prog clsT X d mc199 16 [(2, 89), (0, x1), (0, x2), (3, 0), (3, 0), (3, 0), (3, 0)] (pushR r3.1 []) r3.2)))) X [0, 6, 16, 25, 30, 91] 11 rfl).trans (by simp (disch := decide) only [A107, F6254_89, bindI, Option.bind_some, if_true_, and_self, ite_true, true_and, true_or, or_true])
theorem r199_16 (d : Nat) (x1 x2 s0 : Int) : Ev prog clsT X d mc199 16 [(2, 89), (0, x1), (0, x2), (3, 0), (3, 0), (3, 0), (3, 0)] [(0, s0)] (mk E c s (hh g)) =
  (if cmpI .ne s0 0 = true then
  (Ev prog clsT X d mc199 25 [(2, 89), (0, x1), (0, x2), (0, 0), (0, (-1)), (0, 1), (3, 0)] [] (mk E c s (hh g)))
else
  (some ((0, (-1)), ((mk E c s (hh g)))))) :=
  (evk_at (r := (if cmpI .ne s0 0 = true then
  (Ev prog clsT X d mc199 25 [(2, 89), (0, x1), (0, x2), (0, 0), (0, (-1)), (0, 1), (3, 0)] [] (mk E c s (hh g)))
else
  (some ((0, (-1)), (mk E c s (hh g)))))) X [0, 6, 16, 25, 30, 91] 9 rfl).trans (by simp (disch := decide) only [bindI, Option.bind_some, if_true_, and_self, ite_true, true_and, true_or, or_true])
theorem r199_25 (d : Nat) (x1 x2 x3 x4 x5 : Int) (w6 : MV) : Ev prog clsT X d mc199 25 [(2, 89), (0, x1), (0, x2), (0, x3), (0, x4), (0, x5), w6] [] (mk E c s (hh g)) =
  (if cmpI .ge x5 100 = true then
  (if cmpI .ne x2 0 = true then
    (some ((0, x4), ((mk E c s (hh g)))))
  else
    (some ((0, x3), ((mk E c s (hh g))))))
else
  (Ev prog clsT X d mc199 30 [(2, 89), (0, x1), (0, x2), (0, x3), (0, x4), (0, x5), (0, 1)] [] (mk E c s (hh g)))) :=
  (evk_at (r := (if cmpI .ge x5 100 = true then
  (if cmpI .ne x2 0 = true then
    (some ((0, x4), (mk E c s (hh g))))
  else
    (some ((0, x3), (mk E c s (hh g)))))
else
  (Ev prog clsT X d mc199 30 [(2, 89), (0, x1), (0, x2), (0, x3), (0, x4), (0, x5), (0, 1)] [] (mk E c s (hh g))))) X [0, 6, 16, 25, 30, 91] 9 rfl).trans (by simp (disch := decide) only [bindI, Option.bind_some, if_true_, and_self, ite_true, true_and, true_or, or_true])
theorem r199_91 (d : Nat) (x1 x2 x3 x4 x5 x6 s0 : Int) : Ev prog clsT X d mc199 91 [(2, 89), (0, x1), (0, x2), (0, x3), (0, x4), (0, x5), (0, x6)] [(0, s0)] (mk E c s (hh g)) =
  (if cmpI .ge s0 0 = true then
  (if cmpI .ne x3 0 = true then
    (Ev prog clsT X d mc199 25 [(2, 89), (0, x1), (0, x2), (0, (w32 (x3 + 1))), (0, x4), (0, (w32 (x5 + 1))), (0, s0)] [] (mk E c s (hh g)))
  else
    (Ev prog clsT X d mc199 25 [(2, 89), (0, x1), (0, x2), (0, (w32 (x3 + 1))), (0, s0), (0, (w32 (x5 + 1))), (0, s0)] [] (mk E c s (hh g))))
else
  (Ev prog clsT X d mc199 25 [(2, 89), (0, x1), (0, x2), (0, x3), (0, x4), (0, (w32 (x5 + 1))), (0, s0)] [] (mk E c s (hh g)))) :=
  evk_at X [0, 6, 16, 25, 30, 91] 13 rfl
theorem r200_0 (d : Nat) (x1 x2 : Int) : Ev prog clsT X d mc200 0 [(2, 89), (0, x1), (0, x2)] [] (mk E c s (hh g)) =
  ((Call prog clsT X d 152 [(0, x1), (0, 0), (0, 3)] ((mk E c s (hh (up g 89 0 0))))).bind fun r1 => if r1.1.1 = 4 then none else
  Ev prog clsT X d mc200 7 [(2, 89), (0, x1), (0, x2)] (pushR r1.1 []) r1.2) :=
  (evk_at (r := ((fput 6144 ((mk E c s (hh g))) 89 0).bind fun M1 =>
  (Call prog clsT X d 152 [(0, x1), (0, 0), (0, 3)] M1).bind fun r2 => if r2.1.1 = 4 then none else
  Ev prog clsT X d mc200 7 [(2, 89), (0, x1), (0, x2)] (pushR r2.1 []) r2.2)) X [0, 7, 12] 8 rfl).trans (by simp (disch := decide) only [W6144_89, bindI, Option.bind_some, if_true_, and_self, ite_true, true_and, true_or, or_true])
theorem rc200_ (d : Nat) (x1 x2 : Int) : Call prog clsT X (d + 1) 200 [(2, 89), (0, x1), (0, x2)] (mk E c s (hh g)) =
  ((Call prog clsT X d 152 [(0, x1), (0, 0), (0, 3)] ((mk E c s (hh (up g 89 0 0))))).bind fun r1 => if r1.1.1 = 4 then none else
  Ev prog clsT X d mc200 7 [(2, 89), (0, x1), (0, x2)] (pushR r1.1 []) r1.2) :=
  (show Call prog clsT X (d + 1) 200 [(2, 89), (0, x1), (0, x2)] (mk E c s (hh g)) = Ev prog clsT X d mc200 0 [(2, 89), (0, x1), (0, x2)] [] (mk E c s (hh g)) from rfl).trans (r200_0 X E c s g d x1 x2 )
theorem r200_7 (d : Nat) (x1 x2 s0 : Int) : Ev prog clsT X d mc200 7 [(2, 89), (0, x1), (0, x2)] [(0, s0)] (mk E c s (hh g)) =
  (if cmpI .eq s0 0 = true then
  (some ((0, 0), ((mk E c s (hh g)))))
else
  ((Call prog clsT X d 152 [(0, x2), (0, 0), (0, 5)] ((mk E c s (hh g)))).bind fun r1 => if r1.1.1 = 4 then none else
    Ev prog clsT X d mc200 12 [(2, 89), (0, x1), (0, x2)] (pushR r1.1 []) r1.2)) :=
  (evk_at (r := (if cmpI .eq s0 0 = true then
  (some ((0, 0), (mk E c s (hh g))))
else
  ((Call prog clsT X d 152 [(0, x2), (0, 0), (0, 5)] ((mk E c s (hh g)))).bind fun r1 => if r1.1.1 = 4 then none else
    Ev prog clsT X d mc200 12 [(2, 89), (0, x1), (0, x2)] (pushR r1.1 []) r1.2))) X [0, 7, 12] 6 rfl).trans (by simp (disch := decide) only [bindI, Option.bind_some, if_true_, and_self, ite_true, true_and, true_or, or_true])
theorem r201_0 (d : Nat) (x1 x2 x3 : Int) : Ev prog clsT X d mc201 0 [(2, 89), (0, x1), (0, x2), (0, x3)] [] (mk E c s (hh g)) =
  ((Call prog clsT X d 202 [(2, 89), (0, x1)] ((mk E c s (hh (up g 89 0 0))))).bind fun r1 => if r1.1.1 = 4 then none else
  Ev prog clsT X d mc201 6 [(2, 89), (0, x1), (0, x2), (0, x3)] (pushR r1.1 []) r1.2) :=
  (evk_at (r := ((fput 6144 ((mk E c s (hh g))) 89 0).bind fun M1 =>
  if (2 : Nat) = 2 ∧ rcv M1 89 13 = true then
  ((Call prog clsT X d 202 [(2, 89), (0, x1)] M1).bind fun r2 => if r2.1.1 = 4 then none else
  Ev prog clsT X d mc201 6 [(2, 89), (0, x1), (0, x2), (0, x3)] (pushR r2.1 []) r2.2) else none)) X [0, 6, 11, 16] 7 rfl).trans (by simp (disch := decide) only [R89_13, W6144_89, bindI, Option.bind_some, if_true_, and_self, ite_true, true_and, true_or, or_true])
theorem rc201_ (d : Nat) (x1 x2 x3 : Int) : Call prog clsT X (d + 1) 201 [(2, 89), (0, x1), (0, x2), (0, x3)] (mk E c s (hh g)) =
  ((Call prog clsT X d 202 [(2, 89), (0, x1)] ((mk E c s (hh (up g 89 0 0))))).bind fun r1 => if r1.1.1 = 4 then none else
  Ev prog clsT X d mc201 6 [(2, 89), (0, x1), (0, x2), (0, x3)] (pushR r1.1 []) r1.2) :=
  (show Call prog clsT X (d + 1) 201 [(2, 89), (0, x1), (0, x2), (0, x3)] (mk E c s (hh g)) = Ev prog clsT X d mc201 0 [(2, 89), (0, x1), (0, x2), (0, x3)] [] (mk E c s (hh g)) from rfl).trans (r201_0 X E c s g d x1 x2 x3 )
theorem r201_6 (d : Nat) (x1 x2 x3 s0 : Int) : Ev prog clsT X d mc201 6 [(2, 89), (0, x1), (0, x2), (0, x3)] [(0, s0)] (mk E c s (hh g)) =
  (if cmpI .eq s0 0 = true then
  (some ((0, 0), ((mk E c s (hh g)))))
else
  ((Call prog clsT X d 152 [(0, x2), (0, 0), (0, 5)] ((mk E c s (hh g)))).bind fun r1 => if r1.1.1 = 4 then none else
    Ev prog clsT X d mc201 11 [(2, 89), (0, x1), (0, x2), (0, x3)] (pushR r1.1 []) r1.2)) :=
  (evk_at (r := (if cmpI .eq s0 0 = true then
  (some ((0, 0), (mk E c s (hh g))))
else
  ((Call prog clsT X d 152 [(0, x2), (0, 0), (0, 5)] ((mk E c s (hh g)))).bind fun r1 => if r1.1.1 = 4 then none else
    Ev prog clsT X d mc201 11 [(2, 89), (0, x1), (0, x2), (0, x3)] (pushR r1.1 []) r1.2))) X [0, 6, 11, 16] 6 rfl).trans (by simp (disch := decide) only [bindI, Option.bind_some, if_true_, and_self, ite_true, true_and, true_or, or_true])
theorem r201_11 (d : Nat) (x1 x2 x3 s0 : Int) : Ev prog clsT X d mc201 11 [(2, 89), (0, x1), (0, x2), (0, x3)] [(0, s0)] (mk E c s (hh g)) =
  (if cmpI .eq s0 0 = true then
  (some ((0, 0), ((mk E c s (hh g)))))
else
  ((Call prog clsT X d 152 [(0, x3), (0, (-9)), (0, 9)] ((mk E c s (hh g)))).bind fun r1 => if r1.1.1 = 4 then none else
    Ev prog clsT X d mc201 16 [(2, 89), (0, x1), (0, x2), (0, x3)] (pushR r1.1 []) r1.2)) :=
  (evk_at (r := (if cmpI .eq s0 0 = true then
  (some ((0, 0), (mk E c s (hh g))))
else
  ((Call prog clsT X d 152 [(0, x3), (0, (-9)), (0, 9)] ((mk E c s (hh g)))).bind fun r1 => if r1.1.1 = 4 then none else
    Ev prog clsT X d mc201 16 [(2, 89), (0, x1), (0, x2), (0, x3)] (pushR r1.1 []) r1.2))) X [0, 6, 11, 16] 6 rfl).trans (by simp (disch := decide) only [bindI, Option.bind_some, if_true_, and_self, ite_true, true_and, true_or, or_true])
theorem r202_0 (d : Nat) (x1 : Int) : Ev prog clsT X d mc202 0 [(2, 89), (0, x1)] [] (mk E c s (hh g)) =
  ((Call prog clsT X d 152 [(0, x1), (0, 0), (0, 3)] ((mk E c s (hh g)))).bind fun r1 => if r1.1.1 = 4 then none else
  Ev prog clsT X d mc202 4 [(2, 89), (0, x1)] (pushR r1.1 []) r1.2) :=
  evk_at X [0, 4] 5 rfl
theorem rc202_ (d : Nat) (x1 : Int) : Call prog clsT X (d + 1) 202 [(2, 89), (0, x1)] (mk E c s (hh g)) =
  ((Call prog clsT X d 152 [(0, x1), (0, 0), (0, 3)] ((mk E c s (hh g)))).bind fun r1 => if r1.1.1 = 4 then none else
  Ev prog clsT X d mc202 4 [(2, 89), (0, x1)] (pushR r1.1 []) r1.2) :=
  (show Call prog clsT X (d + 1) 202 [(2, 89), (0, x1)] (mk E c s (hh g)) = Ev prog clsT X d mc202 0 [(2, 89), (0, x1)] [] (mk E c s (hh g)) from rfl).trans (r202_0 X E c s g d x1 )
theorem r202_4 (d : Nat) (x1 s0 : Int) : Ev prog clsT X d mc202 4 [(2, 89), (0, x1)] [(0, s0)] (mk E c s (hh g)) =
  (if cmpI .eq s0 0 = true then
  (some ((0, 0), ((mk E c s (hh g)))))
else
  (if inb x1 4 = true then
    (if cmpI .eq ((g 127 (Int.toNat x1))) 0 = true then
    (some ((0, 0), ((mk E c s (hh g)))))
  else
    (some ((0, 1), ((mk E c s (hh g))))))
  else none)) :=
  (evk_at (r := (if cmpI .eq s0 0 = true then
  (some ((0, 0), (mk E c s (hh g))))
else
  ((fget 6342 ((mk E c s (hh g))) 89).bind fun v1 =>
    (aget X 102 ((mk E c s (hh g))) v1 x1).bind fun v2 =>
    if cmpI .eq v2 0 = true then
    (some ((0, 0), (mk E c s (hh g))))
  else
    (some ((0, 1), (mk E c s (hh g))))))) X [0, 4] 10 rfl).trans (by simp (disch := decide) only [A127, F6342_89, bindI, Option.bind_some, if_true_, and_self, ite_true, true_and, true_or, or_true])
theorem r203_0 (d : Nat) (x1 x2 : Int) : Ev prog clsT X d mc203 0 [(2, 89), (0, x1), (0, x2)] [] (mk E c s (hh g)) =
  ((Call prog clsT X d 202 [(2, 89), (0, x1)] ((mk E c s (hh (up g 89 0 0))))).bind fun r1 => if r1.1.1 = 4 then none else
  Ev prog clsT X d mc203 6 [(2, 89), (0, x1), (0, x2)] (pushR r1.1 []) r1.2) :=
  (evk_at (r := ((fput 6144 ((mk E c s (hh g))) 89 0).bind fun M1 =>
  if (2 : Nat) = 2 ∧ rcv M1 89 13 = true then
  ((Call prog clsT X d 202 [(2, 89), (0, x1)] M1).bind fun r2 => if r2.1.1 = 4 then none else
  Ev prog clsT X d mc203 6 [(2, 89), (0, x1), (0, x2)] (pushR r2.1 []) r2.2) else none)) X [0, 6, 10, 17] 7 rfl).trans (by simp (disch := decide) only [R89_13, W6144_89, bindI, Option.bind_some, if_true_, and_self, ite_true, true_and, true_or, or_true])
theorem rc203_ (d : Nat) (x1 x2 : Int) : Call prog clsT X (d + 1) 203 [(2, 89), (0, x1), (0, x2)] (mk E c s (hh g)) =
  ((Call prog clsT X d 202 [(2, 89), (0, x1)] ((mk E c s (hh (up g 89 0 0))))).bind fun r1 => if r1.1.1 = 4 then none else
  Ev prog clsT X d mc203 6 [(2, 89), (0, x1), (0, x2)] (pushR r1.1 []) r1.2) :=
  (show Call prog clsT X (d + 1) 203 [(2, 89), (0, x1), (0, x2)] (mk E c s (hh g)) = Ev prog clsT X d mc203 0 [(2, 89), (0, x1), (0, x2)] [] (mk E c s (hh g)) from rfl).trans (r203_0 X E c s g d x1 x2 )
theorem r203_6 (d : Nat) (x1 x2 s0 : Int) : Ev prog clsT X d mc203 6 [(2, 89), (0, x1), (0, x2)] [(0, s0)] (mk E c s (hh g)) =
  (if cmpI .eq s0 0 = true then
  (some ((0, (-1)), ((mk E c s (hh g)))))
else
  ((Call prog clsT X d 157 [(2, 89), (0, x2)] ((mk E c s (hh g)))).bind fun r1 => if r1.1.1 = 4 then none else
    Ev prog clsT X d mc203 10 [(2, 89), (0, x1), (0, x2)] (pushR r1.1 []) r1.2)) :=
  (evk_at (r := (if cmpI .eq s0 0 = true then
  (some ((0, (-1)), (mk E c s (hh g))))
else
  (if (2 : Nat) = 2 ∧ rcv ((mk E c s (hh g))) 89 13 = true then
    ((Call prog clsT X d 157 [(2, 89), (0, x2)] ((mk E c s (hh g)))).bind fun r1 => if r1.1.1 = 4 then none else
    Ev prog clsT X d mc203 10 [(2, 89), (0, x1), (0, x2)] (pushR r1.1 []) r1.2) else none))) X [0, 6, 10, 17] 5 rfl).trans (by simp (disch := decide) only [R89_13, bindI, Option.bind_some, if_true_, and_self, ite_true, true_and, true_or, or_true])
theorem r203_10 (d : Nat) (x1 x2 s0 : Int) : Ev prog clsT X d mc203 10 [(2, 89), (0, x1), (0, x2)] [(0, s0)] (mk E c s (hh g)) =
  (if cmpI .ne s0 0 = true then
  ((Call prog clsT X d 204 [(2, 89), (0, x1), (0, x2)] ((mk E c s (hh g)))).bind fun r1 => if r1.1.1 = 4 then none else
    Ev prog clsT X d mc203 17 [(2, 89), (0, x1), (0, x2)] (pushR r1.1 []) r1.2)
else
  (some ((0, (-1)), ((mk E c s (hh g)))))) :=
  (evk_at (r := (if cmpI .ne s0 0 = true then
  (if (2 : Nat) = 2 ∧ rcv ((mk E c s (hh g))) 89 13 = true then
    ((Call prog clsT X d 204 [(2, 89), (0, x1), (0, x2)] ((mk E c s (hh g)))).bind fun r1 => if r1.1.1 = 4 then none else
    Ev prog clsT X d mc203 17 [(2, 89), (0, x1), (0, x2)] (pushR r1.1 []) r1.2) else none)
else
  (some ((0, (-1)), (mk E c s (hh g)))))) X [0, 6, 10, 17] 6 rfl).trans (by simp (disch := decide) only [R89_13, bindI, Option.bind_some, if_true_, and_self, ite_true, true_and, true_or, or_true])
theorem r203_17 (d : Nat) (x1 x2 s0 : Int) : Ev prog clsT X d mc203 17 [(2, 89), (0, x1), (0, x2)] [(0, s0)] (mk E c s (hh g)) =
  (if cmpI .eq s0 0 = true then
  (some ((0, 0), ((mk E c s (hh g)))))
else
  (some ((0, 1), ((mk E c s (hh g)))))) :=
  (evk_at (r := (if cmpI .eq s0 0 = true then
  (some ((0, 0), (mk E c s (hh g))))
else
  (some ((0, 1), (mk E c s (hh g)))))) X [0, 6, 10, 17] 5 rfl).trans (by simp (disch := decide) only [bindI, Option.bind_some, if_true_, and_self, ite_true, true_and, true_or, or_true])
theorem r204_0 (d : Nat) (x1 x2 : Int) : Ev prog clsT X d mc204 0 [(2, 89), (0, x1), (0, x2), (3, 0)] [] (mk E c s (hh g)) =
  (Ev prog clsT X d mc204 2 [(2, 89), (0, x1), (0, x2), (0, 0)] [] (mk E c s (hh g))) :=
  evk_at X [0, 2] 4 rfl
theorem rc204_ (d : Nat) (x1 x2 : Int) : Call prog clsT X (d + 1) 204 [(2, 89), (0, x1), (0, x2)] (mk E c s (hh g)) =
  (Ev prog clsT X d mc204 2 [(2, 89), (0, x1), (0, x2), (0, 0)] [] (mk E c s (hh g))) :=
  (show Call prog clsT X (d + 1) 204 [(2, 89), (0, x1), (0, x2)] (mk E c s (hh g)) = Ev prog clsT X d mc204 0 [(2, 89), (0, x1), (0, x2), (3, 0)] [] (mk E c s (hh g)) from rfl).trans (r204_0 X E c s g d x1 x2 )
theorem r204_2 (d : Nat) (x1 x2 x3 : Int) : Ev prog clsT X d mc204 2 [(2, 89), (0, x1), (0, x2), (0, x3)] [] (mk E c s (hh g)) =
  (if cmpI .ge x3 ((g 89 10)) = true then
  (some ((0, 0), ((mk E c s (hh g)))))
else
  (if inb x3 40 = true then
    (if cmpI .ne ((g 104 (Int.toNat x3))) 0 = true then
    (Ev prog clsT X d mc204 2 [(2, 89), (0, x1), (0, x2), (0, (w32 (x3 + 1)))] [] (mk E c s (hh g)))
  else
    (if inb x3 40 = true then
      (if cmpI .ne ((g 99 (Int.toNat x3))) x2 = true then
      (Ev prog clsT X d mc204 2 [(2, 89), (0, x1), (0, x2), (0, (w32 (x3 + 1)))] [] (mk E c s (hh g)))
    else
      (if inb x3 40 = true then
        (if inb ((g 100 (Int.toNat x3))) 10 = true then
        (if inb x1 4 = true then
        (if cmpI .ne ((g 91 (Int.toNat ((g 100 (Int.toNat x3)))))) ((g 128 (Int.toNat x1))) = true then
        (Ev prog clsT X d mc204 2 [(2, 89), (0, x1), (0, x2), (0, (w32 (x3 + 1)))] [] (mk E c s (hh g)))
      else
        (some ((0, 1), ((mk E c s (hh g))))))
      else none)
      else none)
      else none))
    else none))
  else none)) :=
  (evk_at (r := ((fget 6184 ((mk E c s (hh g))) 89).bind fun v1 =>
  if cmpI .ge x3 v1 = true then
  (some ((0, 0), (mk E c s (hh g))))
else
  ((fget 6210 ((mk E c s (hh g))) 89).bind fun v2 =>
    (aget X 102 ((mk E c s (hh g))) v2 x3).bind fun v3 =>
    if cmpI .ne v3 0 = true then
    (Ev prog clsT X d mc204 2 [(2, 89), (0, x1), (0, x2), (0, (w32 (x3 + 1)))] [] (mk E c s (hh g)))
  else
    ((fget 6190 ((mk E c s (hh g))) 89).bind fun v4 =>
      (aget X 100 ((mk E c s (hh g))) v4 x3).bind fun v5 =>
      if cmpI .ne v5 x2 = true then
      (Ev prog clsT X d mc204 2 [(2, 89), (0, x1), (0, x2), (0, (w32 (x3 + 1)))] [] (mk E c s (hh g)))
    else
      ((fget 6154 ((mk E c s (hh g))) 89).bind fun v6 =>
        (fget 6194 ((mk E c s (hh g))) 89).bind fun v7 =>
        (aget X 100 ((mk E c s (hh g))) v7 x3).bind fun v8 =>
        (aget X 100 ((mk E c s (hh g))) v6 v8).bind fun v9 =>
        (fget 6346 ((mk E c s (hh g))) 89).bind fun v10 =>
        (aget X 100 ((mk E c s (hh g))) v10 x1).bind fun v11 =>
        if cmpI .ne v9 v11 = true then
        (Ev prog clsT X d mc204 2 [(2, 89), (0, x1), (0, x2), (0, (w32 (x3 + 1)))] [] (mk E c s (hh g)))
      else
        (some ((0, 1), (mk E c s (hh g))))))))) X [0, 2] 31 rfl).trans (by simp (disch := decide) only [A100, A104, A128, A91, A99, F6154_89, F6184_89, F6190_89, F6194_89, F6210_89, F6346_89, bindI, Option.bind_some, if_true_, and_self, ite_true, true_and, true_or, or_true])
theorem r205_0 (d : Nat) (x1 x2 : Int) : Ev prog clsT X d mc205 0 [(2, 89), (0, x1), (0, x2)] [] (mk E c s (hh g)) =
  ((Call prog clsT X d 162 [(2, 89), (0, x1)] ((mk E c s (hh g)))).bind fun r1 => if r1.1.1 = 4 then none else
  Ev prog clsT X d mc205 4 [(2, 89), (0, x1), (0, x2)] (pushR r1.1 [(2, 89)]) r1.2) :=
  (evk_at (r := (if (2 : Nat) = 2 ∧ rcv ((mk E c s (hh g))) 89 13 = true then
  ((Call prog clsT X d 162 [(2, 89), (0, x1)] ((mk E c s (hh g)))).bind fun r1 => if r1.1.1 = 4 then none else
  Ev prog clsT X d mc205 4 [(2, 89), (0, x1), (0, x2)] (pushR r1.1 [(2, 89)]) r1.2) else none)) X [0, 4, 8, 23] 5 rfl).trans (by simp (disch := decide) only [R89_13, bindI, Option.bind_some, if_true_, and_self, ite_true, true_and, true_or, or_true])
theorem rc205_ (d : Nat) (x1 x2 : Int) : Call prog clsT X (d + 1) 205 [(2, 89), (0, x1), (0, x2)] (mk E c s (hh g)) =
  ((Call prog clsT X d 162 [(2, 89), (0, x1)] ((mk E c s (hh g)))).bind fun r1 => if r1.1.1 = 4 then none else
  Ev prog clsT X d mc205 4 [(2, 89), (0, x1), (0, x2)] (pushR r1.1 [(2, 89)]) r1.2) :=
  (show Call prog clsT X (d + 1) 205 [(2, 89), (0, x1), (0, x2)] (mk E c s (hh g)) = Ev prog clsT X d mc205 0 [(2, 89), (0, x1), (0, x2)] [] (mk E c s (hh g)) from rfl).trans (r205_0 X E c s g d x1 x2 )
theorem r205_4 (d : Nat) (x1 x2 s1 : Int) : Ev prog clsT X d mc205 4 [(2, 89), (0, x1), (0, x2)] [(0, s1), (2, 89)] (mk E c s (hh g)) =
  (if cmpI .eq s1 0 = true then
  (if cmpI .ne (((up g 89 0 1) 89 0)) 1 = true then
    ((Call prog clsT X d 206 [(2, 89), (0, x1), (0, x2)] ((mk E c s (hh (up g 89 0 1))))).bind fun r1 => if r1.1.1 = 4 then none else
      Ev prog clsT X d mc205 23 [(2, 89), (0, x1), (0, x2)] (pushR r1.1 []) r1.2)
  else
    (Ev prog clsT X d mc205 23 [(2, 89), (0, x1), (0, x2)] [(0, 0)] (mk E c s (hh (up g 89 0 1)))))
else
  ((Call prog clsT X d 202 [(2, 89), (0, x2)] ((mk E c s (hh g)))).bind fun r2 => if r2.1.1 = 4 then none else
    Ev prog clsT X d mc205 8 [(2, 89), (0, x1), (0, x2)] (pushR r2.1 [(2, 89)]) r2.2)) :=
  (evk_at (r := (if cmpI .eq s1 0 = true then
  ((fput 6144 ((mk E c s (hh g))) 89 1).bind fun M1 =>
    (fget 6144 M1 89).bind fun v2 =>
    if cmpI .ne v2 1 = true then
    (if (2 : Nat) = 2 ∧ rcv M1 89 13 = true then
      ((Call prog clsT X d 206 [(2, 89), (0, x1), (0, x2)] M1).bind fun r3 => if r3.1.1 = 4 then none else
      Ev prog clsT X d mc205 23 [(2, 89), (0, x1), (0, x2)] (pushR r3.1 []) r3.2) else none)
  else
    (Ev prog clsT X d mc205 23 [(2, 89), (0, x1), (0, x2)] [(0, 0)] M1))
else
  (if (2 : Nat) = 2 ∧ rcv ((mk E c s (hh g))) 89 13 = true then
    ((Call prog clsT X d 202 [(2, 89), (0, x2)] ((mk E c s (hh g)))).bind fun r4 => if r4.1.1 = 4 then none else
    Ev prog clsT X d mc205 8 [(2, 89), (0, x1), (0, x2)] (pushR r4.1 [(2, 89)]) r4.2) else none))) X [0, 4, 8, 23] 12 rfl).trans (by simp (disch := decide) only [F6144_89, R89_13, W6144_89, cpy_cell, up_cell, bindI, Option.bind_some, if_true_, and_self, ite_true, true_and, true_or, or_true])
theorem r205_8 (d : Nat) (x1 x2 s1 : Int) : Ev prog clsT X d mc205 8 [(2, 89), (0, x1), (0, x2)] [(0, s1), (2, 89)] (mk E c s (hh g)) =
  (if cmpI .eq s1 0 = true then
  (if cmpI .ne (((up g 89 0 1) 89 0)) 1 = true then
    ((Call prog clsT X d 206 [(2, 89), (0, x1), (0, x2)] ((mk E c s (hh (up g 89 0 1))))).bind fun r1 => if r1.1.1 = 4 then none else
      Ev prog clsT X d mc205 23 [(2, 89), (0, x1), (0, x2)] (pushR r1.1 []) r1.2)
  else
    (Ev prog clsT X d mc205 23 [(2, 89), (0, x1), (0, x2)] [(0, 0)] (mk E c s (hh (up g 89 0 1)))))
else
  (if cmpI .ne (((up g 89 0 0) 89 0)) 1 = true then
    ((Call prog clsT X d 206 [(2, 89), (0, x1), (0, x2)] ((mk E c s (hh (up g 89 0 0))))).bind fun r2 => if r2.1.1 = 4 then none else
      Ev prog clsT X d mc205 23 [(2, 89), (0, x1), (0, x2)] (pushR r2.1 []) r2.2)
  else
    (Ev prog clsT X d mc205 23 [(2, 89), (0, x1), (0, x2)] [(0, 0)] (mk E c s (hh (up g 89 0 0)))))) :=
  (evk_at (r := (if cmpI .eq s1 0 = true then
  ((fput 6144 ((mk E c s (hh g))) 89 1).bind fun M1 =>
    (fget 6144 M1 89).bind fun v2 =>
    if cmpI .ne v2 1 = true then
    (if (2 : Nat) = 2 ∧ rcv M1 89 13 = true then
      ((Call prog clsT X d 206 [(2, 89), (0, x1), (0, x2)] M1).bind fun r3 => if r3.1.1 = 4 then none else
      Ev prog clsT X d mc205 23 [(2, 89), (0, x1), (0, x2)] (pushR r3.1 []) r3.2) else none)
  else
    (Ev prog clsT X d mc205 23 [(2, 89), (0, x1), (0, x2)] [(0, 0)] M1))
else
  ((fput 6144 ((mk E c s (hh g))) 89 0).bind fun M4 =>
    (fget 6144 M4 89).bind fun v5 =>
    if cmpI .ne v5 1 = true then
    (if (2 : Nat) = 2 ∧ rcv M4 89 13 = true then
      ((Call prog clsT X d 206 [(2, 89), (0, x1), (0, x2)] M4).bind fun r6 => if r6.1.1 = 4 then none else
      Ev prog clsT X d mc205 23 [(2, 89), (0, x1), (0, x2)] (pushR r6.1 []) r6.2) else none)
  else
    (Ev prog clsT X d mc205 23 [(2, 89), (0, x1), (0, x2)] [(0, 0)] M4)))) X [0, 4, 8, 23] 13 rfl).trans (by simp (disch := decide) only [F6144_89, R89_13, W6144_89, cpy_cell, up_cell, bindI, Option.bind_some, if_true_, and_self, ite_true, true_and, true_or, or_true])
theorem r205_23 (d : Nat) (x1 x2 s0 : Int) : Ev prog clsT X d mc205 23 [(2, 89), (0, x1), (0, x2)] [(0, s0)] (mk E c s (hh g)) =
  (some ((0, s0), ((mk E c s (hh g))))) :=
  (evk_at (r := (some ((0, s0), (mk E c s (hh g))))) X [0, 4, 8, 23] 2 rfl).trans (by simp (disch := decide) only [bindI, Option.bind_some, if_true_, and_self, ite_true, true_and, true_or, or_true])
theorem r206_0 (d : Nat) (x1 x2 : Int) : Ev prog clsT X d mc206 0 [(2, 89), (0, x1), (0, x2)] [] (mk E c s (hh g)) =
  ((Call prog clsT X d 189 [(2, 89), (0, x1)] ((mk E c s (hh g)))).bind fun r1 => if r1.1.1 = 4 then none else
  Ev prog clsT X d mc206 3 [(2, 89), (0, x1), (0, x2)] (pushR r1.1 []) r1.2) :=
  (evk_at (r := (if (2 : Nat) = 2 ∧ rcv ((mk E c s (hh g))) 89 13 = true then
  ((Call prog clsT X d 189 [(2, 89), (0, x1)] ((mk E c s (hh g)))).bind fun r1 => if r1.1.1 = 4 then none else
  Ev prog clsT X d mc206 3 [(2, 89), (0, x1), (0, x2)] (pushR r1.1 []) r1.2) else none)) X [0, 3, 9] 4 rfl).trans (by simp (disch := decide) only [R89_13, bindI, Option.bind_some, if_true_, and_self, ite_true, true_and, true_or, or_true])
theorem rc206_ (d : Nat) (x1 x2 : Int) : Call prog clsT X (d + 1) 206 [(2, 89), (0, x1), (0, x2)] (mk E c s (hh g)) =
  ((Call prog clsT X d 189 [(2, 89), (0, x1)] ((mk E c s (hh g)))).bind fun r1 => if r1.1.1 = 4 then none else
  Ev prog clsT X d mc206 3 [(2, 89), (0, x1), (0, x2)] (pushR r1.1 []) r1.2) :=
  (show Call prog clsT X (d + 1) 206 [(2, 89), (0, x1), (0, x2)] (mk E c s (hh g)) = Ev prog clsT X d mc206 0 [(2, 89), (0, x1), (0, x2)] [] (mk E c s (hh g)) from rfl).trans (r206_0 X E c s g d x1 x2 )
theorem r206_3 (d : Nat) (x1 x2 : Int) : Ev prog clsT X d mc206 3 [(2, 89), (0, x1), (0, x2)] [] (mk E c s (hh g)) =
  (if inb x1 40 = true then
  ((Call prog clsT X d 207 [(2, 89), (0, (g 99 (Int.toNat x1)))] ((mk E c s (hh g)))).bind fun r1 => if r1.1.1 = 4 then none else
  Ev prog clsT X d mc206 9 [(2, 89), (0, x1), (0, x2)] (pushR r1.1 []) r1.2)
else none) :=
  (evk_at (r := ((fget 6190 ((mk E c s (hh g))) 89).bind fun v1 =>
  (aget X 100 ((mk E c s (hh g))) v1 x1).bind fun v2 =>
  if (2 : Nat) = 2 ∧ rcv ((mk E c s (hh g))) 89 13 = true then
  ((Call prog clsT X d 207 [(2, 89), (0, v2)] ((mk E c s (hh g)))).bind fun r3 => if r3.1.1 = 4 then none else
  Ev prog clsT X d mc206 9 [(2, 89), (0, x1), (0, x2)] (pushR r3.1 []) r3.2) else none)) X [0, 3, 9] 7 rfl).trans (by simp (disch := decide) only [A99, F6190_89, R89_13, bindI, Option.bind_some, if_true_, and_self, ite_true, true_and, true_or, or_true])
theorem r206_9 (d : Nat) (x1 x2 s0 : Int) : Ev prog clsT X d mc206 9 [(2, 89), (0, x1), (0, x2)] [(0, s0)] (mk E c s (hh g)) =
  (if inb x1 40 = true then
  (if inb ((g 100 (Int.toNat x1))) 10 = true then
  (if inb ((w32 (((w32 (6 * x2))) + ((g 91 (Int.toNat ((g 100 (Int.toNat x1))))))))) 24 = true then
  (some ((0, (w32 (s0 + ((g 129 (Int.toNat ((w32 (((w32 (6 * x2))) + ((g 91 (Int.toNat ((g 100 (Int.toNat x1))))))))))))))), ((mk E c s (hh g)))))
else none)
else none)
else none) :=
  (evk_at (r := ((fget 6350 ((mk E c s (hh g))) 89).bind fun v1 =>
  (fget 6154 ((mk E c s (hh g))) 89).bind fun v2 =>
  (fget 6194 ((mk E c s (hh g))) 89).bind fun v3 =>
  (aget X 100 ((mk E c s (hh g))) v3 x1).bind fun v4 =>
  (aget X 100 ((mk E c s (hh g))) v2 v4).bind fun v5 =>
  (aget X 100 ((mk E c s (hh g))) v1 ((w32 (((w32 (6 * x2))) + v5)))).bind fun v6 =>
  some ((0, (w32 (s0 + v6))), (mk E c s (hh g))))) X [0, 3, 9] 17 rfl).trans (by simp (disch := decide) only [A100, A129, A91, F6154_89, F6194_89, F6350_89, bindI, Option.bind_some, if_true_, and_self, ite_true, true_and, true_or, or_true])
theorem r207_0 (d : Nat) (x1 : Int) : Ev prog clsT X d mc207 0 [(2, 89), (0, x1)] [] (mk E c s (hh g)) =
  (if inb ((w32 (((w32 (9 * x1))) + 6))) 117 = true then
  (if cmpI .eq ((g 110 (Int.toNat ((w32 (((w32 (9 * x1))) + 6)))))) 0 = true then
  (some ((0, 0), ((mk E c s (hh g)))))
else
  ((Call prog clsT X d 194 [(2, 89), (0, (w32 (((w32 (9 * x1))) + 6)))] ((mk E c s (hh g)))).bind fun r1 => if r1.1.1 = 4 then none else
    Ev prog clsT X d mc207 16 [(2, 89), (0, x1)] (pushR r1.1 []) r1.2))
else none) :=
  (evk_at (r := ((fget 6266 ((mk E c s (hh g))) 89).bind fun v1 =>
  (aget X 102 ((mk E c s (hh g))) v1 ((w32 (((w32 (9 * x1))) + 6)))).bind fun v2 =>
  if cmpI .eq v2 0 = true then
  (some ((0, 0), (mk E c s (hh g))))
else
  (if (2 : Nat) = 2 ∧ rcv ((mk E c s (hh g))) 89 13 = true then
    ((Call prog clsT X d 194 [(2, 89), (0, (w32 (((w32 (9 * x1))) + 6)))] ((mk E c s (hh g)))).bind fun r3 => if r3.1.1 = 4 then none else
    Ev prog clsT X d mc207 16 [(2, 89), (0, x1)] (pushR r3.1 []) r3.2) else none))) X [0, 16] 17 rfl).trans (by simp (disch := decide) only [A110, F6266_89, R89_13, bindI, Option.bind_some, if_true_, and_self, ite_true, true_and, true_or, or_true])
theorem rc207_ (d : Nat) (x1 : Int) : Call prog clsT X (d + 1) 207 [(2, 89), (0, x1)] (mk E c s (hh g)) =
  (if inb ((w32 (((w32 (9 * x1))) + 6))) 117 = true then
  (if cmpI .eq ((g 110 (Int.toNat ((w32 (((w32 (9 * x1))) + 6)))))) 0 = true then
  (some ((0, 0), ((mk E c s (hh g)))))
else
  ((Call prog clsT X d 194 [(2, 89), (0, (w32 (((w32 (9 * x1))) + 6)))] ((mk E c s (hh g)))).bind fun r1 => if r1.1.1 = 4 then none else
    Ev prog clsT X d mc207 16 [(2, 89), (0, x1)] (pushR r1.1 []) r1.2))
else none) :=
  (show Call prog clsT X (d + 1) 207 [(2, 89), (0, x1)] (mk E c s (hh g)) = Ev prog clsT X d mc207 0 [(2, 89), (0, x1)] [] (mk E c s (hh g)) from rfl).trans (r207_0 X E c s g d x1 )
theorem r207_16 (d : Nat) (x1 s0 : Int) : Ev prog clsT X d mc207 16 [(2, 89), (0, x1)] [(0, s0)] (mk E c s (hh g)) =
  (some ((0, s0), ((mk E c s (hh g))))) :=
  (evk_at (r := (some ((0, s0), (mk E c s (hh g))))) X [0, 16] 3 rfl).trans (by simp (disch := decide) only [bindI, Option.bind_some, if_true_, and_self, ite_true, true_and, true_or, or_true])
end
