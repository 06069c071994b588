/-! Part 51.r05: printed by wip/whole/emit6.py: equations with the fixed cells put in. -/
section
variable (X : MExt) (E : List (Nat × Nat)) (c s : Nat) (g : Nat → Nat → Int)
set_option maxRecDepth 100000 in
theorem r151_0 (d : Nat) (x1 x2 x3 x4 : Int) : Ev prog clsT X d mc151 0 [(2, 89), (0, x1), (0, x2), (0, x3), (0, x4)] [] (mk E c s (hh g)) =
  ((Call prog clsT X d 152 [(0, x1), (0, 0), (0, 9)] ((mk E c s (hh (up g 89 0 0))))).bind fun r1 => if r1.1.1 = 4 then none else
  Ev prog clsT X d mc151 7 [(2, 89), (0, x1), (0, x2), (0, x3), (0, x4)] (pushR r1.1 []) r1.2) :=
  (evk_at (r := ((fput 6144 ((mk E c s (hh g))) 89 0).bind fun M1 =>
  (Call prog clsT X d 152 [(0, x1), (0, 0), (0, 9)] M1).bind fun r2 => if r2.1.1 = 4 then none else
  Ev prog clsT X d mc151 7 [(2, 89), (0, x1), (0, x2), (0, x3), (0, x4)] (pushR r2.1 []) r2.2)) X [0, 7, 12, 17] 8 rfl).trans (by simp (maxSteps := 10000000) only [↓W6144_89, bindI, Option.bind_some, if_true_, and_self, ite_true, true_and, true_or, or_true])
set_option maxRecDepth 100000 in
theorem rc151_ (d : Nat) (x1 x2 x3 x4 : Int) : Call prog clsT X (d + 1) 151 [(2, 89), (0, x1), (0, x2), (0, x3), (0, x4)] (mk E c s (hh g)) =
  ((Call prog clsT X d 152 [(0, x1), (0, 0), (0, 9)] ((mk E c s (hh (up g 89 0 0))))).bind fun r1 => if r1.1.1 = 4 then none else
  Ev prog clsT X d mc151 7 [(2, 89), (0, x1), (0, x2), (0, x3), (0, x4)] (pushR r1.1 []) r1.2) :=
  (show Call prog clsT X (d + 1) 151 [(2, 89), (0, x1), (0, x2), (0, x3), (0, x4)] (mk E c s (hh g)) = Ev prog clsT X d mc151 0 [(2, 89), (0, x1), (0, x2), (0, x3), (0, x4)] [] (mk E c s (hh g)) from rfl).trans (r151_0 X E c s g d x1 x2 x3 x4 )
set_option maxRecDepth 100000 in
theorem r151_7 (d : Nat) (x1 x2 x3 x4 s0 : Int) : Ev prog clsT X d mc151 7 [(2, 89), (0, x1), (0, x2), (0, x3), (0, x4)] [(0, s0)] (mk E c s (hh g)) =
  (if cmpI .eq s0 0 = true then
  (some ((0, 0), ((mk E c s (hh g)))))
else
  ((Call prog clsT X d 152 [(0, x2), (0, 0), (0, 5)] ((mk E c s (hh g)))).bind fun r1 => if r1.1.1 = 4 then none else
    Ev prog clsT X d mc151 12 [(2, 89), (0, x1), (0, x2), (0, x3), (0, x4)] (pushR r1.1 []) r1.2)) :=
  (evk_at (r := (if cmpI .eq s0 0 = true then
  (some ((0, 0), (mk E c s (hh g))))
else
  ((Call prog clsT X d 152 [(0, x2), (0, 0), (0, 5)] ((mk E c s (hh g)))).bind fun r1 => if r1.1.1 = 4 then none else
    Ev prog clsT X d mc151 12 [(2, 89), (0, x1), (0, x2), (0, x3), (0, x4)] (pushR r1.1 []) r1.2))) X [0, 7, 12, 17] 6 rfl).trans (by simp (maxSteps := 10000000) only [bindI, Option.bind_some, if_true_, and_self, ite_true, true_and, true_or, or_true])
set_option maxRecDepth 100000 in
theorem r151_12 (d : Nat) (x1 x2 x3 x4 s0 : Int) : Ev prog clsT X d mc151 12 [(2, 89), (0, x1), (0, x2), (0, x3), (0, x4)] [(0, s0)] (mk E c s (hh g)) =
  (if cmpI .eq s0 0 = true then
  (some ((0, 0), ((mk E c s (hh g)))))
else
  ((Call prog clsT X d 152 [(0, x3), (0, 1), (0, 99)] ((mk E c s (hh g)))).bind fun r1 => if r1.1.1 = 4 then none else
    Ev prog clsT X d mc151 17 [(2, 89), (0, x1), (0, x2), (0, x3), (0, x4)] (pushR r1.1 []) r1.2)) :=
  (evk_at (r := (if cmpI .eq s0 0 = true then
  (some ((0, 0), (mk E c s (hh g))))
else
  ((Call prog clsT X d 152 [(0, x3), (0, 1), (0, 99)] ((mk E c s (hh g)))).bind fun r1 => if r1.1.1 = 4 then none else
    Ev prog clsT X d mc151 17 [(2, 89), (0, x1), (0, x2), (0, x3), (0, x4)] (pushR r1.1 []) r1.2))) X [0, 7, 12, 17] 6 rfl).trans (by simp (maxSteps := 10000000) only [bindI, Option.bind_some, if_true_, and_self, ite_true, true_and, true_or, or_true])
set_option maxRecDepth 100000 in
theorem r151_17 (d : Nat) (x1 x2 x3 x4 s0 : Int) : Ev prog clsT X d mc151 17 [(2, 89), (0, x1), (0, x2), (0, x3), (0, x4)] [(0, s0)] (mk E c s (hh g)) =
  (if cmpI .ne s0 0 = true then
  (if inb x1 10 = true then
    (if inb x1 10 = true then
    (if inb x1 10 = true then
    (if inb x1 10 = true then
    (some ((0, 1), ((mk E c s (hh (up (up (up (up g 90 (Int.toNat x1) (bit1 (1))) 91 (Int.toNat x1) x2) 92 (Int.toNat x1) x3) 93 (Int.toNat x1) (bit1 (x4))))))))
  else none)
  else none)
  else none)
  else none)
else
  (some ((0, 0), ((mk E c s (hh g)))))) :=
  (evk_at (r := (if cmpI .ne s0 0 = true then
  ((fget 6150 ((mk E c s (hh g))) 89).bind fun v1 =>
    (aput 102 ((mk E c s (hh g))) v1 x1 (bit1 (1))).bind fun M2 =>
    (fget 6154 M2 89).bind fun v3 =>
    (aput 100 M2 v3 x1 (x2)).bind fun M4 =>
    (fget 6158 M4 89).bind fun v5 =>
    (aput 100 M4 v5 x1 (x3)).bind fun M6 =>
    (fget 6162 M6 89).bind fun v7 =>
    (aput 102 M6 v7 x1 (bit1 (x4))).bind fun M8 =>
    some ((0, 1), M8))
else
  (some ((0, 0), (mk E c s (hh g)))))) X [0, 7, 12, 17] 24 rfl).trans (by simp (maxSteps := 10000000) only [↓F6150_89, ↓F6154_89, ↓F6158_89, ↓F6162_89, ↓S90, ↓S91, ↓S92, ↓S93, bindI, Option.bind_some, if_true_, and_self, ite_true, true_and, true_or, or_true])
set_option maxRecDepth 100000 in
theorem r152_0 (d : Nat) (x0 x1 x2 : Int) : Ev prog clsT X d mc152 0 [(0, x0), (0, x1), (0, x2)] [] (mk E c s (hh g)) =
  (if cmpI .lt x0 x1 = true then
  (some ((0, 0), ((mk E c s (hh g)))))
else
  (if cmpI .gt x0 x2 = true then
    (some ((0, 0), ((mk E c s (hh g)))))
  else
    (some ((0, 1), ((mk E c s (hh g))))))) :=
  (evk_at (r := (if cmpI .lt x0 x1 = true then
  (some ((0, 0), (mk E c s (hh g))))
else
  (if cmpI .gt x0 x2 = true then
    (some ((0, 0), (mk E c s (hh g))))
  else
    (some ((0, 1), (mk E c s (hh g))))))) X [0] 10 rfl).trans (by simp (maxSteps := 10000000) only [bindI, Option.bind_some, if_true_, and_self, ite_true, true_and, true_or, or_true])
set_option maxRecDepth 100000 in
theorem rc152_ (d : Nat) (x0 x1 x2 : Int) : Call prog clsT X (d + 1) 152 [(0, x0), (0, x1), (0, x2)] (mk E c s (hh g)) =
  (if cmpI .lt x0 x1 = true then
  (some ((0, 0), ((mk E c s (hh g)))))
else
  (if cmpI .gt x0 x2 = true then
    (some ((0, 0), ((mk E c s (hh g)))))
  else
    (some ((0, 1), ((mk E c s (hh g))))))) :=
  (show Call prog clsT X (d + 1) 152 [(0, x0), (0, x1), (0, x2)] (mk E c s (hh g)) = Ev prog clsT X d mc152 0 [(0, x0), (0, x1), (0, x2)] [] (mk E c s (hh g)) from rfl).trans (r152_0 X E c s g d x0 x1 x2 )
set_option maxRecDepth 100000 in
theorem r153_0 (d : Nat) (x1 x2 x3 x4 x5 : Int) : Ev prog clsT X d mc153 0 [(2, 89), (0, x1), (0, x2), (0, x3), (0, x4), (0, x5)] [] (mk E c s (hh g)) =
  ((Call prog clsT X d 152 [(0, x1), (0, 0), (0, 39)] ((mk E c s (hh (up g 89 0 0))))).bind fun r1 => if r1.1.1 = 4 then none else
  Ev prog clsT X d mc153 7 [(2, 89), (0, x1), (0, x2), (0, x3), (0, x4), (0, x5)] (pushR r1.1 []) r1.2) :=
  (evk_at (r := ((fput 6144 ((mk E c s (hh g))) 89 0).bind fun M1 =>
  (Call prog clsT X d 152 [(0, x1), (0, 0), (0, 39)] M1).bind fun r2 => if r2.1.1 = 4 then none else
  Ev prog clsT X d mc153 7 [(2, 89), (0, x1), (0, x2), (0, x3), (0, x4), (0, x5)] (pushR r2.1 []) r2.2)) X [0, 7, 11, 16, 21, 26, 31] 8 rfl).trans (by simp (maxSteps := 10000000) only [↓W6144_89, bindI, Option.bind_some, if_true_, and_self, ite_true, true_and, true_or, or_true])
set_option maxRecDepth 100000 in
theorem rc153_ (d : Nat) (x1 x2 x3 x4 x5 : Int) : Call prog clsT X (d + 1) 153 [(2, 89), (0, x1), (0, x2), (0, x3), (0, x4), (0, x5)] (mk E c s (hh g)) =
  ((Call prog clsT X d 152 [(0, x1), (0, 0), (0, 39)] ((mk E c s (hh (up g 89 0 0))))).bind fun r1 => if r1.1.1 = 4 then none else
  Ev prog clsT X d mc153 7 [(2, 89), (0, x1), (0, x2), (0, x3), (0, x4), (0, x5)] (pushR r1.1 []) r1.2) :=
  (show Call prog clsT X (d + 1) 153 [(2, 89), (0, x1), (0, x2), (0, x3), (0, x4), (0, x5)] (mk E c s (hh g)) = Ev prog clsT X d mc153 0 [(2, 89), (0, x1), (0, x2), (0, x3), (0, x4), (0, x5)] [] (mk E c s (hh g)) from rfl).trans (r153_0 X E c s g d x1 x2 x3 x4 x5 )
set_option maxRecDepth 100000 in
theorem r153_7 (d : Nat) (x1 x2 x3 x4 x5 s0 : Int) : Ev prog clsT X d mc153 7 [(2, 89), (0, x1), (0, x2), (0, x3), (0, x4), (0, x5)] [(0, s0)] (mk E c s (hh g)) =
  (if cmpI .eq s0 0 = true then
  (some ((0, 0), ((mk E c s (hh g)))))
else
  ((Call prog clsT X d 154 [(2, 89), (0, x2)] ((mk E c s (hh g)))).bind fun r1 => if r1.1.1 = 4 then none else
    Ev prog clsT X d mc153 11 [(2, 89), (0, x1), (0, x2), (0, x3), (0, x4), (0, x5)] (pushR r1.1 []) r1.2)) :=
  (evk_at (r := (if cmpI .eq s0 0 = true then
  (some ((0, 0), (mk E c s (hh g))))
else
  (if (2 : Nat) = 2 ∧ rcv ((mk E c s (hh g))) 89 13 = true then
    ((Call prog clsT X d 154 [(2, 89), (0, x2)] ((mk E c s (hh g)))).bind fun r1 => if r1.1.1 = 4 then none else
    Ev prog clsT X d mc153 11 [(2, 89), (0, x1), (0, x2), (0, x3), (0, x4), (0, x5)] (pushR r1.1 []) r1.2) else none))) X [0, 7, 11, 16, 21, 26, 31] 5 rfl).trans (by simp (maxSteps := 10000000) only [R89_13, bindI, Option.bind_some, if_true_, and_self, ite_true, true_and, true_or, or_true])
set_option maxRecDepth 100000 in
theorem r153_11 (d : Nat) (x1 x2 x3 x4 x5 s0 : Int) : Ev prog clsT X d mc153 11 [(2, 89), (0, x1), (0, x2), (0, x3), (0, x4), (0, x5)] [(0, s0)] (mk E c s (hh g)) =
  (if cmpI .eq s0 0 = true then
  (some ((0, 0), ((mk E c s (hh g)))))
else
  ((Call prog clsT X d 152 [(0, x3), (0, 0), (0, 9)] ((mk E c s (hh g)))).bind fun r1 => if r1.1.1 = 4 then none else
    Ev prog clsT X d mc153 16 [(2, 89), (0, x1), (0, x2), (0, x3), (0, x4), (0, x5)] (pushR r1.1 []) r1.2)) :=
  (evk_at (r := (if cmpI .eq s0 0 = true then
  (some ((0, 0), (mk E c s (hh g))))
else
  ((Call prog clsT X d 152 [(0, x3), (0, 0), (0, 9)] ((mk E c s (hh g)))).bind fun r1 => if r1.1.1 = 4 then none else
    Ev prog clsT X d mc153 16 [(2, 89), (0, x1), (0, x2), (0, x3), (0, x4), (0, x5)] (pushR r1.1 []) r1.2))) X [0, 7, 11, 16, 21, 26, 31] 6 rfl).trans (by simp (maxSteps := 10000000) only [bindI, Option.bind_some, if_true_, and_self, ite_true, true_and, true_or, or_true])
set_option maxRecDepth 100000 in
theorem r153_16 (d : Nat) (x1 x2 x3 x4 x5 s0 : Int) : Ev prog clsT X d mc153 16 [(2, 89), (0, x1), (0, x2), (0, x3), (0, x4), (0, x5)] [(0, s0)] (mk E c s (hh g)) =
  (if cmpI .eq s0 0 = true then
  (some ((0, 0), ((mk E c s (hh g)))))
else
  ((Call prog clsT X d 152 [(0, x4), (0, 1), (0, 99)] ((mk E c s (hh g)))).bind fun r1 => if r1.1.1 = 4 then none else
    Ev prog clsT X d mc153 21 [(2, 89), (0, x1), (0, x2), (0, x3), (0, x4), (0, x5)] (pushR r1.1 []) r1.2)) :=
  (evk_at (r := (if cmpI .eq s0 0 = true then
  (some ((0, 0), (mk E c s (hh g))))
else
  ((Call prog clsT X d 152 [(0, x4), (0, 1), (0, 99)] ((mk E c s (hh g)))).bind fun r1 => if r1.1.1 = 4 then none else
    Ev prog clsT X d mc153 21 [(2, 89), (0, x1), (0, x2), (0, x3), (0, x4), (0, x5)] (pushR r1.1 []) r1.2))) X [0, 7, 11, 16, 21, 26, 31] 6 rfl).trans (by simp (maxSteps := 10000000) only [bindI, Option.bind_some, if_true_, and_self, ite_true, true_and, true_or, or_true])
set_option maxRecDepth 100000 in
theorem r153_21 (d : Nat) (x1 x2 x3 x4 x5 s0 : Int) : Ev prog clsT X d mc153 21 [(2, 89), (0, x1), (0, x2), (0, x3), (0, x4), (0, x5)] [(0, s0)] (mk E c s (hh g)) =
  (if cmpI .eq s0 0 = true then
  (some ((0, 0), ((mk E c s (hh g)))))
else
  ((Call prog clsT X d 152 [(0, x5), (0, 0), (0, 9)] ((mk E c s (hh g)))).bind fun r1 => if r1.1.1 = 4 then none else
    Ev prog clsT X d mc153 26 [(2, 89), (0, x1), (0, x2), (0, x3), (0, x4), (0, x5)] (pushR r1.1 []) r1.2)) :=
  (evk_at (r := (if cmpI .eq s0 0 = true then
  (some ((0, 0), (mk E c s (hh g))))
else
  ((Call prog clsT X d 152 [(0, x5), (0, 0), (0, 9)] ((mk E c s (hh g)))).bind fun r1 => if r1.1.1 = 4 then none else
    Ev prog clsT X d mc153 26 [(2, 89), (0, x1), (0, x2), (0, x3), (0, x4), (0, x5)] (pushR r1.1 []) r1.2))) X [0, 7, 11, 16, 21, 26, 31] 6 rfl).trans (by simp (maxSteps := 10000000) only [bindI, Option.bind_some, if_true_, and_self, ite_true, true_and, true_or, or_true])
set_option maxRecDepth 100000 in
theorem r153_26 (d : Nat) (x1 x2 x3 x4 x5 s0 : Int) : Ev prog clsT X d mc153 26 [(2, 89), (0, x1), (0, x2), (0, x3), (0, x4), (0, x5)] [(0, s0)] (mk E c s (hh g)) =
  (if cmpI .ne s0 0 = true then
  ((Call prog clsT X d 155 [(2, 89)] ((mk E c s (hh g)))).bind fun r1 => if r1.1.1 = 4 then none else
    Ev prog clsT X d mc153 31 [(2, 89), (0, x1), (0, x2), (0, x3), (0, x4), (0, x5)] (pushR r1.1 []) r1.2)
else
  (some ((0, 0), ((mk E c s (hh g)))))) :=
  (evk_at (r := (if cmpI .ne s0 0 = true then
  (if (2 : Nat) = 2 ∧ rcv ((mk E c s (hh g))) 89 13 = true then
    ((Call prog clsT X d 155 [(2, 89)] ((mk E c s (hh g)))).bind fun r1 => if r1.1.1 = 4 then none else
    Ev prog clsT X d mc153 31 [(2, 89), (0, x1), (0, x2), (0, x3), (0, x4), (0, x5)] (pushR r1.1 []) r1.2) else none)
else
  (some ((0, 0), (mk E c s (hh g)))))) X [0, 7, 11, 16, 21, 26, 31] 4 rfl).trans (by simp (maxSteps := 10000000) only [R89_13, bindI, Option.bind_some, if_true_, and_self, ite_true, true_and, true_or, or_true])
set_option maxRecDepth 100000 in
theorem r153_31 (d : Nat) (x1 x2 x3 x4 x5 s0 : Int) : Ev prog clsT X d mc153 31 [(2, 89), (0, x1), (0, x2), (0, x3), (0, x4), (0, x5)] [(1, s0)] (mk E c s (hh g)) =
  (if cmpI .ne ((lcmpI ((land64 ((lshr64 s0 x1)) 1)) 1)) 0 = true then
  (if inb x1 40 = true then
    (if inb x1 40 = true then
    (if inb x1 40 = true then
    (if inb x1 40 = true then
    (if inb x1 40 = true then
    (some ((0, 1), ((mk E c s (hh (up (up (up (up (up g 94 (Int.toNat x1) (bit1 (1))) 95 (Int.toNat x1) x2) 96 (Int.toNat x1) x3) 97 (Int.toNat x1) x4) 98 (Int.toNat x1) x5))))))
  else none)
  else none)
  else none)
  else none)
  else none)
else
  (some ((0, 0), ((mk E c s (hh g)))))) :=
  (evk_at (r := (if cmpI .ne ((lcmpI ((land64 ((lshr64 s0 x1)) 1)) 1)) 0 = true then
  ((fget 6166 ((mk E c s (hh g))) 89).bind fun v1 =>
    (aput 102 ((mk E c s (hh g))) v1 x1 (bit1 (1))).bind fun M2 =>
    (fget 6170 M2 89).bind fun v3 =>
    (aput 100 M2 v3 x1 (x2)).bind fun M4 =>
    (fget 6174 M4 89).bind fun v5 =>
    (aput 100 M4 v5 x1 (x3)).bind fun M6 =>
    (fget 6178 M6 89).bind fun v7 =>
    (aput 100 M6 v7 x1 (x4)).bind fun M8 =>
    (fget 6182 M8 89).bind fun v9 =>
    (aput 100 M8 v9 x1 (x5)).bind fun M10 =>
    some ((0, 1), M10))
else
  (some ((0, 0), (mk E c s (hh g)))))) X [0, 7, 11, 16, 21, 26, 31] 35 rfl).trans (by simp (maxSteps := 10000000) only [↓F6166_89, ↓F6170_89, ↓F6174_89, ↓F6178_89, ↓F6182_89, ↓S94, ↓S95, ↓S96, ↓S97, ↓S98, bindI, Option.bind_some, if_true_, and_self, ite_true, true_and, true_or, or_true])
set_option maxRecDepth 100000 in
theorem r154_0 (d : Nat) (x1 : Int) : Ev prog clsT X d mc154 0 [(2, 89), (0, x1)] [] (mk E c s (hh g)) =
  ((Call prog clsT X d 152 [(0, x1), (0, 0), (0, 9)] ((mk E c s (hh g)))).bind fun r1 => if r1.1.1 = 4 then none else
  Ev prog clsT X d mc154 4 [(2, 89), (0, x1)] (pushR r1.1 []) r1.2) :=
  evk_at X [0, 4] 5 rfl
set_option maxRecDepth 100000 in
theorem rc154_ (d : Nat) (x1 : Int) : Call prog clsT X (d + 1) 154 [(2, 89), (0, x1)] (mk E c s (hh g)) =
  ((Call prog clsT X d 152 [(0, x1), (0, 0), (0, 9)] ((mk E c s (hh g)))).bind fun r1 => if r1.1.1 = 4 then none else
  Ev prog clsT X d mc154 4 [(2, 89), (0, x1)] (pushR r1.1 []) r1.2) :=
  (show Call prog clsT X (d + 1) 154 [(2, 89), (0, x1)] (mk E c s (hh g)) = Ev prog clsT X d mc154 0 [(2, 89), (0, x1)] [] (mk E c s (hh g)) from rfl).trans (r154_0 X E c s g d x1 )
set_option maxRecDepth 100000 in
theorem r154_4 (d : Nat) (x1 s0 : Int) : Ev prog clsT X d mc154 4 [(2, 89), (0, x1)] [(0, s0)] (mk E c s (hh g)) =
  (if cmpI .eq s0 0 = true then
  (some ((0, 0), ((mk E c s (hh g)))))
else
  (if inb x1 10 = true then
    (if cmpI .eq ((g 90 (Int.toNat x1))) 0 = true then
    (some ((0, 0), ((mk E c s (hh g)))))
  else
    (some ((0, 1), ((mk E c s (hh g))))))
  else none)) :=
  (evk_at (r := (if cmpI .eq s0 0 = true then
  (some ((0, 0), (mk E c s (hh g))))
else
  ((fget 6150 ((mk E c s (hh g))) 89).bind fun v1 =>
    (aget X 102 ((mk E c s (hh g))) v1 x1).bind fun v2 =>
    if cmpI .eq v2 0 = true then
    (some ((0, 0), (mk E c s (hh g))))
  else
    (some ((0, 1), (mk E c s (hh g))))))) X [0, 4] 10 rfl).trans (by simp (maxSteps := 10000000) only [↓A90, ↓F6150_89, bindI, Option.bind_some, if_true_, and_self, ite_true, true_and, true_or, or_true])
set_option maxRecDepth 100000 in
theorem r155_0 (d : Nat) : Ev prog clsT X d mc155 0 [(2, 89), (3, 0), (3, 0), (3, 0)] [] (mk E c s (hh g)) =
  (Ev prog clsT X d mc155 4 [(2, 89), (1, 0), (3, 0), (0, 0)] [] (mk E c s (hh g))) :=
  evk_at X [0, 4] 6 rfl
set_option maxRecDepth 100000 in
theorem rc155_ (d : Nat) : Call prog clsT X (d + 1) 155 [(2, 89)] (mk E c s (hh g)) =
  (Ev prog clsT X d mc155 4 [(2, 89), (1, 0), (3, 0), (0, 0)] [] (mk E c s (hh g))) :=
  (show Call prog clsT X (d + 1) 155 [(2, 89)] (mk E c s (hh g)) = Ev prog clsT X d mc155 0 [(2, 89), (3, 0), (3, 0), (3, 0)] [] (mk E c s (hh g)) from rfl).trans (r155_0 X E c s g d  )
set_option maxRecDepth 100000 in
theorem r155_4 (d : Nat) (x1 x3 : Int) (w2 : MV) : Ev prog clsT X d mc155 4 [(2, 89), (1, x1), w2, (0, x3)] [] (mk E c s (hh g)) =
  (if cmpI .ge x3 ((g 89 10)) = true then
  (some ((1, x1), ((mk E c s (hh g)))))
else
  (if inb x3 40 = true then
    (if cmpI .eq ((g 104 (Int.toNat x3))) 0 = true then
    (if inb x3 40 = true then
      (Ev prog clsT X d mc155 4 [(2, 89), (1, (lor64 x1 ((g 101 (Int.toNat x3))))), (3, 0), (0, (w32 (x3 + 1)))] [] (mk E c s (hh g)))
    else none)
  else
    (Ev prog clsT X d mc155 4 [(2, 89), (1, (lor64 x1 0)), (3, 0), (0, (w32 (x3 + 1)))] [] (mk E c s (hh g))))
  else none)) :=
  (evk_at (r := ((fget 6184 ((mk E c s (hh g))) 89).bind fun v1 =>
  if cmpI .ge x3 v1 = true then
  (some ((1, x1), (mk E c s (hh g))))
else
  ((fget 6210 ((mk E c s (hh g))) 89).bind fun v2 =>
    (aget X 102 ((mk E c s (hh g))) v2 x3).bind fun v3 =>
    if cmpI .eq v3 0 = true then
    ((fget 6198 ((mk E c s (hh g))) 89).bind fun v4 =>
      (aget X 101 ((mk E c s (hh g))) v4 x3).bind fun v5 =>
      Ev prog clsT X d mc155 4 [(2, 89), (1, (lor64 x1 v5)), (3, 0), (0, (w32 (x3 + 1)))] [] (mk E c s (hh g)))
  else
    (Ev prog clsT X d mc155 4 [(2, 89), (1, (lor64 x1 0)), (3, 0), (0, (w32 (x3 + 1)))] [] (mk E c s (hh g)))))) X [0, 4] 20 rfl).trans (by simp (maxSteps := 10000000) only [↓A101, ↓A104, ↓F6184_89, ↓F6198_89, ↓F6210_89, bindI, Option.bind_some, if_true_, and_self, ite_true, true_and, true_or, or_true])
set_option maxRecDepth 100000 in
theorem r156_0 (d : Nat) (x1 x2 x3 x5 : Int) : Ev prog clsT X d mc156 0 [(2, 89), (0, x1), (0, x2), (1, x3), (3, 0), (0, x5)] [] (mk E c s (hh g)) =
  ((Call prog clsT X d 157 [(2, 89), (0, x1)] ((mk E c s (hh (up g 89 0 0))))).bind fun r1 => if r1.1.1 = 4 then none else
  Ev prog clsT X d mc156 6 [(2, 89), (0, x1), (0, x2), (1, x3), (3, 0), (0, x5)] (pushR r1.1 []) r1.2) :=
  (evk_at (r := ((fput 6144 ((mk E c s (hh g))) 89 0).bind fun M1 =>
  if (2 : Nat) = 2 ∧ rcv M1 89 13 = true then
  ((Call prog clsT X d 157 [(2, 89), (0, x1)] M1).bind fun r2 => if r2.1.1 = 4 then none else
  Ev prog clsT X d mc156 6 [(2, 89), (0, x1), (0, x2), (1, x3), (3, 0), (0, x5)] (pushR r2.1 []) r2.2) else none)) X [0, 6, 10, 21, 24, 29, 40, 44] 7 rfl).trans (by simp (maxSteps := 10000000) only [R89_13, ↓W6144_89, bindI, Option.bind_some, if_true_, and_self, ite_true, true_and, true_or, or_true])
set_option maxRecDepth 100000 in
theorem rc156_ (d : Nat) (x1 x2 x3 x5 : Int) : Call prog clsT X (d + 1) 156 [(2, 89), (0, x1), (0, x2), (1, x3), (0, x5)] (mk E c s (hh g)) =
  ((Call prog clsT X d 157 [(2, 89), (0, x1)] ((mk E c s (hh (up g 89 0 0))))).bind fun r1 => if r1.1.1 = 4 then none else
  Ev prog clsT X d mc156 6 [(2, 89), (0, x1), (0, x2), (1, x3), (3, 0), (0, x5)] (pushR r1.1 []) r1.2) :=
  (show Call prog clsT X (d + 1) 156 [(2, 89), (0, x1), (0, x2), (1, x3), (0, x5)] (mk E c s (hh g)) = Ev prog clsT X d mc156 0 [(2, 89), (0, x1), (0, x2), (1, x3), (3, 0), (0, x5)] [] (mk E c s (hh g)) from rfl).trans (r156_0 X E c s g d x1 x2 x3 x5 )
set_option maxRecDepth 100000 in
theorem r156_6 (d : Nat) (x1 x2 x3 x5 s0 : Int) : Ev prog clsT X d mc156 6 [(2, 89), (0, x1), (0, x2), (1, x3), (3, 0), (0, x5)] [(0, s0)] (mk E c s (hh g)) =
  (if cmpI .eq s0 0 = true then
  (some ((0, (-1)), ((mk E c s (hh g)))))
else
  ((Call prog clsT X d 154 [(2, 89), (0, x2)] ((mk E c s (hh g)))).bind fun r1 => if r1.1.1 = 4 then none else
    Ev prog clsT X d mc156 10 [(2, 89), (0, x1), (0, x2), (1, x3), (3, 0), (0, x5)] (pushR r1.1 []) r1.2)) :=
  (evk_at (r := (if cmpI .eq s0 0 = true then
  (some ((0, (-1)), (mk E c s (hh g))))
else
  (if (2 : Nat) = 2 ∧ rcv ((mk E c s (hh g))) 89 13 = true then
    ((Call prog clsT X d 154 [(2, 89), (0, x2)] ((mk E c s (hh g)))).bind fun r1 => if r1.1.1 = 4 then none else
    Ev prog clsT X d mc156 10 [(2, 89), (0, x1), (0, x2), (1, x3), (3, 0), (0, x5)] (pushR r1.1 []) r1.2) else none))) X [0, 6, 10, 21, 24, 29, 40, 44] 5 rfl).trans (by simp (maxSteps := 10000000) only [R89_13, bindI, Option.bind_some, if_true_, and_self, ite_true, true_and, true_or, or_true])
set_option maxRecDepth 100000 in
theorem r156_10 (d : Nat) (x1 x2 x3 x5 s0 : Int) : Ev prog clsT X d mc156 10 [(2, 89), (0, x1), (0, x2), (1, x3), (3, 0), (0, x5)] [(0, s0)] (mk E c s (hh g)) =
  (if cmpI .eq s0 0 = true then
  (some ((0, (-1)), ((mk E c s (hh g)))))
else
  (if cmpI .lt ((lcmpI x3 0)) 0 = true then
    (some ((0, (-1)), ((mk E c s (hh g)))))
  else
    (if cmpI .ge ((lcmpI x3 1099511627776)) 0 = true then
      (some ((0, (-1)), ((mk E c s (hh g)))))
    else
      ((Call prog clsT X d 158 [(1, x3)] ((mk E c s (hh g)))).bind fun r1 => if r1.1.1 = 4 then none else
        Ev prog clsT X d mc156 21 [(2, 89), (0, x1), (0, x2), (1, x3), (3, 0), (0, x5)] (pushR r1.1 []) r1.2)))) :=
  (evk_at (r := (if cmpI .eq s0 0 = true then
  (some ((0, (-1)), (mk E c s (hh g))))
else
  (if cmpI .lt ((lcmpI x3 0)) 0 = true then
    (some ((0, (-1)), (mk E c s (hh g))))
  else
    (if cmpI .ge ((lcmpI x3 1099511627776)) 0 = true then
      (some ((0, (-1)), (mk E c s (hh g))))
    else
      ((Call prog clsT X d 158 [(1, x3)] ((mk E c s (hh g)))).bind fun r1 => if r1.1.1 = 4 then none else
        Ev prog clsT X d mc156 21 [(2, 89), (0, x1), (0, x2), (1, x3), (3, 0), (0, x5)] (pushR r1.1 []) r1.2))))) X [0, 6, 10, 21, 24, 29, 40, 44] 12 rfl).trans (by simp (maxSteps := 10000000) only [bindI, Option.bind_some, if_true_, and_self, ite_true, true_and, true_or, or_true])
set_option maxRecDepth 100000 in
theorem r156_21 (d : Nat) (x1 x2 x3 x5 s0 : Int) : Ev prog clsT X d mc156 21 [(2, 89), (0, x1), (0, x2), (1, x3), (3, 0), (0, x5)] [(0, s0)] (mk E c s (hh g)) =
  ((Call prog clsT X d 152 [(0, s0), (0, 1), (0, 8)] ((mk E c s (hh g)))).bind fun r1 => if r1.1.1 = 4 then none else
  Ev prog clsT X d mc156 24 [(2, 89), (0, x1), (0, x2), (1, x3), (3, 0), (0, x5)] (pushR r1.1 []) r1.2) :=
  evk_at X [0, 6, 10, 21, 24, 29, 40, 44] 4 rfl
set_option maxRecDepth 100000 in
theorem r156_24 (d : Nat) (x1 x2 x3 x5 s0 : Int) : Ev prog clsT X d mc156 24 [(2, 89), (0, x1), (0, x2), (1, x3), (3, 0), (0, x5)] [(0, s0)] (mk E c s (hh g)) =
  (if cmpI .eq s0 0 = true then
  (some ((0, (-1)), ((mk E c s (hh g)))))
else
  ((Call prog clsT X d 152 [(0, x5), (0, 0), (0, 9)] ((mk E c s (hh g)))).bind fun r1 => if r1.1.1 = 4 then none else
    Ev prog clsT X d mc156 29 [(2, 89), (0, x1), (0, x2), (1, x3), (3, 0), (0, x5)] (pushR r1.1 []) r1.2)) :=
  (evk_at (r := (if cmpI .eq s0 0 = true then
  (some ((0, (-1)), (mk E c s (hh g))))
else
  ((Call prog clsT X d 152 [(0, x5), (0, 0), (0, 9)] ((mk E c s (hh g)))).bind fun r1 => if r1.1.1 = 4 then none else
    Ev prog clsT X d mc156 29 [(2, 89), (0, x1), (0, x2), (1, x3), (3, 0), (0, x5)] (pushR r1.1 []) r1.2))) X [0, 6, 10, 21, 24, 29, 40, 44] 6 rfl).trans (by simp (maxSteps := 10000000) only [bindI, Option.bind_some, if_true_, and_self, ite_true, true_and, true_or, or_true])
set_option maxRecDepth 100000 in
theorem r156_29 (d : Nat) (x1 x2 x3 x5 s0 : Int) : Ev prog clsT X d mc156 29 [(2, 89), (0, x1), (0, x2), (1, x3), (3, 0), (0, x5)] [(0, s0)] (mk E c s (hh g)) =
  (if cmpI .eq s0 0 = true then
  (some ((0, (-1)), ((mk E c s (hh g)))))
else
  (if cmpI .ne ((g 89 10)) 40 = true then
    ((Call prog clsT X d 159 [(2, 89), (1, x3), (0, x2)] ((mk E c s (hh g)))).bind fun r1 => if r1.1.1 = 4 then none else
      Ev prog clsT X d mc156 40 [(2, 89), (0, x1), (0, x2), (1, x3), (3, 0), (0, x5)] (pushR r1.1 []) r1.2)
  else
    (some ((0, (-1)), ((mk E c s (hh g))))))) :=
  (evk_at (r := (if cmpI .eq s0 0 = true then
  (some ((0, (-1)), (mk E c s (hh g))))
else
  ((fget 6184 ((mk E c s (hh g))) 89).bind fun v1 =>
    if cmpI .ne v1 40 = true then
    (if (2 : Nat) = 2 ∧ rcv ((mk E c s (hh g))) 89 13 = true then
      ((Call prog clsT X d 159 [(2, 89), (1, x3), (0, x2)] ((mk E c s (hh g)))).bind fun r2 => if r2.1.1 = 4 then none else
      Ev prog clsT X d mc156 40 [(2, 89), (0, x1), (0, x2), (1, x3), (3, 0), (0, x5)] (pushR r2.1 []) r2.2) else none)
  else
    (some ((0, (-1)), (mk E c s (hh g))))))) X [0, 6, 10, 21, 24, 29, 40, 44] 10 rfl).trans (by simp (maxSteps := 10000000) only [R89_13, ↓F6184_89, bindI, Option.bind_some, if_true_, and_self, ite_true, true_and, true_or, or_true])
set_option maxRecDepth 100000 in
theorem r156_40 (d : Nat) (x1 x2 x3 x5 s0 : Int) : Ev prog clsT X d mc156 40 [(2, 89), (0, x1), (0, x2), (1, x3), (3, 0), (0, x5)] [(0, s0)] (mk E c s (hh g)) =
  (if cmpI .eq s0 0 = true then
  (some ((0, (-1)), ((mk E c s (hh g)))))
else
  ((Call prog clsT X d 155 [(2, 89)] ((mk E c s (hh g)))).bind fun r1 => if r1.1.1 = 4 then none else
    Ev prog clsT X d mc156 44 [(2, 89), (0, x1), (0, x2), (1, x3), (3, 0), (0, x5)] (pushR r1.1 [(1, x3)]) r1.2)) :=
  (evk_at (r := (if cmpI .eq s0 0 = true then
  (some ((0, (-1)), (mk E c s (hh g))))
else
  (if (2 : Nat) = 2 ∧ rcv ((mk E c s (hh g))) 89 13 = true then
    ((Call prog clsT X d 155 [(2, 89)] ((mk E c s (hh g)))).bind fun r1 => if r1.1.1 = 4 then none else
    Ev prog clsT X d mc156 44 [(2, 89), (0, x1), (0, x2), (1, x3), (3, 0), (0, x5)] (pushR r1.1 [(1, x3)]) r1.2) else none))) X [0, 6, 10, 21, 24, 29, 40, 44] 5 rfl).trans (by simp (maxSteps := 10000000) only [R89_13, bindI, Option.bind_some, if_true_, and_self, ite_true, true_and, true_or, or_true])
set_option maxRecDepth 100000 in
theorem r156_44 (d : Nat) (x1 x2 x3 x5 s0 s1 : Int) : Ev prog clsT X d mc156 44 [(2, 89), (0, x1), (0, x2), (1, x3), (3, 0), (0, x5)] [(1, s1), (1, s0)] (mk E c s (hh g)) =
  (if cmpI .eq ((lcmpI ((land64 s0 s1)) 0)) 0 = true then
  (if inb ((g 89 10)) 40 = true then
    (if inb ((g 89 10)) 40 = true then
    (if inb ((g 89 10)) 40 = true then
    (if inb ((g 89 10)) 40 = true then
    (if inb ((g 89 10)) 40 = true then
    (if inb ((g 89 10)) 40 = true then
    (some ((0, (w32 (((((w32 (((g 89 10)) + 1))))) - 1))), ((mk E c s (hh (up (up (up (up (up (up (up g 99 (Int.toNat ((g 89 10))) x1) 100 (Int.toNat ((g 89 10))) x2) 101 (Int.toNat ((g 89 10))) x3) 102 (Int.toNat ((g 89 10))) x5) 103 (Int.toNat ((g 89 10))) 0) 104 (Int.toNat ((g 89 10))) (bit1 (0))) 89 10 ((w32 (((g 89 10)) + 1)))))))))
  else none)
  else none)
  else none)
  else none)
  else none)
  else none)
else
  (some ((0, (-1)), ((mk E c s (hh g)))))) :=
  (evk_at (r := (if cmpI .eq ((lcmpI ((land64 s0 s1)) 0)) 0 = true then
  ((fget 6190 ((mk E c s (hh g))) 89).bind fun v1 =>
    (fget 6184 ((mk E c s (hh g))) 89).bind fun v2 =>
    (aput 100 ((mk E c s (hh g))) v1 v2 (x1)).bind fun M3 =>
    (fget 6194 M3 89).bind fun v4 =>
    (fget 6184 M3 89).bind fun v5 =>
    (aput 100 M3 v4 v5 (x2)).bind fun M6 =>
    (fget 6198 M6 89).bind fun v7 =>
    (fget 6184 M6 89).bind fun v8 =>
    (aput 101 M6 v7 v8 (x3)).bind fun M9 =>
    (fget 6202 M9 89).bind fun v10 =>
    (fget 6184 M9 89).bind fun v11 =>
    (aput 100 M9 v10 v11 (x5)).bind fun M12 =>
    (fget 6206 M12 89).bind fun v13 =>
    (fget 6184 M12 89).bind fun v14 =>
    (aput 100 M12 v13 v14 (0)).bind fun M15 =>
    (fget 6210 M15 89).bind fun v16 =>
    (fget 6184 M15 89).bind fun v17 =>
    (aput 102 M15 v16 v17 (bit1 (0))).bind fun M18 =>
    (fget 6184 M18 89).bind fun v19 =>
    (fput 6184 M18 89 ((w32 (v19 + 1)))).bind fun M20 =>
    (fget 6184 M20 89).bind fun v21 =>
    some ((0, (w32 (v21 - 1))), M20))
else
  (some ((0, (-1)), (mk E c s (hh g)))))) X [0, 6, 10, 21, 24, 29, 40, 44] 52 rfl).trans (by simp (maxSteps := 10000000) only [uc_100_89, uc_101_89, uc_102_89, uc_103_89, uc_104_89, uc_99_89, up_same, ↓F6184_89, ↓F6190_89, ↓F6194_89, ↓F6198_89, ↓F6202_89, ↓F6206_89, ↓F6210_89, ↓S100, ↓S101, ↓S102, ↓S103, ↓S104, ↓S99, ↓W6184_89, bindI, Option.bind_some, if_true_, and_self, ite_true, true_and, true_or, or_true])
set_option maxRecDepth 100000 in
theorem r157_0 (d : Nat) (x1 : Int) : Ev prog clsT X d mc157 0 [(2, 89), (0, x1)] [] (mk E c s (hh g)) =
  ((Call prog clsT X d 152 [(0, x1), (0, 0), (0, 9)] ((mk E c s (hh g)))).bind fun r1 => if r1.1.1 = 4 then none else
  Ev prog clsT X d mc157 4 [(2, 89), (0, x1)] (pushR r1.1 []) r1.2) :=
  evk_at X [0, 4] 5 rfl
set_option maxRecDepth 100000 in
theorem rc157_ (d : Nat) (x1 : Int) : Call prog clsT X (d + 1) 157 [(2, 89), (0, x1)] (mk E c s (hh g)) =
  ((Call prog clsT X d 152 [(0, x1), (0, 0), (0, 9)] ((mk E c s (hh g)))).bind fun r1 => if r1.1.1 = 4 then none else
  Ev prog clsT X d mc157 4 [(2, 89), (0, x1)] (pushR r1.1 []) r1.2) :=
  (show Call prog clsT X (d + 1) 157 [(2, 89), (0, x1)] (mk E c s (hh g)) = Ev prog clsT X d mc157 0 [(2, 89), (0, x1)] [] (mk E c s (hh g)) from rfl).trans (r157_0 X E c s g d x1 )
set_option maxRecDepth 100000 in
theorem r157_4 (d : Nat) (x1 s0 : Int) : Ev prog clsT X d mc157 4 [(2, 89), (0, x1)] [(0, s0)] (mk E c s (hh g)) =
  (if cmpI .eq s0 0 = true then
  (some ((0, 0), ((mk E c s (hh g)))))
else
  (if inb x1 10 = true then
    (if cmpI .eq ((g 106 (Int.toNat x1))) 0 = true then
    (some ((0, 0), ((mk E c s (hh g)))))
  else
    (some ((0, 1), ((mk E c s (hh g))))))
  else none)) :=
  (evk_at (r := (if cmpI .eq s0 0 = true then
  (some ((0, 0), (mk E c s (hh g))))
else
  ((fget 6250 ((mk E c s (hh g))) 89).bind fun v1 =>
    (aget X 102 ((mk E c s (hh g))) v1 x1).bind fun v2 =>
    if cmpI .eq v2 0 = true then
    (some ((0, 0), (mk E c s (hh g))))
  else
    (some ((0, 1), (mk E c s (hh g))))))) X [0, 4] 10 rfl).trans (by simp (maxSteps := 10000000) only [↓A106, ↓F6250_89, bindI, Option.bind_some, if_true_, and_self, ite_true, true_and, true_or, or_true])
set_option maxRecDepth 100000 in
theorem r158_0 (d : Nat) (x0 : Int) : Ev prog clsT X d mc158 0 [(1, x0), (3, 0), (3, 0), (3, 0)] [] (mk E c s (hh g)) =
  (Ev prog clsT X d mc158 4 [(1, x0), (3, 0), (0, 0), (0, 0)] [] (mk E c s (hh g))) :=
  evk_at X [0, 4] 6 rfl
set_option maxRecDepth 100000 in
theorem rc158_ (d : Nat) (x0 : Int) : Call prog clsT X (d + 1) 158 [(1, x0)] (mk E c s (hh g)) =
  (Ev prog clsT X d mc158 4 [(1, x0), (3, 0), (0, 0), (0, 0)] [] (mk E c s (hh g))) :=
  (show Call prog clsT X (d + 1) 158 [(1, x0)] (mk E c s (hh g)) = Ev prog clsT X d mc158 0 [(1, x0), (3, 0), (3, 0), (3, 0)] [] (mk E c s (hh g)) from rfl).trans (r158_0 X E c s g d x0 )
set_option maxRecDepth 100000 in
theorem r158_4 (d : Nat) (x0 x2 x3 : Int) (w1 : MV) : Ev prog clsT X d mc158 4 [(1, x0), w1, (0, x2), (0, x3)] [] (mk E c s (hh g)) =
  (if cmpI .ge x3 40 = true then
  (some ((0, x2), ((mk E c s (hh g)))))
else
  (Ev prog clsT X d mc158 4 [(1, x0), (3, 0), (0, (w32 (x2 + ((w32 ((land64 ((lshr64 x0 x3)) 1))))))), (0, (w32 (x3 + 1)))] [] (mk E c s (hh g)))) :=
  (evk_at (r := (if cmpI .ge x3 40 = true then
  (some ((0, x2), (mk E c s (hh g))))
else
  (Ev prog clsT X d mc158 4 [(1, x0), (3, 0), (0, (w32 (x2 + ((w32 ((land64 ((lshr64 x0 x3)) 1))))))), (0, (w32 (x3 + 1)))] [] (mk E c s (hh g))))) X [0, 4] 16 rfl).trans (by simp (maxSteps := 10000000) only [bindI, Option.bind_some, if_true_, and_self, ite_true, true_and, true_or, or_true])
set_option maxRecDepth 100000 in
theorem r159_0 (d : Nat) (x1 x3 : Int) : Ev prog clsT X d mc159 0 [(2, 89), (1, x1), (3, 0), (0, x3), (3, 0)] [] (mk E c s (hh g)) =
  (Ev prog clsT X d mc159 2 [(2, 89), (1, x1), (3, 0), (0, x3), (0, 0)] [] (mk E c s (hh g))) :=
  evk_at X [0, 2] 4 rfl
set_option maxRecDepth 100000 in
theorem rc159_ (d : Nat) (x1 x3 : Int) : Call prog clsT X (d + 1) 159 [(2, 89), (1, x1), (0, x3)] (mk E c s (hh g)) =
  (Ev prog clsT X d mc159 2 [(2, 89), (1, x1), (3, 0), (0, x3), (0, 0)] [] (mk E c s (hh g))) :=
  (show Call prog clsT X (d + 1) 159 [(2, 89), (1, x1), (0, x3)] (mk E c s (hh g)) = Ev prog clsT X d mc159 0 [(2, 89), (1, x1), (3, 0), (0, x3), (3, 0)] [] (mk E c s (hh g)) from rfl).trans (r159_0 X E c s g d x1 x3 )
set_option maxRecDepth 100000 in
theorem r159_2 (d : Nat) (x1 x3 x4 : Int) (w2 : MV) : Ev prog clsT X d mc159 2 [(2, 89), (1, x1), w2, (0, x3), (0, x4)] [] (mk E c s (hh g)) =
  (if cmpI .ge x4 40 = true then
  (some ((0, 1), ((mk E c s (hh g)))))
else
  (if cmpI .ne ((lcmpI ((land64 ((lshr64 x1 x4)) 1)) 1)) 0 = true then
    (Ev prog clsT X d mc159 2 [(2, 89), (1, x1), (3, 0), (0, x3), (0, (w32 (x4 + 1)))] [] (mk E c s (hh g)))
  else
    (if inb x4 40 = true then
      (if cmpI .eq ((g 94 (Int.toNat x4))) 0 = true then
      (some ((0, 0), ((mk E c s (hh g)))))
    else
      (if inb x4 40 = true then
        (if cmpI .eq ((g 95 (Int.toNat x4))) x3 = true then
        (Ev prog clsT X d mc159 2 [(2, 89), (1, x1), (3, 0), (0, x3), (0, (w32 (x4 + 1)))] [] (mk E c s (hh g)))
      else
        (some ((0, 0), ((mk E c s (hh g))))))
      else none))
    else none))) :=
  (evk_at (r := (if cmpI .ge x4 40 = true then
  (some ((0, 1), (mk E c s (hh g))))
else
  (if cmpI .ne ((lcmpI ((land64 ((lshr64 x1 x4)) 1)) 1)) 0 = true then
    (Ev prog clsT X d mc159 2 [(2, 89), (1, x1), (3, 0), (0, x3), (0, (w32 (x4 + 1)))] [] (mk E c s (hh g)))
  else
    ((fget 6166 ((mk E c s (hh g))) 89).bind fun v1 =>
      (aget X 102 ((mk E c s (hh g))) v1 x4).bind fun v2 =>
      if cmpI .eq v2 0 = true then
      (some ((0, 0), (mk E c s (hh g))))
    else
      ((fget 6170 ((mk E c s (hh g))) 89).bind fun v3 =>
        (aget X 100 ((mk E c s (hh g))) v3 x4).bind fun v4 =>
        if cmpI .eq v4 x3 = true then
        (Ev prog clsT X d mc159 2 [(2, 89), (1, x1), (3, 0), (0, x3), (0, (w32 (x4 + 1)))] [] (mk E c s (hh g)))
      else
        (some ((0, 0), (mk E c s (hh g))))))))) X [0, 2] 26 rfl).trans (by simp (maxSteps := 10000000) only [↓A94, ↓A95, ↓F6166_89, ↓F6170_89, bindI, Option.bind_some, if_true_, and_self, ite_true, true_and, true_or, or_true])
set_option maxRecDepth 100000 in
theorem r160_0 (d : Nat) (x1 : Int) : Ev prog clsT X d mc160 0 [(2, 89), (0, x1)] [] (mk E c s (hh g)) =
  ((Call prog clsT X d 161 [(2, 89), (0, x1)] ((mk E c s (hh (up g 89 0 0))))).bind fun r1 => if r1.1.1 = 4 then none else
  Ev prog clsT X d mc160 6 [(2, 89), (0, x1)] (pushR r1.1 []) r1.2) :=
  (evk_at (r := ((fput 6144 ((mk E c s (hh g))) 89 0).bind fun M1 =>
  if (2 : Nat) = 2 ∧ rcv M1 89 13 = true then
  ((Call prog clsT X d 161 [(2, 89), (0, x1)] M1).bind fun r2 => if r2.1.1 = 4 then none else
  Ev prog clsT X d mc160 6 [(2, 89), (0, x1)] (pushR r2.1 []) r2.2) else none)) X [0, 6] 7 rfl).trans (by simp (maxSteps := 10000000) only [R89_13, ↓W6144_89, bindI, Option.bind_some, if_true_, and_self, ite_true, true_and, true_or, or_true])
set_option maxRecDepth 100000 in
theorem rc160_ (d : Nat) (x1 : Int) : Call prog clsT X (d + 1) 160 [(2, 89), (0, x1)] (mk E c s (hh g)) =
  ((Call prog clsT X d 161 [(2, 89), (0, x1)] ((mk E c s (hh (up g 89 0 0))))).bind fun r1 => if r1.1.1 = 4 then none else
  Ev prog clsT X d mc160 6 [(2, 89), (0, x1)] (pushR r1.1 []) r1.2) :=
  (show Call prog clsT X (d + 1) 160 [(2, 89), (0, x1)] (mk E c s (hh g)) = Ev prog clsT X d mc160 0 [(2, 89), (0, x1)] [] (mk E c s (hh g)) from rfl).trans (r160_0 X E c s g d x1 )
set_option maxRecDepth 100000 in
theorem r160_6 (d : Nat) (x1 s0 : Int) : Ev prog clsT X d mc160 6 [(2, 89), (0, x1)] [(0, s0)] (mk E c s (hh g)) =
  (if cmpI .ne s0 0 = true then
  (if inb x1 40 = true then
    (some ((0, 1), ((mk E c s (hh (up g 104 (Int.toNat x1) (bit1 (1))))))))
  else none)
else
  (some ((0, 0), ((mk E c s (hh g)))))) :=
  (evk_at (r := (if cmpI .ne s0 0 = true then
  ((fget 6210 ((mk E c s (hh g))) 89).bind fun v1 =>
    (aput 102 ((mk E c s (hh g))) v1 x1 (bit1 (1))).bind fun M2 =>
    some ((0, 1), M2))
else
  (some ((0, 0), (mk E c s (hh g)))))) X [0, 6] 9 rfl).trans (by simp (maxSteps := 10000000) only [↓F6210_89, ↓S104, bindI, Option.bind_some, if_true_, and_self, ite_true, true_and, true_or, or_true])
set_option maxRecDepth 100000 in
theorem r161_0 (d : Nat) (x1 : Int) : Ev prog clsT X d mc161 0 [(2, 89), (0, x1)] [] (mk E c s (hh g)) =
  ((Call prog clsT X d 162 [(2, 89), (0, x1)] ((mk E c s (hh g)))).bind fun r1 => if r1.1.1 = 4 then none else
  Ev prog clsT X d mc161 3 [(2, 89), (0, x1)] (pushR r1.1 []) r1.2) :=
  (evk_at (r := (if (2 : Nat) = 2 ∧ rcv ((mk E c s (hh g))) 89 13 = true then
  ((Call prog clsT X d 162 [(2, 89), (0, x1)] ((mk E c s (hh g)))).bind fun r1 => if r1.1.1 = 4 then none else
  Ev prog clsT X d mc161 3 [(2, 89), (0, x1)] (pushR r1.1 []) r1.2) else none)) X [0, 3] 4 rfl).trans (by simp (maxSteps := 10000000) only [R89_13, bindI, Option.bind_some, if_true_, and_self, ite_true, true_and, true_or, or_true])
set_option maxRecDepth 100000 in
theorem rc161_ (d : Nat) (x1 : Int) : Call prog clsT X (d + 1) 161 [(2, 89), (0, x1)] (mk E c s (hh g)) =
  ((Call prog clsT X d 162 [(2, 89), (0, x1)] ((mk E c s (hh g)))).bind fun r1 => if r1.1.1 = 4 then none else
  Ev prog clsT X d mc161 3 [(2, 89), (0, x1)] (pushR r1.1 []) r1.2) :=
  (show Call prog clsT X (d + 1) 161 [(2, 89), (0, x1)] (mk E c s (hh g)) = Ev prog clsT X d mc161 0 [(2, 89), (0, x1)] [] (mk E c s (hh g)) from rfl).trans (r161_0 X E c s g d x1 )
set_option maxRecDepth 100000 in
theorem r161_3 (d : Nat) (x1 s0 : Int) : Ev prog clsT X d mc161 3 [(2, 89), (0, x1)] [(0, s0)] (mk E c s (hh g)) =
  (if cmpI .eq s0 0 = true then
  (some ((0, 0), ((mk E c s (hh g)))))
else
  (if inb x1 40 = true then
    (if cmpI .ne ((g 104 (Int.toNat x1))) 0 = true then
    (some ((0, 0), ((mk E c s (hh g)))))
  else
    (some ((0, 1), ((mk E c s (hh g))))))
  else none)) :=
  (evk_at (r := (if cmpI .eq s0 0 = true then
  (some ((0, 0), (mk E c s (hh g))))
else
  ((fget 6210 ((mk E c s (hh g))) 89).bind fun v1 =>
    (aget X 102 ((mk E c s (hh g))) v1 x1).bind fun v2 =>
    if cmpI .ne v2 0 = true then
    (some ((0, 0), (mk E c s (hh g))))
  else
    (some ((0, 1), (mk E c s (hh g))))))) X [0, 3] 10 rfl).trans (by simp (maxSteps := 10000000) only [↓A104, ↓F6210_89, bindI, Option.bind_some, if_true_, and_self, ite_true, true_and, true_or, or_true])
set_option maxRecDepth 100000 in
theorem r162_0 (d : Nat) (x1 : Int) : Ev prog clsT X d mc162 0 [(2, 89), (0, x1)] [] (mk E c s (hh g)) =
  (if cmpI .lt x1 0 = true then
  (some ((0, 0), ((mk E c s (hh g)))))
else
  (if cmpI .ge x1 ((g 89 10)) = true then
    (some ((0, 0), ((mk E c s (hh g)))))
  else
    (some ((0, 1), ((mk E c s (hh g))))))) :=
  (evk_at (r := (if cmpI .lt x1 0 = true then
  (some ((0, 0), (mk E c s (hh g))))
else
  ((fget 6184 ((mk E c s (hh g))) 89).bind fun v1 =>
    if cmpI .ge x1 v1 = true then
    (some ((0, 0), (mk E c s (hh g))))
  else
    (some ((0, 1), (mk E c s (hh g))))))) X [0] 10 rfl).trans (by simp (maxSteps := 10000000) only [↓F6184_89, bindI, Option.bind_some, if_true_, and_self, ite_true, true_and, true_or, or_true])
set_option maxRecDepth 100000 in
theorem rc162_ (d : Nat) (x1 : Int) : Call prog clsT X (d + 1) 162 [(2, 89), (0, x1)] (mk E c s (hh g)) =
  (if cmpI .lt x1 0 = true then
  (some ((0, 0), ((mk E c s (hh g)))))
else
  (if cmpI .ge x1 ((g 89 10)) = true then
    (some ((0, 0), ((mk E c s (hh g)))))
  else
    (some ((0, 1), ((mk E c s (hh g))))))) :=
  (show Call prog clsT X (d + 1) 162 [(2, 89), (0, x1)] (mk E c s (hh g)) = Ev prog clsT X d mc162 0 [(2, 89), (0, x1)] [] (mk E c s (hh g)) from rfl).trans (r162_0 X E c s g d x1 )
set_option maxRecDepth 100000 in
theorem r163_0 (d : Nat) (x1 x2 : Int) : Ev prog clsT X d mc163 0 [(2, 89), (0, x1), (0, x2)] [] (mk E c s (hh g)) =
  ((Call prog clsT X d 162 [(2, 89), (0, x1)] ((mk E c s (hh (up g 89 0 0))))).bind fun r1 => if r1.1.1 = 4 then none else
  Ev prog clsT X d mc163 6 [(2, 89), (0, x1), (0, x2)] (pushR r1.1 []) r1.2) :=
  (evk_at (r := ((fput 6144 ((mk E c s (hh g))) 89 0).bind fun M1 =>
  if (2 : Nat) = 2 ∧ rcv M1 89 13 = true then
  ((Call prog clsT X d 162 [(2, 89), (0, x1)] M1).bind fun r2 => if r2.1.1 = 4 then none else
  Ev prog clsT X d mc163 6 [(2, 89), (0, x1), (0, x2)] (pushR r2.1 []) r2.2) else none)) X [0, 6, 14] 7 rfl).trans (by simp (maxSteps := 10000000) only [R89_13, ↓W6144_89, bindI, Option.bind_some, if_true_, and_self, ite_true, true_and, true_or, or_true])
set_option maxRecDepth 100000 in
theorem rc163_ (d : Nat) (x1 x2 : Int) : Call prog clsT X (d + 1) 163 [(2, 89), (0, x1), (0, x2)] (mk E c s (hh g)) =
  ((Call prog clsT X d 162 [(2, 89), (0, x1)] ((mk E c s (hh (up g 89 0 0))))).bind fun r1 => if r1.1.1 = 4 then none else
  Ev prog clsT X d mc163 6 [(2, 89), (0, x1), (0, x2)] (pushR r1.1 []) r1.2) :=
  (show Call prog clsT X (d + 1) 163 [(2, 89), (0, x1), (0, x2)] (mk E c s (hh g)) = Ev prog clsT X d mc163 0 [(2, 89), (0, x1), (0, x2)] [] (mk E c s (hh g)) from rfl).trans (r163_0 X E c s g d x1 x2 )
set_option maxRecDepth 100000 in
theorem r163_6 (d : Nat) (x1 x2 s0 : Int) : Ev prog clsT X d mc163 6 [(2, 89), (0, x1), (0, x2)] [(0, s0)] (mk E c s (hh g)) =
  (if cmpI .eq s0 0 = true then
  (some ((0, 0), ((mk E c s (hh g)))))
else
  (if inb x1 40 = true then
    ((Call prog clsT X d 152 [(0, x2), (0, 0), (0, (g 102 (Int.toNat x1)))] ((mk E c s (hh g)))).bind fun r1 => if r1.1.1 = 4 then none else
    Ev prog clsT X d mc163 14 [(2, 89), (0, x1), (0, x2)] (pushR r1.1 []) r1.2)
  else none)) :=
  (evk_at (r := (if cmpI .eq s0 0 = true then
  (some ((0, 0), (mk E c s (hh g))))
else
  ((fget 6202 ((mk E c s (hh g))) 89).bind fun v1 =>
    (aget X 100 ((mk E c s (hh g))) v1 x1).bind fun v2 =>
    (Call prog clsT X d 152 [(0, x2), (0, 0), (0, v2)] ((mk E c s (hh g)))).bind fun r3 => if r3.1.1 = 4 then none else
    Ev prog clsT X d mc163 14 [(2, 89), (0, x1), (0, x2)] (pushR r3.1 []) r3.2))) X [0, 6, 14] 9 rfl).trans (by simp (maxSteps := 10000000) only [↓A102, ↓F6202_89, bindI, Option.bind_some, if_true_, and_self, ite_true, true_and, true_or, or_true])
set_option maxRecDepth 100000 in
theorem r163_14 (d : Nat) (x1 x2 s0 : Int) : Ev prog clsT X d mc163 14 [(2, 89), (0, x1), (0, x2)] [(0, s0)] (mk E c s (hh g)) =
  (if cmpI .ne s0 0 = true then
  (if inb x1 40 = true then
    (some ((0, 1), ((mk E c s (hh (up g 103 (Int.toNat x1) x2))))))
  else none)
else
  (some ((0, 0), ((mk E c s (hh g)))))) :=
  (evk_at (r := (if cmpI .ne s0 0 = true then
  ((fget 6206 ((mk E c s (hh g))) 89).bind fun v1 =>
    (aput 100 ((mk E c s (hh g))) v1 x1 (x2)).bind fun M2 =>
    some ((0, 1), M2))
else
  (some ((0, 0), (mk E c s (hh g)))))) X [0, 6, 14] 9 rfl).trans (by simp (maxSteps := 10000000) only [↓F6206_89, ↓S103, bindI, Option.bind_some, if_true_, and_self, ite_true, true_and, true_or, or_true])
set_option maxRecDepth 100000 in
theorem r164_0 (d : Nat) (x1 x3 x5 : Int) : Ev prog clsT X d mc164 0 [(2, 89), (1, x1), (3, 0), (1, x3), (3, 0), (1, x5), (3, 0), (3, 0), (3, 0), (3, 0), (3, 0)] [] (mk E c s (hh g)) =
  (Ev prog clsT X d mc164 5 [(2, 89), (1, x1), (3, 0), (1, x3), (3, 0), (1, x5), (3, 0), (0, 0), (3, 0), (3, 0), (3, 0)] [] (mk E c s (hh (up g 89 0 0)))) :=
  (evk_at (r := ((fput 6144 ((mk E c s (hh g))) 89 0).bind fun M1 =>
  Ev prog clsT X d mc164 5 [(2, 89), (1, x1), (3, 0), (1, x3), (3, 0), (1, x5), (3, 0), (0, 0), (3, 0), (3, 0), (3, 0)] [] M1)) X [0, 5, 33, 46] 7 rfl).trans (by simp (maxSteps := 10000000) only [↓W6144_89, bindI, Option.bind_some, if_true_, and_self, ite_true, true_and, true_or, or_true])
set_option maxRecDepth 100000 in
theorem rc164_ (d : Nat) (x1 x3 x5 : Int) : Call prog clsT X (d + 1) 164 [(2, 89), (1, x1), (1, x3), (1, x5)] (mk E c s (hh g)) =
  (Ev prog clsT X d mc164 5 [(2, 89), (1, x1), (3, 0), (1, x3), (3, 0), (1, x5), (3, 0), (0, 0), (3, 0), (3, 0), (3, 0)] [] (mk E c s (hh (up g 89 0 0)))) :=
  (show Call prog clsT X (d + 1) 164 [(2, 89), (1, x1), (1, x3), (1, x5)] (mk E c s (hh g)) = Ev prog clsT X d mc164 0 [(2, 89), (1, x1), (3, 0), (1, x3), (3, 0), (1, x5), (3, 0), (3, 0), (3, 0), (3, 0), (3, 0)] [] (mk E c s (hh g)) from rfl).trans (r164_0 X E c s g d x1 x3 x5 )
set_option maxRecDepth 100000 in
theorem r164_5 (d : Nat) (x1 x3 x5 x7 : Int) (w2 w4 w6 w8 w9 w10 : MV) : Ev prog clsT X d mc164 5 [(2, 89), (1, x1), w2, (1, x3), w4, (1, x5), w6, (0, x7), w8, w9, w10] [] (mk E c s (hh g)) =
  (if cmpI .ge x7 24 = true then
  (some ((0, (g 89 17)), ((mk E c s (hh g)))))
else
  (if cmpI .ge x7 8 = true then
    (if cmpI .ge x7 16 = true then
      (Ev prog clsT X d mc164 33 [(2, 89), (1, x1), (3, 0), (1, x3), (3, 0), (1, x5), (3, 0), (0, x7), (1, x5), (3, 0), (0, (w32 ((land64 ((lushr64 x5 ((w32 (56 - ((w32 (8 * ((iand32 x7 7)))))))))) 255))))] [] (mk E c s (hh g)))
    else
      (Ev prog clsT X d mc164 33 [(2, 89), (1, x1), (3, 0), (1, x3), (3, 0), (1, x5), (3, 0), (0, x7), (1, x3), (3, 0), (0, (w32 ((land64 ((lushr64 x3 ((w32 (56 - ((w32 (8 * ((iand32 x7 7)))))))))) 255))))] [] (mk E c s (hh g))))
  else
    (Ev prog clsT X d mc164 33 [(2, 89), (1, x1), (3, 0), (1, x3), (3, 0), (1, x5), (3, 0), (0, x7), (1, x1), (3, 0), (0, (w32 ((land64 ((lushr64 x1 ((w32 (56 - ((w32 (8 * ((iand32 x7 7)))))))))) 255))))] [] (mk E c s (hh g))))) :=
  (evk_at (r := (if cmpI .ge x7 24 = true then
  ((fget 6212 ((mk E c s (hh g))) 89).bind fun v1 =>
    some ((0, v1), (mk E c s (hh g))))
else
  (if cmpI .ge x7 8 = true then
    (if cmpI .ge x7 16 = true then
      (Ev prog clsT X d mc164 33 [(2, 89), (1, x1), (3, 0), (1, x3), (3, 0), (1, x5), (3, 0), (0, x7), (1, x5), (3, 0), (0, (w32 ((land64 ((lushr64 x5 ((w32 (56 - ((w32 (8 * ((iand32 x7 7)))))))))) 255))))] [] (mk E c s (hh g)))
    else
      (Ev prog clsT X d mc164 33 [(2, 89), (1, x1), (3, 0), (1, x3), (3, 0), (1, x5), (3, 0), (0, x7), (1, x3), (3, 0), (0, (w32 ((land64 ((lushr64 x3 ((w32 (56 - ((w32 (8 * ((iand32 x7 7)))))))))) 255))))] [] (mk E c s (hh g))))
  else
    (Ev prog clsT X d mc164 33 [(2, 89), (1, x1), (3, 0), (1, x3), (3, 0), (1, x5), (3, 0), (0, x7), (1, x1), (3, 0), (0, (w32 ((land64 ((lushr64 x1 ((w32 (56 - ((w32 (8 * ((iand32 x7 7)))))))))) 255))))] [] (mk E c s (hh g)))))) X [0, 5, 33, 46] 27 rfl).trans (by simp (maxSteps := 10000000) only [↓F6212_89, bindI, Option.bind_some, if_true_, and_self, ite_true, true_and, true_or, or_true])
set_option maxRecDepth 100000 in
theorem r164_33 (d : Nat) (x1 x3 x5 x7 x8 x10 : Int) : Ev prog clsT X d mc164 33 [(2, 89), (1, x1), (3, 0), (1, x3), (3, 0), (1, x5), (3, 0), (0, x7), (1, x8), (3, 0), (0, x10)] [] (mk E c s (hh g)) =
  (if cmpI .ge ((g 89 17)) 1000 = true then
  (Ev prog clsT X d mc164 5 [(2, 89), (1, x1), (3, 0), (1, x3), (3, 0), (1, x5), (3, 0), (0, (w32 (x7 + 1))), (1, x8), (3, 0), (0, x10)] [] (mk E c s (hh g)))
else
  (if cmpI .eq x10 10 = true then
    (Ev prog clsT X d mc164 46 [(2, 89), (1, x1), (3, 0), (1, x3), (3, 0), (1, x5), (3, 0), (0, x7), (1, x8), (3, 0), (0, x10)] [] (mk E c s (hh g)))
  else
    (if cmpI .lt x10 32 = true then
      (Ev prog clsT X d mc164 5 [(2, 89), (1, x1), (3, 0), (1, x3), (3, 0), (1, x5), (3, 0), (0, (w32 (x7 + 1))), (1, x8), (3, 0), (0, x10)] [] (mk E c s (hh g)))
    else
      (if cmpI .gt x10 126 = true then
        (Ev prog clsT X d mc164 5 [(2, 89), (1, x1), (3, 0), (1, x3), (3, 0), (1, x5), (3, 0), (0, (w32 (x7 + 1))), (1, x8), (3, 0), (0, x10)] [] (mk E c s (hh g)))
      else
        (Ev prog clsT X d mc164 46 [(2, 89), (1, x1), (3, 0), (1, x3), (3, 0), (1, x5), (3, 0), (0, x7), (1, x8), (3, 0), (0, x10)] [] (mk E c s (hh g))))))) :=
  (evk_at (r := ((fget 6212 ((mk E c s (hh g))) 89).bind fun v1 =>
  if cmpI .ge v1 1000 = true then
  (Ev prog clsT X d mc164 5 [(2, 89), (1, x1), (3, 0), (1, x3), (3, 0), (1, x5), (3, 0), (0, (w32 (x7 + 1))), (1, x8), (3, 0), (0, x10)] [] (mk E c s (hh g)))
else
  (if cmpI .eq x10 10 = true then
    (Ev prog clsT X d mc164 46 [(2, 89), (1, x1), (3, 0), (1, x3), (3, 0), (1, x5), (3, 0), (0, x7), (1, x8), (3, 0), (0, x10)] [] (mk E c s (hh g)))
  else
    (if cmpI .lt x10 32 = true then
      (Ev prog clsT X d mc164 5 [(2, 89), (1, x1), (3, 0), (1, x3), (3, 0), (1, x5), (3, 0), (0, (w32 (x7 + 1))), (1, x8), (3, 0), (0, x10)] [] (mk E c s (hh g)))
    else
      (if cmpI .gt x10 126 = true then
        (Ev prog clsT X d mc164 5 [(2, 89), (1, x1), (3, 0), (1, x3), (3, 0), (1, x5), (3, 0), (0, (w32 (x7 + 1))), (1, x8), (3, 0), (0, x10)] [] (mk E c s (hh g)))
      else
        (Ev prog clsT X d mc164 46 [(2, 89), (1, x1), (3, 0), (1, x3), (3, 0), (1, x5), (3, 0), (0, x7), (1, x8), (3, 0), (0, x10)] [] (mk E c s (hh g)))))))) X [0, 5, 33, 46] 17 rfl).trans (by simp (maxSteps := 10000000) only [↓F6212_89, bindI, Option.bind_some, if_true_, and_self, ite_true, true_and, true_or, or_true])
set_option maxRecDepth 100000 in
theorem r164_46 (d : Nat) (x1 x3 x5 x7 x8 x10 : Int) : Ev prog clsT X d mc164 46 [(2, 89), (1, x1), (3, 0), (1, x3), (3, 0), (1, x5), (3, 0), (0, x7), (1, x8), (3, 0), (0, x10)] [] (mk E c s (hh g)) =
  (if inb ((g 89 17)) 1000 = true then
  (Ev prog clsT X d mc164 5 [(2, 89), (1, x1), (3, 0), (1, x3), (3, 0), (1, x5), (3, 0), (0, (w32 (x7 + 1))), (1, x8), (3, 0), (0, x10)] [] (mk E c s (hh (up (up g 105 (Int.toNat ((g 89 17))) x10) 89 17 ((w32 (((g 89 17)) + 1)))))))
else none) :=
  (evk_at (r := ((fget 6218 ((mk E c s (hh g))) 89).bind fun v1 =>
  (fget 6212 ((mk E c s (hh g))) 89).bind fun v2 =>
  (aput 100 ((mk E c s (hh g))) v1 v2 (x10)).bind fun M3 =>
  (fget 6212 M3 89).bind fun v4 =>
  (fput 6212 M3 89 ((w32 (v4 + 1)))).bind fun M5 =>
  Ev prog clsT X d mc164 5 [(2, 89), (1, x1), (3, 0), (1, x3), (3, 0), (1, x5), (3, 0), (0, (w32 (x7 + 1))), (1, x8), (3, 0), (0, x10)] [] M5)) X [0, 5, 33, 46] 16 rfl).trans (by simp (maxSteps := 10000000) only [uc_105_89, ↓F6212_89, ↓F6218_89, ↓S105, ↓W6212_89, bindI, Option.bind_some, if_true_, and_self, ite_true, true_and, true_or, or_true])
set_option maxRecDepth 100000 in
theorem r165_0 (d : Nat) (x1 : Int) : Ev prog clsT X d mc165 0 [(2, 89), (0, x1), (3, 0)] [] (mk E c s (hh g)) =
  ((Call prog clsT X d 166 [(2, 89)] ((mk E c s (hh (up g 89 0 0))))).bind fun r1 => if r1.1.1 = 4 then none else
  Ev prog clsT X d mc165 5 [(2, 89), (0, x1), (3, 0)] (pushR r1.1 []) r1.2) :=
  (evk_at (r := ((fput 6144 ((mk E c s (hh g))) 89 0).bind fun M1 =>
  if (2 : Nat) = 2 ∧ rcv M1 89 13 = true then
  ((Call prog clsT X d 166 [(2, 89)] M1).bind fun r2 => if r2.1.1 = 4 then none else
  Ev prog clsT X d mc165 5 [(2, 89), (0, x1), (3, 0)] (pushR r2.1 []) r2.2) else none)) X [0, 5, 9, 15] 6 rfl).trans (by simp (maxSteps := 10000000) only [R89_13, ↓W6144_89, bindI, Option.bind_some, if_true_, and_self, ite_true, true_and, true_or, or_true])
set_option maxRecDepth 100000 in
theorem rc165_ (d : Nat) (x1 : Int) : Call prog clsT X (d + 1) 165 [(2, 89), (0, x1)] (mk E c s (hh g)) =
  ((Call prog clsT X d 166 [(2, 89)] ((mk E c s (hh (up g 89 0 0))))).bind fun r1 => if r1.1.1 = 4 then none else
  Ev prog clsT X d mc165 5 [(2, 89), (0, x1), (3, 0)] (pushR r1.1 []) r1.2) :=
  (show Call prog clsT X (d + 1) 165 [(2, 89), (0, x1)] (mk E c s (hh g)) = Ev prog clsT X d mc165 0 [(2, 89), (0, x1), (3, 0)] [] (mk E c s (hh g)) from rfl).trans (r165_0 X E c s g d x1 )
set_option maxRecDepth 100000 in
theorem r165_5 (d : Nat) (x1 : Int) : Ev prog clsT X d mc165 5 [(2, 89), (0, x1), (3, 0)] [] (mk E c s (hh g)) =
  ((Call prog clsT X d 152 [(0, x1), (0, 0), (0, 9)] ((mk E c s (hh g)))).bind fun r1 => if r1.1.1 = 4 then none else
  Ev prog clsT X d mc165 9 [(2, 89), (0, x1), (3, 0)] (pushR r1.1 []) r1.2) :=
  evk_at X [0, 5, 9, 15] 5 rfl
set_option maxRecDepth 100000 in
theorem r165_9 (d : Nat) (x1 s0 : Int) : Ev prog clsT X d mc165 9 [(2, 89), (0, x1), (3, 0)] [(0, s0)] (mk E c s (hh g)) =
  (if cmpI .ne s0 0 = true then
  ((Call prog clsT X d 169 [(2, 89), (0, x1)] ((mk E c s (hh g)))).bind fun r1 => if r1.1.1 = 4 then none else
    Ev prog clsT X d mc165 15 [(2, 89), (0, x1), (3, 0)] (pushR r1.1 []) r1.2)
else
  (some ((0, (-1)), ((mk E c s (hh g)))))) :=
  (evk_at (r := (if cmpI .ne s0 0 = true then
  (if (2 : Nat) = 2 ∧ rcv ((mk E c s (hh g))) 89 13 = true then
    ((Call prog clsT X d 169 [(2, 89), (0, x1)] ((mk E c s (hh g)))).bind fun r1 => if r1.1.1 = 4 then none else
    Ev prog clsT X d mc165 15 [(2, 89), (0, x1), (3, 0)] (pushR r1.1 []) r1.2) else none)
else
  (some ((0, (-1)), (mk E c s (hh g)))))) X [0, 5, 9, 15] 5 rfl).trans (by simp (maxSteps := 10000000) only [R89_13, bindI, Option.bind_some, if_true_, and_self, ite_true, true_and, true_or, or_true])
set_option maxRecDepth 100000 in
theorem r165_15 (d : Nat) (x1 s0 : Int) : Ev prog clsT X d mc165 15 [(2, 89), (0, x1), (3, 0)] [(0, s0)] (mk E c s (hh g)) =
  (if inb x1 10 = true then
  (if cmpI .ne ((g 106 (Int.toNat x1))) 0 = true then
  (if inb x1 10 = true then
    (some ((0, s0), ((mk E c s (hh (up g 106 (Int.toNat x1) (bit1 (1))))))))
  else none)
else
  (if cmpI .ne s0 0 = true then
    (if inb x1 10 = true then
      (some ((0, s0), ((mk E c s (hh (up g 106 (Int.toNat x1) (bit1 (0))))))))
    else none)
  else
    (if inb x1 10 = true then
      (some ((0, s0), ((mk E c s (hh (up g 106 (Int.toNat x1) (bit1 (1))))))))
    else none)))
else none) :=
  (evk_at (r := ((fget 6250 ((mk E c s (hh g))) 89).bind fun v1 =>
  (fget 6250 ((mk E c s (hh g))) 89).bind fun v2 =>
  (aget X 102 ((mk E c s (hh g))) v2 x1).bind fun v3 =>
  if cmpI .ne v3 0 = true then
  ((aput 102 ((mk E c s (hh g))) v1 x1 (bit1 (1))).bind fun M4 =>
    some ((0, s0), M4))
else
  (if cmpI .ne s0 0 = true then
    ((aput 102 ((mk E c s (hh g))) v1 x1 (bit1 (0))).bind fun M5 =>
      some ((0, s0), M5))
  else
    ((aput 102 ((mk E c s (hh g))) v1 x1 (bit1 (1))).bind fun M6 =>
      some ((0, s0), M6))))) X [0, 5, 9, 15] 17 rfl).trans (by simp (maxSteps := 10000000) only [↓A106, ↓F6250_89, ↓S106, bindI, Option.bind_some, if_true_, and_self, ite_true, true_and, true_or, or_true])
set_option maxRecDepth 100000 in
theorem r166_0 (d : Nat) : Ev prog clsT X d mc166 0 [(2, 89)] [] (mk E c s (hh g)) =
  ((Call prog clsT X d 167 [(2, 89)] ((mk E c s (hh (up (up (up g 89 19 ((g 89 17))) 89 17 0) 89 20 0))))).bind fun r1 => if r1.1.1 = 4 then none else
  Ev prog clsT X d mc166 12 [(2, 89)] (pushR r1.1 []) r1.2) :=
  (evk_at (r := ((fget 6212 ((mk E c s (hh g))) 89).bind fun v1 =>
  (fput 6220 ((mk E c s (hh g))) 89 v1).bind fun M2 =>
  (fput 6212 M2 89 0).bind fun M3 =>
  (fput 6224 M3 89 0).bind fun M4 =>
  if (2 : Nat) = 2 ∧ rcv M4 89 13 = true then
  ((Call prog clsT X d 167 [(2, 89)] M4).bind fun r5 => if r5.1.1 = 4 then none else
  Ev prog clsT X d mc166 12 [(2, 89)] (pushR r5.1 []) r5.2) else none)) X [0, 12] 13 rfl).trans (by simp (maxSteps := 10000000) only [R89_13, ↓F6212_89, ↓W6212_89, ↓W6220_89, ↓W6224_89, bindI, Option.bind_some, if_true_, and_self, ite_true, true_and, true_or, or_true])
set_option maxRecDepth 100000 in
theorem rc166_ (d : Nat) : Call prog clsT X (d + 1) 166 [(2, 89)] (mk E c s (hh g)) =
  ((Call prog clsT X d 167 [(2, 89)] ((mk E c s (hh (up (up (up g 89 19 ((g 89 17))) 89 17 0) 89 20 0))))).bind fun r1 => if r1.1.1 = 4 then none else
  Ev prog clsT X d mc166 12 [(2, 89)] (pushR r1.1 []) r1.2) :=
  (show Call prog clsT X (d + 1) 166 [(2, 89)] (mk E c s (hh g)) = Ev prog clsT X d mc166 0 [(2, 89)] [] (mk E c s (hh g)) from rfl).trans (r166_0 X E c s g d  )
set_option maxRecDepth 100000 in
theorem r166_12 (d : Nat) : Ev prog clsT X d mc166 12 [(2, 89)] [] (mk E c s (hh g)) =
  (some ((3, 0), ((mk E c s (hh g))))) :=
  (evk_at (r := (some ((3, 0), (mk E c s (hh g))))) X [0, 12] 2 rfl).trans (by simp (maxSteps := 10000000) only [bindI, Option.bind_some, if_true_, and_self, ite_true, true_and, true_or, or_true])
set_option maxRecDepth 100000 in
theorem r167_0 (d : Nat) (w1 : MV) : Ev prog clsT X d mc167 0 [(2, 89), w1] [] (mk E c s (hh g)) =
  (if cmpI .ge ((g 89 20)) ((g 89 19)) = true then
  (Ev prog clsT X d mc167 26 [(2, 89), (3, 0)] [] (mk E c s (hh g)))
else
  (if inb ((g 89 20)) 1000 = true then
    (if cmpI .eq ((g 105 (Int.toNat ((g 89 20))))) 32 = true then
    (Ev prog clsT X d mc167 0 [(2, 89), (3, 0)] [] (mk E c s (hh (up g 89 20 ((w32 (((g 89 20)) + 1)))))))
  else
    (if inb ((g 89 20)) 1000 = true then
      (if cmpI .ne ((g 105 (Int.toNat ((g 89 20))))) 10 = true then
      (Ev prog clsT X d mc167 26 [(2, 89), (3, 0)] [] (mk E c s (hh g)))
    else
      (Ev prog clsT X d mc167 0 [(2, 89), (3, 0)] [] (mk E c s (hh (up g 89 20 ((w32 (((g 89 20)) + 1))))))))
    else none))
  else none)) :=
  (evk_at (r := ((fget 6224 ((mk E c s (hh g))) 89).bind fun v1 =>
  (fget 6220 ((mk E c s (hh g))) 89).bind fun v2 =>
  if cmpI .ge v1 v2 = true then
  (Ev prog clsT X d mc167 26 [(2, 89), (3, 0)] [] (mk E c s (hh g)))
else
  ((fget 6218 ((mk E c s (hh g))) 89).bind fun v3 =>
    (fget 6224 ((mk E c s (hh g))) 89).bind fun v4 =>
    (aget X 100 ((mk E c s (hh g))) v3 v4).bind fun v5 =>
    if cmpI .eq v5 32 = true then
    ((fget 6224 ((mk E c s (hh g))) 89).bind fun v6 =>
      (fput 6224 ((mk E c s (hh g))) 89 ((w32 (v6 + 1)))).bind fun M7 =>
      Ev prog clsT X d mc167 0 [(2, 89), (3, 0)] [] M7)
  else
    ((fget 6218 ((mk E c s (hh g))) 89).bind fun v8 =>
      (fget 6224 ((mk E c s (hh g))) 89).bind fun v9 =>
      (aget X 100 ((mk E c s (hh g))) v8 v9).bind fun v10 =>
      if cmpI .ne v10 10 = true then
      (Ev prog clsT X d mc167 26 [(2, 89), (3, 0)] [] (mk E c s (hh g)))
    else
      ((fget 6224 ((mk E c s (hh g))) 89).bind fun v11 =>
        (fput 6224 ((mk E c s (hh g))) 89 ((w32 (v11 + 1)))).bind fun M12 =>
        Ev prog clsT X d mc167 0 [(2, 89), (3, 0)] [] M12))))) X [0, 26, 57, 61, 67, 85, 116, 120, 126, 144, 168] 28 rfl).trans (by simp (maxSteps := 10000000) only [↓A105, ↓F6218_89, ↓F6220_89, ↓F6224_89, ↓W6224_89, bindI, Option.bind_some, if_true_, and_self, ite_true, true_and, true_or, or_true])
set_option maxRecDepth 100000 in
theorem rc167_ (d : Nat) : Call prog clsT X (d + 1) 167 [(2, 89)] (mk E c s (hh g)) =
  (if cmpI .ge ((g 89 20)) ((g 89 19)) = true then
  (Ev prog clsT X d mc167 26 [(2, 89), (3, 0)] [] (mk E c s (hh g)))
else
  (if inb ((g 89 20)) 1000 = true then
    (if cmpI .eq ((g 105 (Int.toNat ((g 89 20))))) 32 = true then
    (Ev prog clsT X d mc167 0 [(2, 89), (3, 0)] [] (mk E c s (hh (up g 89 20 ((w32 (((g 89 20)) + 1)))))))
  else
    (if inb ((g 89 20)) 1000 = true then
      (if cmpI .ne ((g 105 (Int.toNat ((g 89 20))))) 10 = true then
      (Ev prog clsT X d mc167 26 [(2, 89), (3, 0)] [] (mk E c s (hh g)))
    else
      (Ev prog clsT X d mc167 0 [(2, 89), (3, 0)] [] (mk E c s (hh (up g 89 20 ((w32 (((g 89 20)) + 1))))))))
    else none))
  else none)) :=
  (show Call prog clsT X (d + 1) 167 [(2, 89)] (mk E c s (hh g)) = Ev prog clsT X d mc167 0 [(2, 89), (3, 0)] [] (mk E c s (hh g)) from rfl).trans (r167_0 X E c s g d  (3, 0))
set_option maxRecDepth 100000 in
theorem r167_26 (d : Nat) : Ev prog clsT X d mc167 26 [(2, 89), (3, 0)] [] (mk E c s (hh g)) =
  (if cmpI .ne ((g 89 20)) ((g 89 19)) = true then
  (if inb ((g 89 20)) 1000 = true then
    (if cmpI .lt ((g 105 (Int.toNat ((g 89 20))))) 97 = true then
    (if cmpI .lt ((g 105 (Int.toNat ((g 89 20))))) 48 = true then
      (Ev prog clsT X d mc167 168 [(2, 89), (0, (g 105 (Int.toNat ((g 89 20)))))] [] (mk E c s (hh (up (up (up g 89 21 ((g 89 20))) 89 23 0) 89 24 0))))
    else
      (if cmpI .gt ((g 105 (Int.toNat ((g 89 20))))) 57 = true then
        (Ev prog clsT X d mc167 168 [(2, 89), (0, (g 105 (Int.toNat ((g 89 20)))))] [] (mk E c s (hh (up (up (up g 89 21 ((g 89 20))) 89 23 0) 89 24 0))))
      else
        (Ev prog clsT X d mc167 116 [(2, 89), (0, (g 105 (Int.toNat ((g 89 20)))))] [] (mk E c s (hh (up (up (up g 89 21 ((g 89 20))) 89 23 0) 89 24 0))))))
  else
    (if cmpI .gt ((g 105 (Int.toNat ((g 89 20))))) 122 = true then
      (if cmpI .lt ((g 105 (Int.toNat ((g 89 20))))) 48 = true then
        (Ev prog clsT X d mc167 168 [(2, 89), (0, (g 105 (Int.toNat ((g 89 20)))))] [] (mk E c s (hh (up (up (up g 89 21 ((g 89 20))) 89 23 0) 89 24 0))))
      else
        (if cmpI .gt ((g 105 (Int.toNat ((g 89 20))))) 57 = true then
          (Ev prog clsT X d mc167 168 [(2, 89), (0, (g 105 (Int.toNat ((g 89 20)))))] [] (mk E c s (hh (up (up (up g 89 21 ((g 89 20))) 89 23 0) 89 24 0))))
        else
          (Ev prog clsT X d mc167 116 [(2, 89), (0, (g 105 (Int.toNat ((g 89 20)))))] [] (mk E c s (hh (up (up (up g 89 21 ((g 89 20))) 89 23 0) 89 24 0))))))
    else
      (Ev prog clsT X d mc167 57 [(2, 89), (0, (g 105 (Int.toNat ((g 89 20)))))] [] (mk E c s (hh (up (up (up g 89 21 ((g 89 20))) 89 23 0) 89 24 0))))))
  else none)
else
  (some ((3, 0), ((mk E c s (hh (up (up (up (up g 89 21 ((g 89 20))) 89 23 0) 89 24 0) 89 22 0))))))) :=
  (evk_at (r := ((fget 6224 ((mk E c s (hh g))) 89).bind fun v1 =>
  (fput 6228 ((mk E c s (hh g))) 89 v1).bind fun M2 =>
  (fput 6237 M2 89 0).bind fun M3 =>
  (fput 6240 M3 89 0).bind fun M4 =>
  (fget 6224 M4 89).bind fun v5 =>
  (fget 6220 M4 89).bind fun v6 =>
  if cmpI .ne v5 v6 = true then
  ((fget 6218 M4 89).bind fun v7 =>
    (fget 6224 M4 89).bind fun v8 =>
    (aget X 100 M4 v7 v8).bind fun v9 =>
    if cmpI .lt v9 97 = true then
    (if cmpI .lt v9 48 = true then
      (Ev prog clsT X d mc167 168 [(2, 89), (0, v9)] [] M4)
    else
      (if cmpI .gt v9 57 = true then
        (Ev prog clsT X d mc167 168 [(2, 89), (0, v9)] [] M4)
      else
        (Ev prog clsT X d mc167 116 [(2, 89), (0, v9)] [] M4)))
  else
    (if cmpI .gt v9 122 = true then
      (if cmpI .lt v9 48 = true then
        (Ev prog clsT X d mc167 168 [(2, 89), (0, v9)] [] M4)
      else
        (if cmpI .gt v9 57 = true then
          (Ev prog clsT X d mc167 168 [(2, 89), (0, v9)] [] M4)
        else
          (Ev prog clsT X d mc167 116 [(2, 89), (0, v9)] [] M4)))
    else
      (Ev prog clsT X d mc167 57 [(2, 89), (0, v9)] [] M4)))
else
  ((fput 6232 M4 89 0).bind fun M10 =>
    some ((3, 0), M10)))) X [0, 26, 57, 61, 67, 85, 116, 120, 126, 144, 168] 35 rfl).trans (by simp (maxSteps := 10000000) only [uc_89_105, uq_21_19, uq_21_20, uq_23_19, uq_23_20, uq_24_19, uq_24_20, ↓A105, ↓F6218_89, ↓F6220_89, ↓F6224_89, ↓W6228_89, ↓W6232_89, ↓W6237_89, ↓W6240_89, bindI, Option.bind_some, if_true_, and_self, ite_true, true_and, true_or, or_true])
set_option maxRecDepth 100000 in
theorem r167_57 (d : Nat) (w1 : MV) : Ev prog clsT X d mc167 57 [(2, 89), w1] [] (mk E c s (hh g)) =
  ((Call prog clsT X d 168 [(2, 89), (0, (g 89 20))] ((mk E c s (hh g)))).bind fun r1 => if r1.1.1 = 4 then none else
  Ev prog clsT X d mc167 61 [(2, 89), (3, 0)] (pushR r1.1 []) r1.2) :=
  (evk_at (r := ((fget 6224 ((mk E c s (hh g))) 89).bind fun v1 =>
  if (2 : Nat) = 2 ∧ rcv ((mk E c s (hh g))) 89 13 = true then
  ((Call prog clsT X d 168 [(2, 89), (0, v1)] ((mk E c s (hh g)))).bind fun r2 => if r2.1.1 = 4 then none else
  Ev prog clsT X d mc167 61 [(2, 89), (3, 0)] (pushR r2.1 []) r2.2) else none)) X [0, 26, 57, 61, 67, 85, 116, 120, 126, 144, 168] 5 rfl).trans (by simp (maxSteps := 10000000) only [R89_13, ↓F6224_89, bindI, Option.bind_some, if_true_, and_self, ite_true, true_and, true_or, or_true])
set_option maxRecDepth 100000 in
theorem r167_61 (d : Nat) (s0 : Int) : Ev prog clsT X d mc167 61 [(2, 89), (3, 0)] [(0, s0)] (mk E c s (hh g)) =
  (if cmpI .lt s0 97 = true then
  (if cmpI .le ((w32 (((g 89 20)) - ((g 89 21))))) 8 = true then
    (some ((3, 0), ((mk E c s (hh (up g 89 22 1))))))
  else
    (some ((3, 0), ((mk E c s (hh (up g 89 22 4)))))))
else
  ((Call prog clsT X d 168 [(2, 89), (0, (g 89 20))] ((mk E c s (hh g)))).bind fun r1 => if r1.1.1 = 4 then none else
    Ev prog clsT X d mc167 67 [(2, 89), (3, 0)] (pushR r1.1 []) r1.2)) :=
  (evk_at (r := (if cmpI .lt s0 97 = true then
  ((fget 6224 ((mk E c s (hh g))) 89).bind fun v1 =>
    (fget 6228 ((mk E c s (hh g))) 89).bind fun v2 =>
    if cmpI .le ((w32 (v1 - v2))) 8 = true then
    ((fput 6232 ((mk E c s (hh g))) 89 1).bind fun M3 =>
      some ((3, 0), M3))
  else
    ((fput 6232 ((mk E c s (hh g))) 89 4).bind fun M4 =>
      some ((3, 0), M4)))
else
  ((fget 6224 ((mk E c s (hh g))) 89).bind fun v5 =>
    if (2 : Nat) = 2 ∧ rcv ((mk E c s (hh g))) 89 13 = true then
    ((Call prog clsT X d 168 [(2, 89), (0, v5)] ((mk E c s (hh g)))).bind fun r6 => if r6.1.1 = 4 then none else
    Ev prog clsT X d mc167 67 [(2, 89), (3, 0)] (pushR r6.1 []) r6.2) else none))) X [0, 26, 57, 61, 67, 85, 116, 120, 126, 144, 168] 15 rfl).trans (by simp (maxSteps := 10000000) only [R89_13, ↓F6224_89, ↓F6228_89, ↓W6232_89, bindI, Option.bind_some, if_true_, and_self, ite_true, true_and, true_or, or_true])
set_option maxRecDepth 100000 in
theorem r167_67 (d : Nat) (s0 : Int) : Ev prog clsT X d mc167 67 [(2, 89), (3, 0)] [(0, s0)] (mk E c s (hh g)) =
  (if cmpI .gt s0 122 = true then
  (if cmpI .le ((w32 (((g 89 20)) - ((g 89 21))))) 8 = true then
    (some ((3, 0), ((mk E c s (hh (up g 89 22 1))))))
  else
    (some ((3, 0), ((mk E c s (hh (up g 89 22 4)))))))
else
  (if cmpI .ge ((w32 (((g 89 20)) - ((g 89 21))))) 8 = true then
    (Ev prog clsT X d mc167 57 [(2, 89), (3, 0)] [] (mk E c s (hh (up g 89 20 ((w32 (((g 89 20)) + 1)))))))
  else
    ((Call prog clsT X d 168 [(2, 89), (0, (g 89 20))] ((mk E c s (hh g)))).bind fun r1 => if r1.1.1 = 4 then none else
      Ev prog clsT X d mc167 85 [(2, 89), (3, 0)] (pushR r1.1 [(1, (w64 (((g 89 23)) * 27))), (2, 89)]) r1.2))) :=
  (evk_at (r := (if cmpI .gt s0 122 = true then
  ((fget 6224 ((mk E c s (hh g))) 89).bind fun v1 =>
    (fget 6228 ((mk E c s (hh g))) 89).bind fun v2 =>
    if cmpI .le ((w32 (v1 - v2))) 8 = true then
    ((fput 6232 ((mk E c s (hh g))) 89 1).bind fun M3 =>
      some ((3, 0), M3))
  else
    ((fput 6232 ((mk E c s (hh g))) 89 4).bind fun M4 =>
      some ((3, 0), M4)))
else
  ((fget 6224 ((mk E c s (hh g))) 89).bind fun v5 =>
    (fget 6228 ((mk E c s (hh g))) 89).bind fun v6 =>
    if cmpI .ge ((w32 (v5 - v6))) 8 = true then
    ((fget 6224 ((mk E c s (hh g))) 89).bind fun v7 =>
      (fput 6224 ((mk E c s (hh g))) 89 ((w32 (v7 + 1)))).bind fun M8 =>
      Ev prog clsT X d mc167 57 [(2, 89), (3, 0)] [] M8)
  else
    ((fget 6237 ((mk E c s (hh g))) 89).bind fun v9 =>
      (fget 6224 ((mk E c s (hh g))) 89).bind fun v10 =>
      if (2 : Nat) = 2 ∧ rcv ((mk E c s (hh g))) 89 13 = true then
      ((Call prog clsT X d 168 [(2, 89), (0, v10)] ((mk E c s (hh g)))).bind fun r11 => if r11.1.1 = 4 then none else
      Ev prog clsT X d mc167 85 [(2, 89), (3, 0)] (pushR r11.1 [(1, (w64 (v9 * 27))), (2, 89)]) r11.2) else none)))) X [0, 26, 57, 61, 67, 85, 116, 120, 126, 144, 168] 19 rfl).trans (by simp (maxSteps := 10000000) only [R89_13, ↓F6224_89, ↓F6228_89, ↓F6237_89, ↓W6224_89, ↓W6232_89, bindI, Option.bind_some, if_true_, and_self, ite_true, true_and, true_or, or_true])
set_option maxRecDepth 100000 in
theorem r167_85 (d : Nat) (s1 s2 : Int) : Ev prog clsT X d mc167 85 [(2, 89), (3, 0)] [(0, s2), (1, s1), (2, 89)] (mk E c s (hh g)) =
  (Ev prog clsT X d mc167 57 [(2, 89), (3, 0)] [] (mk E c s (hh (up (up g 89 23 ((w64 (((w64 (s1 + s2))) - 96)))) 89 20 ((w32 (((g 89 20)) + 1))))))) :=
  (evk_at (r := ((fput 6237 ((mk E c s (hh g))) 89 ((w64 (((w64 (s1 + s2))) - 96)))).bind fun M1 =>
  (fget 6224 M1 89).bind fun v2 =>
  (fput 6224 M1 89 ((w32 (v2 + 1)))).bind fun M3 =>
  Ev prog clsT X d mc167 57 [(2, 89), (3, 0)] [] M3)) X [0, 26, 57, 61, 67, 85, 116, 120, 126, 144, 168] 14 rfl).trans (by simp (maxSteps := 10000000) only [uq_23_20, ↓F6224_89, ↓W6224_89, ↓W6237_89, bindI, Option.bind_some, if_true_, and_self, ite_true, true_and, true_or, or_true])
set_option maxRecDepth 100000 in
theorem r167_116 (d : Nat) (w1 : MV) : Ev prog clsT X d mc167 116 [(2, 89), w1] [] (mk E c s (hh g)) =
  ((Call prog clsT X d 168 [(2, 89), (0, (g 89 20))] ((mk E c s (hh g)))).bind fun r1 => if r1.1.1 = 4 then none else
  Ev prog clsT X d mc167 120 [(2, 89), (3, 0)] (pushR r1.1 []) r1.2) :=
  (evk_at (r := ((fget 6224 ((mk E c s (hh g))) 89).bind fun v1 =>
  if (2 : Nat) = 2 ∧ rcv ((mk E c s (hh g))) 89 13 = true then
  ((Call prog clsT X d 168 [(2, 89), (0, v1)] ((mk E c s (hh g)))).bind fun r2 => if r2.1.1 = 4 then none else
  Ev prog clsT X d mc167 120 [(2, 89), (3, 0)] (pushR r2.1 []) r2.2) else none)) X [0, 26, 57, 61, 67, 85, 116, 120, 126, 144, 168] 5 rfl).trans (by simp (maxSteps := 10000000) only [R89_13, ↓F6224_89, bindI, Option.bind_some, if_true_, and_self, ite_true, true_and, true_or, or_true])
set_option maxRecDepth 100000 in
theorem r167_120 (d : Nat) (s0 : Int) : Ev prog clsT X d mc167 120 [(2, 89), (3, 0)] [(0, s0)] (mk E c s (hh g)) =
  (if cmpI .lt s0 48 = true then
  (if cmpI .le ((w32 (((g 89 20)) - ((g 89 21))))) 4 = true then
    (some ((3, 0), ((mk E c s (hh (up g 89 22 2))))))
  else
    (some ((3, 0), ((mk E c s (hh (up g 89 22 4)))))))
else
  ((Call prog clsT X d 168 [(2, 89), (0, (g 89 20))] ((mk E c s (hh g)))).bind fun r1 => if r1.1.1 = 4 then none else
    Ev prog clsT X d mc167 126 [(2, 89), (3, 0)] (pushR r1.1 []) r1.2)) :=
  (evk_at (r := (if cmpI .lt s0 48 = true then
  ((fget 6224 ((mk E c s (hh g))) 89).bind fun v1 =>
    (fget 6228 ((mk E c s (hh g))) 89).bind fun v2 =>
    if cmpI .le ((w32 (v1 - v2))) 4 = true then
    ((fput 6232 ((mk E c s (hh g))) 89 2).bind fun M3 =>
      some ((3, 0), M3))
  else
    ((fput 6232 ((mk E c s (hh g))) 89 4).bind fun M4 =>
      some ((3, 0), M4)))
else
  ((fget 6224 ((mk E c s (hh g))) 89).bind fun v5 =>
    if (2 : Nat) = 2 ∧ rcv ((mk E c s (hh g))) 89 13 = true then
    ((Call prog clsT X d 168 [(2, 89), (0, v5)] ((mk E c s (hh g)))).bind fun r6 => if r6.1.1 = 4 then none else
    Ev prog clsT X d mc167 126 [(2, 89), (3, 0)] (pushR r6.1 []) r6.2) else none))) X [0, 26, 57, 61, 67, 85, 116, 120, 126, 144, 168] 15 rfl).trans (by simp (maxSteps := 10000000) only [R89_13, ↓F6224_89, ↓F6228_89, ↓W6232_89, bindI, Option.bind_some, if_true_, and_self, ite_true, true_and, true_or, or_true])
set_option maxRecDepth 100000 in
theorem r167_126 (d : Nat) (s0 : Int) : Ev prog clsT X d mc167 126 [(2, 89), (3, 0)] [(0, s0)] (mk E c s (hh g)) =
  (if cmpI .gt s0 57 = true then
  (if cmpI .le ((w32 (((g 89 20)) - ((g 89 21))))) 4 = true then
    (some ((3, 0), ((mk E c s (hh (up g 89 22 2))))))
  else
    (some ((3, 0), ((mk E c s (hh (up g 89 22 4)))))))
else
  (if cmpI .ge ((w32 (((g 89 20)) - ((g 89 21))))) 4 = true then
    (Ev prog clsT X d mc167 116 [(2, 89), (3, 0)] [] (mk E c s (hh (up g 89 20 ((w32 (((g 89 20)) + 1)))))))
  else
    ((Call prog clsT X d 168 [(2, 89), (0, (g 89 20))] ((mk E c s (hh g)))).bind fun r1 => if r1.1.1 = 4 then none else
      Ev prog clsT X d mc167 144 [(2, 89), (3, 0)] (pushR r1.1 [(0, (w32 (((g 89 24)) * 10))), (2, 89)]) r1.2))) :=
  (evk_at (r := (if cmpI .gt s0 57 = true then
  ((fget 6224 ((mk E c s (hh g))) 89).bind fun v1 =>
    (fget 6228 ((mk E c s (hh g))) 89).bind fun v2 =>
    if cmpI .le ((w32 (v1 - v2))) 4 = true then
    ((fput 6232 ((mk E c s (hh g))) 89 2).bind fun M3 =>
      some ((3, 0), M3))
  else
    ((fput 6232 ((mk E c s (hh g))) 89 4).bind fun M4 =>
      some ((3, 0), M4)))
else
  ((fget 6224 ((mk E c s (hh g))) 89).bind fun v5 =>
    (fget 6228 ((mk E c s (hh g))) 89).bind fun v6 =>
    if cmpI .ge ((w32 (v5 - v6))) 4 = true then
    ((fget 6224 ((mk E c s (hh g))) 89).bind fun v7 =>
      (fput 6224 ((mk E c s (hh g))) 89 ((w32 (v7 + 1)))).bind fun M8 =>
      Ev prog clsT X d mc167 116 [(2, 89), (3, 0)] [] M8)
  else
    ((fget 6240 ((mk E c s (hh g))) 89).bind fun v9 =>
      (fget 6224 ((mk E c s (hh g))) 89).bind fun v10 =>
      if (2 : Nat) = 2 ∧ rcv ((mk E c s (hh g))) 89 13 = true then
      ((Call prog clsT X d 168 [(2, 89), (0, v10)] ((mk E c s (hh g)))).bind fun r11 => if r11.1.1 = 4 then none else
      Ev prog clsT X d mc167 144 [(2, 89), (3, 0)] (pushR r11.1 [(0, (w32 (v9 * 10))), (2, 89)]) r11.2) else none)))) X [0, 26, 57, 61, 67, 85, 116, 120, 126, 144, 168] 19 rfl).trans (by simp (maxSteps := 10000000) only [R89_13, ↓F6224_89, ↓F6228_89, ↓F6240_89, ↓W6224_89, ↓W6232_89, bindI, Option.bind_some, if_true_, and_self, ite_true, true_and, true_or, or_true])
set_option maxRecDepth 100000 in
theorem r167_144 (d : Nat) (s1 s2 : Int) : Ev prog clsT X d mc167 144 [(2, 89), (3, 0)] [(0, s2), (0, s1), (2, 89)] (mk E c s (hh g)) =
  (Ev prog clsT X d mc167 116 [(2, 89), (3, 0)] [] (mk E c s (hh (up (up g 89 24 ((w32 (((w32 (s1 + s2))) - 48)))) 89 20 ((w32 (((g 89 20)) + 1))))))) :=
  (evk_at (r := ((fput 6240 ((mk E c s (hh g))) 89 ((w32 (((w32 (s1 + s2))) - 48)))).bind fun M1 =>
  (fget 6224 M1 89).bind fun v2 =>
  (fput 6224 M1 89 ((w32 (v2 + 1)))).bind fun M3 =>
  Ev prog clsT X d mc167 116 [(2, 89), (3, 0)] [] M3)) X [0, 26, 57, 61, 67, 85, 116, 120, 126, 144, 168] 13 rfl).trans (by simp (maxSteps := 10000000) only [uq_24_20, ↓F6224_89, ↓W6224_89, ↓W6240_89, bindI, Option.bind_some, if_true_, and_self, ite_true, true_and, true_or, or_true])
set_option maxRecDepth 100000 in
theorem r167_168 (d : Nat) (x1 : Int) : Ev prog clsT X d mc167 168 [(2, 89), (0, x1)] [] (mk E c s (hh g)) =
  (if cmpI .lt x1 40 = true then
  (if cmpI .eq x1 45 = true then
    (some ((3, 0), ((mk E c s (hh (up (up g 89 20 ((w32 (((g 89 20)) + 1)))) 89 22 3))))))
  else
    (if cmpI .lt x1 59 = true then
      (some ((3, 0), ((mk E c s (hh (up (up g 89 20 ((w32 (((g 89 20)) + 1)))) 89 22 4))))))
    else
      (if cmpI .gt x1 61 = true then
        (some ((3, 0), ((mk E c s (hh (up (up g 89 20 ((w32 (((g 89 20)) + 1)))) 89 22 4))))))
      else
        (some ((3, 0), ((mk E c s (hh (up (up g 89 20 ((w32 (((g 89 20)) + 1)))) 89 22 3)))))))))
else
  (if cmpI .le x1 43 = true then
    (some ((3, 0), ((mk E c s (hh (up (up g 89 20 ((w32 (((g 89 20)) + 1)))) 89 22 3))))))
  else
    (if cmpI .eq x1 45 = true then
      (some ((3, 0), ((mk E c s (hh (up (up g 89 20 ((w32 (((g 89 20)) + 1)))) 89 22 3))))))
    else
      (if cmpI .lt x1 59 = true then
        (some ((3, 0), ((mk E c s (hh (up (up g 89 20 ((w32 (((g 89 20)) + 1)))) 89 22 4))))))
      else
        (if cmpI .gt x1 61 = true then
          (some ((3, 0), ((mk E c s (hh (up (up g 89 20 ((w32 (((g 89 20)) + 1)))) 89 22 4))))))
        else
          (some ((3, 0), ((mk E c s (hh (up (up g 89 20 ((w32 (((g 89 20)) + 1)))) 89 22 3))))))))))) :=
  (evk_at (r := ((fget 6224 ((mk E c s (hh g))) 89).bind fun v1 =>
  (fput 6224 ((mk E c s (hh g))) 89 ((w32 (v1 + 1)))).bind fun M2 =>
  if cmpI .lt x1 40 = true then
  (if cmpI .eq x1 45 = true then
    ((fput 6232 M2 89 3).bind fun M3 =>
      some ((3, 0), M3))
  else
    (if cmpI .lt x1 59 = true then
      ((fput 6232 M2 89 4).bind fun M4 =>
        some ((3, 0), M4))
    else
      (if cmpI .gt x1 61 = true then
        ((fput 6232 M2 89 4).bind fun M5 =>
          some ((3, 0), M5))
      else
        ((fput 6232 M2 89 3).bind fun M6 =>
          some ((3, 0), M6)))))
else
  (if cmpI .le x1 43 = true then
    ((fput 6232 M2 89 3).bind fun M7 =>
      some ((3, 0), M7))
  else
    (if cmpI .eq x1 45 = true then
      ((fput 6232 M2 89 3).bind fun M8 =>
        some ((3, 0), M8))
    else
      (if cmpI .lt x1 59 = true then
        ((fput 6232 M2 89 4).bind fun M9 =>
          some ((3, 0), M9))
      else
        (if cmpI .gt x1 61 = true then
          ((fput 6232 M2 89 4).bind fun M10 =>
            some ((3, 0), M10))
        else
          ((fput 6232 M2 89 3).bind fun M11 =>
            some ((3, 0), M11)))))))) X [0, 26, 57, 61, 67, 85, 116, 120, 126, 144, 168] 27 rfl).trans (by simp (maxSteps := 10000000) only [↓F6224_89, ↓W6224_89, ↓W6232_89, bindI, Option.bind_some, if_true_, and_self, ite_true, true_and, true_or, or_true])
set_option maxRecDepth 100000 in
theorem r168_0 (d : Nat) (x1 : Int) : Ev prog clsT X d mc168 0 [(2, 89), (0, x1)] [] (mk E c s (hh g)) =
  (if cmpI .ge x1 ((g 89 19)) = true then
  (some ((0, 0), ((mk E c s (hh g)))))
else
  (if inb x1 1000 = true then
    (some ((0, (g 105 (Int.toNat x1))), ((mk E c s (hh g)))))
  else none)) :=
  (evk_at (r := ((fget 6220 ((mk E c s (hh g))) 89).bind fun v1 =>
  if cmpI .ge x1 v1 = true then
  (some ((0, 0), (mk E c s (hh g))))
else
  ((fget 6218 ((mk E c s (hh g))) 89).bind fun v2 =>
    (aget X 100 ((mk E c s (hh g))) v2 x1).bind fun v3 =>
    some ((0, v3), (mk E c s (hh g)))))) X [0] 11 rfl).trans (by simp (maxSteps := 10000000) only [↓A105, ↓F6218_89, ↓F6220_89, bindI, Option.bind_some, if_true_, and_self, ite_true, true_and, true_or, or_true])
set_option maxRecDepth 100000 in
theorem rc168_ (d : Nat) (x1 : Int) : Call prog clsT X (d + 1) 168 [(2, 89), (0, x1)] (mk E c s (hh g)) =
  (if cmpI .ge x1 ((g 89 19)) = true then
  (some ((0, 0), ((mk E c s (hh g)))))
else
  (if inb x1 1000 = true then
    (some ((0, (g 105 (Int.toNat x1))), ((mk E c s (hh g)))))
  else none)) :=
  (show Call prog clsT X (d + 1) 168 [(2, 89), (0, x1)] (mk E c s (hh g)) = Ev prog clsT X d mc168 0 [(2, 89), (0, x1)] [] (mk E c s (hh g)) from rfl).trans (r168_0 X E c s g d x1 )
set_option maxRecDepth 100000 in
theorem r169_0 (d : Nat) (x1 : Int) : Ev prog clsT X d mc169 0 [(2, 89), (0, x1), (3, 0)] [] (mk E c s (hh g)) =
  (Ev prog clsT X d mc169 2 [(2, 89), (0, x1), (0, 108)] [] (mk E c s (hh g))) :=
  evk_at X [0, 2, 38, 46, 56, 86, 161] 4 rfl
set_option maxRecDepth 100000 in
theorem rc169_ (d : Nat) (x1 : Int) : Call prog clsT X (d + 1) 169 [(2, 89), (0, x1)] (mk E c s (hh g)) =
  (Ev prog clsT X d mc169 2 [(2, 89), (0, x1), (0, 108)] [] (mk E c s (hh g))) :=
  (show Call prog clsT X (d + 1) 169 [(2, 89), (0, x1)] (mk E c s (hh g)) = Ev prog clsT X d mc169 0 [(2, 89), (0, x1), (3, 0)] [] (mk E c s (hh g)) from rfl).trans (r169_0 X E c s g d x1 )
set_option maxRecDepth 100000 in
theorem r169_2 (d : Nat) (x1 x2 : Int) : Ev prog clsT X d mc169 2 [(2, 89), (0, x1), (0, x2)] [] (mk E c s (hh g)) =
  (if cmpI .ge x2 117 = true then
  (if cmpI .ne x1 11 = true then
    (Ev prog clsT X d mc169 38 [(2, 89), (0, x1), (0, x2)] [] (mk E c s (hh (up (up (up (up (up g 107 12 0) 108 12 10) 109 12 0) 89 35 12000) 89 36 0))))
  else
    (Ev prog clsT X d mc169 38 [(2, 89), (0, x1), (0, x2)] [] (mk E c s (hh (up (up (up (up (up g 107 12 0) 108 12 10) 109 12 0) 89 35 12000) 89 36 1)))))
else
  (if inb x2 117 = true then
    (Ev prog clsT X d mc169 2 [(2, 89), (0, x1), (0, (w32 (x2 + 1)))] [] (mk E c s (hh (up g 110 (Int.toNat x2) (bit1 (0))))))
  else none)) :=
  (evk_at (r := (if cmpI .ge x2 117 = true then
  ((fget 6254 ((mk E c s (hh g))) 89).bind fun v1 =>
    (aput 100 ((mk E c s (hh g))) v1 12 (0)).bind fun M2 =>
    (fget 6258 M2 89).bind fun v3 =>
    (aput 100 M2 v3 12 (10)).bind fun M4 =>
    (fget 6262 M4 89).bind fun v5 =>
    (aput 100 M4 v5 12 (0)).bind fun M6 =>
    (fput 6284 M6 89 12000).bind fun M7 =>
    if cmpI .ne x1 11 = true then
    ((fput 6291 M7 89 0).bind fun M8 =>
      Ev prog clsT X d mc169 38 [(2, 89), (0, x1), (0, x2)] [] M8)
  else
    ((fput 6291 M7 89 1).bind fun M9 =>
      Ev prog clsT X d mc169 38 [(2, 89), (0, x1), (0, x2)] [] M9))
else
  ((fget 6266 ((mk E c s (hh g))) 89).bind fun v10 =>
    (aput 102 ((mk E c s (hh g))) v10 x2 (bit1 (0))).bind fun M11 =>
    Ev prog clsT X d mc169 2 [(2, 89), (0, x1), (0, (w32 (x2 + 1)))] [] M11))) X [0, 2, 38, 46, 56, 86, 161] 30 rfl).trans (by simp (maxSteps := 10000000) only [inbL 12 13 rfl, tn12, ↓F6254_89, ↓F6258_89, ↓F6262_89, ↓F6266_89, ↓S107, ↓S108, ↓S109, ↓S110, ↓W6284_89, ↓W6291_89, bindI, Option.bind_some, if_true_, and_self, ite_true, true_and, true_or, or_true])
set_option maxRecDepth 100000 in
theorem r169_38 (d : Nat) (x1 : Int) (w2 : MV) : Ev prog clsT X d mc169 38 [(2, 89), (0, x1), w2] [] (mk E c s (hh g)) =
  (if cmpI .eq ((g 89 22)) 0 = true then
  (if inb x1 13 = true then
    (if inb x1 13 = true then
    (if inb x1 13 = true then
    (Ev prog clsT X d mc169 86 [(2, 89), (0, x1), (0, 0)] [] (mk E c s (hh (up (up (up g 107 (Int.toNat x1) ((g 107 12))) 108 (Int.toNat x1) ((g 108 12))) 109 (Int.toNat x1) ((g 109 12))))))
  else none)
  else none)
  else none)
else
  (if cmpI .eq ((g 89 36)) 0 = true then
    (if cmpI .ne x1 10 = true then
      ((Call prog clsT X d 182 [(2, 89), (0, 0)] ((mk E c s (hh g)))).bind fun r1 => if r1.1.1 = 4 then none else
        Ev prog clsT X d mc169 56 [(2, 89), (0, x1), (3, 0)] (pushR r1.1 []) r1.2)
    else
      ((Call prog clsT X d 182 [(2, 89), (0, 1)] ((mk E c s (hh g)))).bind fun r2 => if r2.1.1 = 4 then none else
        Ev prog clsT X d mc169 56 [(2, 89), (0, x1), (3, 0)] (pushR r2.1 []) r2.2))
  else
    ((Call prog clsT X d 170 [(2, 89)] ((mk E c s (hh g)))).bind fun r3 => if r3.1.1 = 4 then none else
      Ev prog clsT X d mc169 46 [(2, 89), (0, x1), (3, 0)] (pushR r3.1 []) r3.2))) :=
  (evk_at (r := ((fget 6232 ((mk E c s (hh g))) 89).bind fun v1 =>
  if cmpI .eq v1 0 = true then
  ((fget 6254 ((mk E c s (hh g))) 89).bind fun v2 =>
    (fget 6254 ((mk E c s (hh g))) 89).bind fun v3 =>
    (aget X 100 ((mk E c s (hh g))) v3 12).bind fun v4 =>
    (aput 100 ((mk E c s (hh g))) v2 x1 (v4)).bind fun M5 =>
    (fget 6258 M5 89).bind fun v6 =>
    (fget 6258 M5 89).bind fun v7 =>
    (aget X 100 M5 v7 12).bind fun v8 =>
    (aput 100 M5 v6 x1 (v8)).bind fun M9 =>
    (fget 6262 M9 89).bind fun v10 =>
    (fget 6262 M9 89).bind fun v11 =>
    (aget X 100 M9 v11 12).bind fun v12 =>
    (aput 100 M9 v10 x1 (v12)).bind fun M13 =>
    Ev prog clsT X d mc169 86 [(2, 89), (0, x1), (0, 0)] [] M13)
else
  ((fget 6291 ((mk E c s (hh g))) 89).bind fun v14 =>
    if cmpI .eq v14 0 = true then
    (if cmpI .ne x1 10 = true then
      (if (2 : Nat) = 2 ∧ rcv ((mk E c s (hh g))) 89 13 = true then
        ((Call prog clsT X d 182 [(2, 89), (0, 0)] ((mk E c s (hh g)))).bind fun r15 => if r15.1.1 = 4 then none else
        Ev prog clsT X d mc169 56 [(2, 89), (0, x1), (3, 0)] (pushR r15.1 []) r15.2) else none)
    else
      (if (2 : Nat) = 2 ∧ rcv ((mk E c s (hh g))) 89 13 = true then
        ((Call prog clsT X d 182 [(2, 89), (0, 1)] ((mk E c s (hh g)))).bind fun r16 => if r16.1.1 = 4 then none else
        Ev prog clsT X d mc169 56 [(2, 89), (0, x1), (3, 0)] (pushR r16.1 []) r16.2) else none))
  else
    (if (2 : Nat) = 2 ∧ rcv ((mk E c s (hh g))) 89 13 = true then
      ((Call prog clsT X d 170 [(2, 89)] ((mk E c s (hh g)))).bind fun r17 => if r17.1.1 = 4 then none else
      Ev prog clsT X d mc169 46 [(2, 89), (0, x1), (3, 0)] (pushR r17.1 []) r17.2) else none)))) X [0, 2, 38, 46, 56, 86, 161] 31 rfl).trans (by simp (maxSteps := 10000000) only [R89_13, inbL 12 13 rfl, tn12, uc_107_108, uc_107_109, uc_108_109, ↓A107, ↓A108, ↓A109, ↓F6232_89, ↓F6254_89, ↓F6258_89, ↓F6262_89, ↓F6291_89, ↓S107, ↓S108, ↓S109, bindI, Option.bind_some, if_true_, and_self, ite_true, true_and, true_or, or_true])
set_option maxRecDepth 100000 in
theorem r169_46 (d : Nat) (x1 s0 : Int) : Ev prog clsT X d mc169 46 [(2, 89), (0, x1), (3, 0)] [(0, s0)] (mk E c s (hh g)) =
  (if cmpI .eq s0 0 = true then
  (some ((0, (g 89 25)), ((mk E c s (hh g)))))
else
  (Ev prog clsT X d mc169 38 [(2, 89), (0, x1), (3, 0)] [] (mk E c s (hh g)))) :=
  (evk_at (r := (if cmpI .eq s0 0 = true then
  ((fget 6244 ((mk E c s (hh g))) 89).bind fun v1 =>
    some ((0, v1), (mk E c s (hh g))))
else
  (Ev prog clsT X d mc169 38 [(2, 89), (0, x1), (3, 0)] [] (mk E c s (hh g))))) X [0, 2, 38, 46, 56, 86, 161] 5 rfl).trans (by simp (maxSteps := 10000000) only [↓F6244_89, bindI, Option.bind_some, if_true_, and_self, ite_true, true_and, true_or, or_true])
set_option maxRecDepth 100000 in
theorem r169_56 (d : Nat) (x1 s0 : Int) : Ev prog clsT X d mc169 56 [(2, 89), (0, x1), (3, 0)] [(0, s0)] (mk E c s (hh g)) =
  (if cmpI .ne s0 0 = true then
  (Ev prog clsT X d mc169 38 [(2, 89), (0, x1), (3, 0)] [] (mk E c s (hh g)))
else
  (some ((0, (g 89 25)), ((mk E c s (hh g)))))) :=
  (evk_at (r := (if cmpI .ne s0 0 = true then
  (Ev prog clsT X d mc169 38 [(2, 89), (0, x1), (3, 0)] [] (mk E c s (hh g)))
else
  ((fget 6244 ((mk E c s (hh g))) 89).bind fun v1 =>
    some ((0, v1), (mk E c s (hh g)))))) X [0, 2, 38, 46, 56, 86, 161] 5 rfl).trans (by simp (maxSteps := 10000000) only [↓F6244_89, bindI, Option.bind_some, if_true_, and_self, ite_true, true_and, true_or, or_true])
set_option maxRecDepth 100000 in
theorem r169_86 (d : Nat) (x1 x2 : Int) : Ev prog clsT X d mc169 86 [(2, 89), (0, x1), (0, x2)] [] (mk E c s (hh g)) =
  (if cmpI .ge x2 9 = true then
  (Ev prog clsT X d mc169 161 [(2, 89), (0, x1), (0, 0)] [] (mk E c s (hh g)))
else
  (if inb ((w32 (108 + x2))) 117 = true then
    (if inb ((w32 (((w32 (9 * x1))) + x2))) 117 = true then
    (if inb ((w32 (108 + x2))) 117 = true then
    (if inb ((w32 (((w32 (9 * x1))) + x2))) 117 = true then
    (if inb ((w32 (108 + x2))) 117 = true then
    (if inb ((w32 (((w32 (9 * x1))) + x2))) 117 = true then
    (if inb ((w32 (108 + x2))) 117 = true then
    (if inb ((w32 (((w32 (9 * x1))) + x2))) 117 = true then
    (Ev prog clsT X d mc169 86 [(2, 89), (0, x1), (0, (w32 (x2 + 1)))] [] (mk E c s (hh (up (up (up (up g 110 (Int.toNat ((w32 (((w32 (9 * x1))) + x2)))) (bit1 ((g 110 (Int.toNat ((w32 (108 + x2)))))))) 111 (Int.toNat ((w32 (((w32 (9 * x1))) + x2)))) ((g 111 (Int.toNat ((w32 (108 + x2))))))) 112 (Int.toNat ((w32 (((w32 (9 * x1))) + x2)))) ((w32 (((w32 (((g 112 (Int.toNat ((w32 (108 + x2)))))) - 12000))) + ((w32 (1000 * x1))))))) 113 (Int.toNat ((w32 (((w32 (9 * x1))) + x2)))) ((w32 (((w32 (((g 113 (Int.toNat ((w32 (108 + x2)))))) - 12000))) + ((w32 (1000 * x1))))))))))
  else none)
  else none)
  else none)
  else none)
  else none)
  else none)
  else none)
  else none)) :=
  (evk_at (r := (if cmpI .ge x2 9 = true then
  (Ev prog clsT X d mc169 161 [(2, 89), (0, x1), (0, 0)] [] (mk E c s (hh g)))
else
  ((fget 6266 ((mk E c s (hh g))) 89).bind fun v1 =>
    (fget 6266 ((mk E c s (hh g))) 89).bind fun v2 =>
    (aget X 102 ((mk E c s (hh g))) v2 ((w32 (108 + x2)))).bind fun v3 =>
    (aput 102 ((mk E c s (hh g))) v1 ((w32 (((w32 (9 * x1))) + x2))) (bit1 (v3))).bind fun M4 =>
    (fget 6270 M4 89).bind fun v5 =>
    (fget 6270 M4 89).bind fun v6 =>
    (aget X 100 M4 v6 ((w32 (108 + x2)))).bind fun v7 =>
    (aput 100 M4 v5 ((w32 (((w32 (9 * x1))) + x2))) (v7)).bind fun M8 =>
    (fget 6274 M8 89).bind fun v9 =>
    (fget 6274 M8 89).bind fun v10 =>
    (aget X 100 M8 v10 ((w32 (108 + x2)))).bind fun v11 =>
    (aput 100 M8 v9 ((w32 (((w32 (9 * x1))) + x2))) ((w32 (((w32 (v11 - 12000))) + ((w32 (1000 * x1))))))).bind fun M12 =>
    (fget 6278 M12 89).bind fun v13 =>
    (fget 6278 M12 89).bind fun v14 =>
    (aget X 100 M12 v14 ((w32 (108 + x2)))).bind fun v15 =>
    (aput 100 M12 v13 ((w32 (((w32 (9 * x1))) + x2))) ((w32 (((w32 (v15 - 12000))) + ((w32 (1000 * x1))))))).bind fun M16 =>
    Ev prog clsT X d mc169 86 [(2, 89), (0, x1), (0, (w32 (x2 + 1)))] [] M16))) X [0, 2, 38, 46, 56, 86, 161] 75 rfl).trans (by simp (maxSteps := 10000000) only [uc_110_111, uc_110_112, uc_110_113, uc_111_112, uc_111_113, uc_112_113, ↓A110, ↓A111, ↓A112, ↓A113, ↓F6266_89, ↓F6270_89, ↓F6274_89, ↓F6278_89, ↓S110, ↓S111, ↓S112, ↓S113, bindI, Option.bind_some, if_true_, and_self, ite_true, true_and, true_or, or_true])
set_option maxRecDepth 100000 in
theorem r169_161 (d : Nat) (x1 x2 : Int) : Ev prog clsT X d mc169 161 [(2, 89), (0, x1), (0, x2)] [] (mk E c s (hh g)) =
  (if cmpI .ge x2 1000 = true then
  (some ((0, 0), ((mk E c s (hh g)))))
else
  (if inb ((w32 (12000 + x2))) 13000 = true then
    (if inb ((w32 (((w32 (1000 * x1))) + x2))) 13000 = true then
    (Ev prog clsT X d mc169 161 [(2, 89), (0, x1), (0, (w32 (x2 + 1)))] [] (mk E c s (hh (up g 114 (Int.toNat ((w32 (((w32 (1000 * x1))) + x2)))) ((g 114 (Int.toNat ((w32 (12000 + x2))))))))))
  else none)
  else none)) :=
  (evk_at (r := (if cmpI .ge x2 1000 = true then
  (some ((0, 0), (mk E c s (hh g))))
else
  ((fget 6282 ((mk E c s (hh g))) 89).bind fun v1 =>
    (fget 6282 ((mk E c s (hh g))) 89).bind fun v2 =>
    (aget X 100 ((mk E c s (hh g))) v2 ((w32 (12000 + x2)))).bind fun v3 =>
    (aput 100 ((mk E c s (hh g))) v1 ((w32 (((w32 (1000 * x1))) + x2))) (v3)).bind fun M4 =>
    Ev prog clsT X d mc169 161 [(2, 89), (0, x1), (0, (w32 (x2 + 1)))] [] M4))) X [0, 2, 38, 46, 56, 86, 161] 21 rfl).trans (by simp (maxSteps := 10000000) only [↓A114, ↓F6282_89, ↓S114, bindI, Option.bind_some, if_true_, and_self, ite_true, true_and, true_or, or_true])
set_option maxRecDepth 100000 in
theorem r170_0 (d : Nat) : Ev prog clsT X d mc170 0 [(2, 89), (3, 0)] [] (mk E c s (hh g)) =
  ((Call prog clsT X d 171 [(2, 89), (1, 92275)] ((mk E c s (hh g)))).bind fun r1 => if r1.1.1 = 4 then none else
  Ev prog clsT X d mc170 3 [(2, 89), (3, 0)] (pushR r1.1 []) r1.2) :=
  (evk_at (r := (if (2 : Nat) = 2 ∧ rcv ((mk E c s (hh g))) 89 13 = true then
  ((Call prog clsT X d 171 [(2, 89), (1, 92275)] ((mk E c s (hh g)))).bind fun r1 => if r1.1.1 = 4 then none else
  Ev prog clsT X d mc170 3 [(2, 89), (3, 0)] (pushR r1.1 []) r1.2) else none)) X [0, 3, 9, 15, 25, 30] 4 rfl).trans (by simp (maxSteps := 10000000) only [R89_13, bindI, Option.bind_some, if_true_, and_self, ite_true, true_and, true_or, or_true])
set_option maxRecDepth 100000 in
theorem rc170_ (d : Nat) : Call prog clsT X (d + 1) 170 [(2, 89)] (mk E c s (hh g)) =
  ((Call prog clsT X d 171 [(2, 89), (1, 92275)] ((mk E c s (hh g)))).bind fun r1 => if r1.1.1 = 4 then none else
  Ev prog clsT X d mc170 3 [(2, 89), (3, 0)] (pushR r1.1 []) r1.2) :=
  (show Call prog clsT X (d + 1) 170 [(2, 89)] (mk E c s (hh g)) = Ev prog clsT X d mc170 0 [(2, 89), (3, 0)] [] (mk E c s (hh g)) from rfl).trans (r170_0 X E c s g d  )
set_option maxRecDepth 100000 in
theorem r170_3 (d : Nat) (s0 : Int) : Ev prog clsT X d mc170 3 [(2, 89), (3, 0)] [(0, s0)] (mk E c s (hh g)) =
  (if cmpI .eq s0 0 = true then
  ((Call prog clsT X d 171 [(2, 89), (1, 10421318)] ((mk E c s (hh g)))).bind fun r1 => if r1.1.1 = 4 then none else
    Ev prog clsT X d mc170 9 [(2, 89), (3, 0)] (pushR r1.1 []) r1.2)
else
  (if cmpI .ge 0 0 = true then
    ((Call prog clsT X d 173 [(2, 89), (0, 0), (0, 1)] ((mk E c s (hh g)))).bind fun r2 => if r2.1.1 = 4 then none else
      Ev prog clsT X d mc170 30 [(2, 89), (0, 0)] (pushR r2.1 []) r2.2)
  else
    ((Call prog clsT X d 172 [(2, 89), (0, 1)] ((mk E c s (hh g)))).bind fun r3 => if r3.1.1 = 4 then none else
      Ev prog clsT X d mc170 25 [(2, 89), (0, 0)] (pushR r3.1 []) r3.2))) :=
  (evk_at (r := (if cmpI .eq s0 0 = true then
  (if (2 : Nat) = 2 ∧ rcv ((mk E c s (hh g))) 89 13 = true then
    ((Call prog clsT X d 171 [(2, 89), (1, 10421318)] ((mk E c s (hh g)))).bind fun r1 => if r1.1.1 = 4 then none else
    Ev prog clsT X d mc170 9 [(2, 89), (3, 0)] (pushR r1.1 []) r1.2) else none)
else
  (if cmpI .ge 0 0 = true then
    (if (2 : Nat) = 2 ∧ rcv ((mk E c s (hh g))) 89 13 = true then
      ((Call prog clsT X d 173 [(2, 89), (0, 0), (0, 1)] ((mk E c s (hh g)))).bind fun r2 => if r2.1.1 = 4 then none else
      Ev prog clsT X d mc170 30 [(2, 89), (0, 0)] (pushR r2.1 []) r2.2) else none)
  else
    (if (2 : Nat) = 2 ∧ rcv ((mk E c s (hh g))) 89 13 = true then
      ((Call prog clsT X d 172 [(2, 89), (0, 1)] ((mk E c s (hh g)))).bind fun r3 => if r3.1.1 = 4 then none else
      Ev prog clsT X d mc170 25 [(2, 89), (0, 0)] (pushR r3.1 []) r3.2) else none)))) X [0, 3, 9, 15, 25, 30] 11 rfl).trans (by simp (maxSteps := 10000000) only [R89_13, bindI, Option.bind_some, if_true_, and_self, ite_true, true_and, true_or, or_true])
set_option maxRecDepth 100000 in
theorem r170_9 (d : Nat) (s0 : Int) : Ev prog clsT X d mc170 9 [(2, 89), (3, 0)] [(0, s0)] (mk E c s (hh g)) =
  (if cmpI .eq s0 0 = true then
  ((Call prog clsT X d 171 [(2, 89), (1, 208022)] ((mk E c s (hh g)))).bind fun r1 => if r1.1.1 = 4 then none else
    Ev prog clsT X d mc170 15 [(2, 89), (3, 0)] (pushR r1.1 []) r1.2)
else
  (if cmpI .ge 1 0 = true then
    ((Call prog clsT X d 173 [(2, 89), (0, 1), (0, 1)] ((mk E c s (hh g)))).bind fun r2 => if r2.1.1 = 4 then none else
      Ev prog clsT X d mc170 30 [(2, 89), (0, 1)] (pushR r2.1 []) r2.2)
  else
    ((Call prog clsT X d 172 [(2, 89), (0, 1)] ((mk E c s (hh g)))).bind fun r3 => if r3.1.1 = 4 then none else
      Ev prog clsT X d mc170 25 [(2, 89), (0, 1)] (pushR r3.1 []) r3.2))) :=
  (evk_at (r := (if cmpI .eq s0 0 = true then
  (if (2 : Nat) = 2 ∧ rcv ((mk E c s (hh g))) 89 13 = true then
    ((Call prog clsT X d 171 [(2, 89), (1, 208022)] ((mk E c s (hh g)))).bind fun r1 => if r1.1.1 = 4 then none else
    Ev prog clsT X d mc170 15 [(2, 89), (3, 0)] (pushR r1.1 []) r1.2) else none)
else
  (if cmpI .ge 1 0 = true then
    (if (2 : Nat) = 2 ∧ rcv ((mk E c s (hh g))) 89 13 = true then
      ((Call prog clsT X d 173 [(2, 89), (0, 1), (0, 1)] ((mk E c s (hh g)))).bind fun r2 => if r2.1.1 = 4 then none else
      Ev prog clsT X d mc170 30 [(2, 89), (0, 1)] (pushR r2.1 []) r2.2) else none)
  else
    (if (2 : Nat) = 2 ∧ rcv ((mk E c s (hh g))) 89 13 = true then
      ((Call prog clsT X d 172 [(2, 89), (0, 1)] ((mk E c s (hh g)))).bind fun r3 => if r3.1.1 = 4 then none else
      Ev prog clsT X d mc170 25 [(2, 89), (0, 1)] (pushR r3.1 []) r3.2) else none)))) X [0, 3, 9, 15, 25, 30] 11 rfl).trans (by simp (maxSteps := 10000000) only [R89_13, bindI, Option.bind_some, if_true_, and_self, ite_true, true_and, true_or, or_true])
set_option maxRecDepth 100000 in
theorem r170_15 (d : Nat) (s0 : Int) : Ev prog clsT X d mc170 15 [(2, 89), (3, 0)] [(0, s0)] (mk E c s (hh g)) =
  (if cmpI .eq s0 0 = true then
  (if cmpI .ge ((-1)) 0 = true then
    ((Call prog clsT X d 173 [(2, 89), (0, (-1)), (0, 1)] ((mk E c s (hh g)))).bind fun r1 => if r1.1.1 = 4 then none else
      Ev prog clsT X d mc170 30 [(2, 89), (0, (-1))] (pushR r1.1 []) r1.2)
  else
    ((Call prog clsT X d 172 [(2, 89), (0, 1)] ((mk E c s (hh g)))).bind fun r2 => if r2.1.1 = 4 then none else
      Ev prog clsT X d mc170 25 [(2, 89), (0, (-1))] (pushR r2.1 []) r2.2))
else
  (if cmpI .ge 2 0 = true then
    ((Call prog clsT X d 173 [(2, 89), (0, 2), (0, 1)] ((mk E c s (hh g)))).bind fun r3 => if r3.1.1 = 4 then none else
      Ev prog clsT X d mc170 30 [(2, 89), (0, 2)] (pushR r3.1 []) r3.2)
  else
    ((Call prog clsT X d 172 [(2, 89), (0, 1)] ((mk E c s (hh g)))).bind fun r4 => if r4.1.1 = 4 then none else
      Ev prog clsT X d mc170 25 [(2, 89), (0, 2)] (pushR r4.1 []) r4.2))) :=
  (evk_at (r := (if cmpI .eq s0 0 = true then
  (if cmpI .ge ((-1)) 0 = true then
    (if (2 : Nat) = 2 ∧ rcv ((mk E c s (hh g))) 89 13 = true then
      ((Call prog clsT X d 173 [(2, 89), (0, (-1)), (0, 1)] ((mk E c s (hh g)))).bind fun r1 => if r1.1.1 = 4 then none else
      Ev prog clsT X d mc170 30 [(2, 89), (0, (-1))] (pushR r1.1 []) r1.2) else none)
  else
    (if (2 : Nat) = 2 ∧ rcv ((mk E c s (hh g))) 89 13 = true then
      ((Call prog clsT X d 172 [(2, 89), (0, 1)] ((mk E c s (hh g)))).bind fun r2 => if r2.1.1 = 4 then none else
      Ev prog clsT X d mc170 25 [(2, 89), (0, (-1))] (pushR r2.1 []) r2.2) else none))
else
  (if cmpI .ge 2 0 = true then
    (if (2 : Nat) = 2 ∧ rcv ((mk E c s (hh g))) 89 13 = true then
      ((Call prog clsT X d 173 [(2, 89), (0, 2), (0, 1)] ((mk E c s (hh g)))).bind fun r3 => if r3.1.1 = 4 then none else
      Ev prog clsT X d mc170 30 [(2, 89), (0, 2)] (pushR r3.1 []) r3.2) else none)
  else
    (if (2 : Nat) = 2 ∧ rcv ((mk E c s (hh g))) 89 13 = true then
      ((Call prog clsT X d 172 [(2, 89), (0, 1)] ((mk E c s (hh g)))).bind fun r4 => if r4.1.1 = 4 then none else
      Ev prog clsT X d mc170 25 [(2, 89), (0, 2)] (pushR r4.1 []) r4.2) else none)))) X [0, 3, 9, 15, 25, 30] 11 rfl).trans (by simp (maxSteps := 10000000) only [R89_13, bindI, Option.bind_some, if_true_, and_self, ite_true, true_and, true_or, or_true])
set_option maxRecDepth 100000 in
theorem r170_25 (d : Nat) (x1 s0 : Int) : Ev prog clsT X d mc170 25 [(2, 89), (0, x1)] [(0, s0)] (mk E c s (hh g)) =
  (Ev prog clsT X d mc170 30 [(2, 89), (0, x1)] [(0, s0)] (mk E c s (hh g))) :=
  evk_at X [0, 3, 9, 15, 25, 30] 3 rfl
set_option maxRecDepth 100000 in
theorem r170_30 (d : Nat) (x1 s0 : Int) : Ev prog clsT X d mc170 30 [(2, 89), (0, x1)] [(0, s0)] (mk E c s (hh g)) =
  (if (0 : Nat) = 0 ∧ one01 s0 = true then some ((0, s0), ((mk E c s (hh g)))) else none) :=
  (evk_at (r := (if (0 : Nat) = 0 ∧ one01 s0 = true then some ((0, s0), (mk E c s (hh g))) else none)) X [0, 3, 9, 15, 25, 30] 2 rfl).trans (by simp (maxSteps := 10000000) only [bindI, Option.bind_some, if_true_, and_self, ite_true, true_and, true_or, or_true])
set_option maxRecDepth 100000 in
theorem r171_0 (d : Nat) (x1 : Int) : Ev prog clsT X d mc171 0 [(2, 89), (1, x1), (3, 0)] [] (mk E c s (hh g)) =
  (if cmpI .ne ((g 89 22)) 1 = true then
  (some ((0, 0), ((mk E c s (hh g)))))
else
  (if cmpI .ne ((lcmpI ((g 89 23)) x1)) 0 = true then
    (some ((0, 0), ((mk E c s (hh g)))))
  else
    (some ((0, 1), ((mk E c s (hh g))))))) :=
  (evk_at (r := ((fget 6232 ((mk E c s (hh g))) 89).bind fun v1 =>
  if cmpI .ne v1 1 = true then
  (some ((0, 0), (mk E c s (hh g))))
else
  ((fget 6237 ((mk E c s (hh g))) 89).bind fun v2 =>
    if cmpI .ne ((lcmpI v2 x1)) 0 = true then
    (some ((0, 0), (mk E c s (hh g))))
  else
    (some ((0, 1), (mk E c s (hh g))))))) X [0] 13 rfl).trans (by simp (maxSteps := 10000000) only [↓F6232_89, ↓F6237_89, bindI, Option.bind_some, if_true_, and_self, ite_true, true_and, true_or, or_true])
set_option maxRecDepth 100000 in
theorem rc171_ (d : Nat) (x1 : Int) : Call prog clsT X (d + 1) 171 [(2, 89), (1, x1)] (mk E c s (hh g)) =
  (if cmpI .ne ((g 89 22)) 1 = true then
  (some ((0, 0), ((mk E c s (hh g)))))
else
  (if cmpI .ne ((lcmpI ((g 89 23)) x1)) 0 = true then
    (some ((0, 0), ((mk E c s (hh g)))))
  else
    (some ((0, 1), ((mk E c s (hh g))))))) :=
  (show Call prog clsT X (d + 1) 171 [(2, 89), (1, x1)] (mk E c s (hh g)) = Ev prog clsT X d mc171 0 [(2, 89), (1, x1), (3, 0)] [] (mk E c s (hh g)) from rfl).trans (r171_0 X E c s g d x1 )
set_option maxRecDepth 100000 in
theorem r172_0 (d : Nat) (x1 : Int) : Ev prog clsT X d mc172 0 [(2, 89), (0, x1)] [] (mk E c s (hh g)) =
  (some ((0, 0), ((mk E c s (hh (up g 89 25 ((w32 (x1 + ((w32 (16 * ((g 89 21)))))))))))))) :=
  (evk_at (r := ((fget 6228 ((mk E c s (hh g))) 89).bind fun v1 =>
  (fput 6244 ((mk E c s (hh g))) 89 ((w32 (x1 + ((w32 (16 * v1))))))).bind fun M2 =>
  some ((0, 0), M2))) X [0] 11 rfl).trans (by simp (maxSteps := 10000000) only [↓F6228_89, ↓W6244_89, bindI, Option.bind_some, if_true_, and_self, ite_true, true_and, true_or, or_true])
set_option maxRecDepth 100000 in
theorem rc172_ (d : Nat) (x1 : Int) : Call prog clsT X (d + 1) 172 [(2, 89), (0, x1)] (mk E c s (hh g)) =
  (some ((0, 0), ((mk E c s (hh (up g 89 25 ((w32 (x1 + ((w32 (16 * ((g 89 21)))))))))))))) :=
  (show Call prog clsT X (d + 1) 172 [(2, 89), (0, x1)] (mk E c s (hh g)) = Ev prog clsT X d mc172 0 [(2, 89), (0, x1)] [] (mk E c s (hh g)) from rfl).trans (r172_0 X E c s g d x1 )
set_option maxRecDepth 100000 in
theorem r173_0 (d : Nat) (x1 x2 : Int) : Ev prog clsT X d mc173 0 [(2, 89), (0, x1), (0, x2)] [] (mk E c s (hh g)) =
  (if inb ((w32 (108 + x1))) 117 = true then
  (if cmpI .eq ((g 110 (Int.toNat ((w32 (108 + x1)))))) 0 = true then
  ((Call prog clsT X d 167 [(2, 89)] ((mk E c s (hh g)))).bind fun r1 => if r1.1.1 = 4 then none else
    Ev prog clsT X d mc173 13 [(2, 89), (0, x1), (0, x2)] (pushR r1.1 []) r1.2)
else
  ((Call prog clsT X d 172 [(2, 89), (0, 3)] ((mk E c s (hh g)))).bind fun r2 => if r2.1.1 = 4 then none else
    Ev prog clsT X d mc173 10 [(2, 89), (0, x1), (0, x2)] (pushR r2.1 []) r2.2))
else none) :=
  (evk_at (r := ((fget 6266 ((mk E c s (hh g))) 89).bind fun v1 =>
  (aget X 102 ((mk E c s (hh g))) v1 ((w32 (108 + x1)))).bind fun v2 =>
  if cmpI .eq v2 0 = true then
  (if (2 : Nat) = 2 ∧ rcv ((mk E c s (hh g))) 89 13 = true then
    ((Call prog clsT X d 167 [(2, 89)] ((mk E c s (hh g)))).bind fun r3 => if r3.1.1 = 4 then none else
    Ev prog clsT X d mc173 13 [(2, 89), (0, x1), (0, x2)] (pushR r3.1 []) r3.2) else none)
else
  (if (2 : Nat) = 2 ∧ rcv ((mk E c s (hh g))) 89 13 = true then
    ((Call prog clsT X d 172 [(2, 89), (0, 3)] ((mk E c s (hh g)))).bind fun r4 => if r4.1.1 = 4 then none else
    Ev prog clsT X d mc173 10 [(2, 89), (0, x1), (0, x2)] (pushR r4.1 []) r4.2) else none))) X [0, 10, 13, 18, 22] 11 rfl).trans (by simp (maxSteps := 10000000) only [R89_13, ↓A110, ↓F6266_89, bindI, Option.bind_some, if_true_, and_self, ite_true, true_and, true_or, or_true])
set_option maxRecDepth 100000 in
theorem rc173_ (d : Nat) (x1 x2 : Int) : Call prog clsT X (d + 1) 173 [(2, 89), (0, x1), (0, x2)] (mk E c s (hh g)) =
  (if inb ((w32 (108 + x1))) 117 = true then
  (if cmpI .eq ((g 110 (Int.toNat ((w32 (108 + x1)))))) 0 = true then
  ((Call prog clsT X d 167 [(2, 89)] ((mk E c s (hh g)))).bind fun r1 => if r1.1.1 = 4 then none else
    Ev prog clsT X d mc173 13 [(2, 89), (0, x1), (0, x2)] (pushR r1.1 []) r1.2)
else
  ((Call prog clsT X d 172 [(2, 89), (0, 3)] ((mk E c s (hh g)))).bind fun r2 => if r2.1.1 = 4 then none else
    Ev prog clsT X d mc173 10 [(2, 89), (0, x1), (0, x2)] (pushR r2.1 []) r2.2))
else none) :=
  (show Call prog clsT X (d + 1) 173 [(2, 89), (0, x1), (0, x2)] (mk E c s (hh g)) = Ev prog clsT X d mc173 0 [(2, 89), (0, x1), (0, x2)] [] (mk E c s (hh g)) from rfl).trans (r173_0 X E c s g d x1 x2 )
set_option maxRecDepth 100000 in
theorem r173_10 (d : Nat) (x1 x2 s0 : Int) : Ev prog clsT X d mc173 10 [(2, 89), (0, x1), (0, x2)] [(0, s0)] (mk E c s (hh g)) =
  (if (0 : Nat) = 0 ∧ one01 s0 = true then some ((0, s0), ((mk E c s (hh g)))) else none) :=
  (evk_at (r := (if (0 : Nat) = 0 ∧ one01 s0 = true then some ((0, s0), (mk E c s (hh g))) else none)) X [0, 10, 13, 18, 22] 2 rfl).trans (by simp (maxSteps := 10000000) only [bindI, Option.bind_some, if_true_, and_self, ite_true, true_and, true_or, or_true])
set_option maxRecDepth 100000 in
theorem r173_13 (d : Nat) (x1 x2 : Int) : Ev prog clsT X d mc173 13 [(2, 89), (0, x1), (0, x2)] [] (mk E c s (hh g)) =
  (if cmpI .eq x2 0 = true then
  ((Call prog clsT X d 175 [(2, 89), (0, x1)] ((mk E c s (hh g)))).bind fun r1 => if r1.1.1 = 4 then none else
    Ev prog clsT X d mc173 22 [(2, 89), (0, x1), (0, x2)] (pushR r1.1 []) r1.2)
else
  ((Call prog clsT X d 174 [(2, 89), (0, x1)] ((mk E c s (hh g)))).bind fun r2 => if r2.1.1 = 4 then none else
    Ev prog clsT X d mc173 18 [(2, 89), (0, x1), (0, x2)] (pushR r2.1 []) r2.2)) :=
  (evk_at (r := (if cmpI .eq x2 0 = true then
  (if (2 : Nat) = 2 ∧ rcv ((mk E c s (hh g))) 89 13 = true then
    ((Call prog clsT X d 175 [(2, 89), (0, x1)] ((mk E c s (hh g)))).bind fun r1 => if r1.1.1 = 4 then none else
    Ev prog clsT X d mc173 22 [(2, 89), (0, x1), (0, x2)] (pushR r1.1 []) r1.2) else none)
else
  (if (2 : Nat) = 2 ∧ rcv ((mk E c s (hh g))) 89 13 = true then
    ((Call prog clsT X d 174 [(2, 89), (0, x1)] ((mk E c s (hh g)))).bind fun r2 => if r2.1.1 = 4 then none else
    Ev prog clsT X d mc173 18 [(2, 89), (0, x1), (0, x2)] (pushR r2.1 []) r2.2) else none))) X [0, 10, 13, 18, 22] 6 rfl).trans (by simp (maxSteps := 10000000) only [R89_13, bindI, Option.bind_some, if_true_, and_self, ite_true, true_and, true_or, or_true])
set_option maxRecDepth 100000 in
theorem r173_18 (d : Nat) (x1 x2 s0 : Int) : Ev prog clsT X d mc173 18 [(2, 89), (0, x1), (0, x2)] [(0, s0)] (mk E c s (hh g)) =
  (Ev prog clsT X d mc173 22 [(2, 89), (0, x1), (0, x2)] [(0, s0)] (mk E c s (hh g))) :=
  evk_at X [0, 10, 13, 18, 22] 3 rfl
set_option maxRecDepth 100000 in
theorem r173_22 (d : Nat) (x1 x2 s0 : Int) : Ev prog clsT X d mc173 22 [(2, 89), (0, x1), (0, x2)] [(0, s0)] (mk E c s (hh g)) =
  (if (0 : Nat) = 0 ∧ one01 s0 = true then some ((0, s0), ((mk E c s (hh g)))) else none) :=
  (evk_at (r := (if (0 : Nat) = 0 ∧ one01 s0 = true then some ((0, s0), (mk E c s (hh g))) else none)) X [0, 10, 13, 18, 22] 2 rfl).trans (by simp (maxSteps := 10000000) only [bindI, Option.bind_some, if_true_, and_self, ite_true, true_and, true_or, or_true])
set_option maxRecDepth 100000 in
theorem r174_0 (d : Nat) (x1 : Int) : Ev prog clsT X d mc174 0 [(2, 89), (0, x1)] [] (mk E c s (hh g)) =
  ((Call prog clsT X d 171 [(2, 89), (1, 458690)] ((mk E c s (hh g)))).bind fun r1 => if r1.1.1 = 4 then none else
  Ev prog clsT X d mc174 3 [(2, 89), (0, x1)] (pushR r1.1 []) r1.2) :=
  (evk_at (r := (if (2 : Nat) = 2 ∧ rcv ((mk E c s (hh g))) 89 13 = true then
  ((Call prog clsT X d 171 [(2, 89), (1, 458690)] ((mk E c s (hh g)))).bind fun r1 => if r1.1.1 = 4 then none else
  Ev prog clsT X d mc174 3 [(2, 89), (0, x1)] (pushR r1.1 []) r1.2) else none)) X [0, 3, 7, 10, 13] 4 rfl).trans (by simp (maxSteps := 10000000) only [R89_13, bindI, Option.bind_some, if_true_, and_self, ite_true, true_and, true_or, or_true])
set_option maxRecDepth 100000 in
theorem rc174_ (d : Nat) (x1 : Int) : Call prog clsT X (d + 1) 174 [(2, 89), (0, x1)] (mk E c s (hh g)) =
  ((Call prog clsT X d 171 [(2, 89), (1, 458690)] ((mk E c s (hh g)))).bind fun r1 => if r1.1.1 = 4 then none else
  Ev prog clsT X d mc174 3 [(2, 89), (0, x1)] (pushR r1.1 []) r1.2) :=
  (show Call prog clsT X (d + 1) 174 [(2, 89), (0, x1)] (mk E c s (hh g)) = Ev prog clsT X d mc174 0 [(2, 89), (0, x1)] [] (mk E c s (hh g)) from rfl).trans (r174_0 X E c s g d x1 )
set_option maxRecDepth 100000 in
theorem r174_3 (d : Nat) (x1 s0 : Int) : Ev prog clsT X d mc174 3 [(2, 89), (0, x1)] [(0, s0)] (mk E c s (hh g)) =
  (if cmpI .ne s0 0 = true then
  ((Call prog clsT X d 167 [(2, 89)] ((mk E c s (hh g)))).bind fun r1 => if r1.1.1 = 4 then none else
    Ev prog clsT X d mc174 10 [(2, 89), (0, x1)] (pushR r1.1 []) r1.2)
else
  ((Call prog clsT X d 172 [(2, 89), (0, 1)] ((mk E c s (hh g)))).bind fun r2 => if r2.1.1 = 4 then none else
    Ev prog clsT X d mc174 7 [(2, 89), (0, x1)] (pushR r2.1 []) r2.2)) :=
  (evk_at (r := (if cmpI .ne s0 0 = true then
  (if (2 : Nat) = 2 ∧ rcv ((mk E c s (hh g))) 89 13 = true then
    ((Call prog clsT X d 167 [(2, 89)] ((mk E c s (hh g)))).bind fun r1 => if r1.1.1 = 4 then none else
    Ev prog clsT X d mc174 10 [(2, 89), (0, x1)] (pushR r1.1 []) r1.2) else none)
else
  (if (2 : Nat) = 2 ∧ rcv ((mk E c s (hh g))) 89 13 = true then
    ((Call prog clsT X d 172 [(2, 89), (0, 1)] ((mk E c s (hh g)))).bind fun r2 => if r2.1.1 = 4 then none else
    Ev prog clsT X d mc174 7 [(2, 89), (0, x1)] (pushR r2.1 []) r2.2) else none))) X [0, 3, 7, 10, 13] 5 rfl).trans (by simp (maxSteps := 10000000) only [R89_13, bindI, Option.bind_some, if_true_, and_self, ite_true, true_and, true_or, or_true])
set_option maxRecDepth 100000 in
theorem r174_7 (d : Nat) (x1 s0 : Int) : Ev prog clsT X d mc174 7 [(2, 89), (0, x1)] [(0, s0)] (mk E c s (hh g)) =
  (if (0 : Nat) = 0 ∧ one01 s0 = true then some ((0, s0), ((mk E c s (hh g)))) else none) :=
  (evk_at (r := (if (0 : Nat) = 0 ∧ one01 s0 = true then some ((0, s0), (mk E c s (hh g))) else none)) X [0, 3, 7, 10, 13] 2 rfl).trans (by simp (maxSteps := 10000000) only [bindI, Option.bind_some, if_true_, and_self, ite_true, true_and, true_or, or_true])
set_option maxRecDepth 100000 in
theorem r174_10 (d : Nat) (x1 : Int) : Ev prog clsT X d mc174 10 [(2, 89), (0, x1)] [] (mk E c s (hh g)) =
  ((Call prog clsT X d 175 [(2, 89), (0, x1)] ((mk E c s (hh g)))).bind fun r1 => if r1.1.1 = 4 then none else
  Ev prog clsT X d mc174 13 [(2, 89), (0, x1)] (pushR r1.1 []) r1.2) :=
  (evk_at (r := (if (2 : Nat) = 2 ∧ rcv ((mk E c s (hh g))) 89 13 = true then
  ((Call prog clsT X d 175 [(2, 89), (0, x1)] ((mk E c s (hh g)))).bind fun r1 => if r1.1.1 = 4 then none else
  Ev prog clsT X d mc174 13 [(2, 89), (0, x1)] (pushR r1.1 []) r1.2) else none)) X [0, 3, 7, 10, 13] 4 rfl).trans (by simp (maxSteps := 10000000) only [R89_13, bindI, Option.bind_some, if_true_, and_self, ite_true, true_and, true_or, or_true])
set_option maxRecDepth 100000 in
theorem r174_13 (d : Nat) (x1 s0 : Int) : Ev prog clsT X d mc174 13 [(2, 89), (0, x1)] [(0, s0)] (mk E c s (hh g)) =
  (if (0 : Nat) = 0 ∧ one01 s0 = true then some ((0, s0), ((mk E c s (hh g)))) else none) :=
  (evk_at (r := (if (0 : Nat) = 0 ∧ one01 s0 = true then some ((0, s0), (mk E c s (hh g))) else none)) X [0, 3, 7, 10, 13] 2 rfl).trans (by simp (maxSteps := 10000000) only [bindI, Option.bind_some, if_true_, and_self, ite_true, true_and, true_or, or_true])
set_option maxRecDepth 100000 in
theorem r175_0 (d : Nat) (x1 : Int) : Ev prog clsT X d mc175 0 [(2, 89), (0, x1)] [] (mk E c s (hh g)) =
  (if inb ((w32 (108 + x1))) 117 = true then
  ((Call prog clsT X d 176 [(2, 89)] ((mk E c s (hh (up g 112 (Int.toNat ((w32 (108 + x1)))) ((g 89 35))))))).bind fun r1 => if r1.1.1 = 4 then none else
  Ev prog clsT X d mc175 10 [(2, 89), (0, x1)] (pushR r1.1 []) r1.2)
else none) :=
  (evk_at (r := ((fget 6274 ((mk E c s (hh g))) 89).bind fun v1 =>
  (fget 6284 ((mk E c s (hh g))) 89).bind fun v2 =>
  (aput 100 ((mk E c s (hh g))) v1 ((w32 (108 + x1))) (v2)).bind fun M3 =>
  if (2 : Nat) = 2 ∧ rcv M3 89 13 = true then
  ((Call prog clsT X d 176 [(2, 89)] M3).bind fun r4 => if r4.1.1 = 4 then none else
  Ev prog clsT X d mc175 10 [(2, 89), (0, x1)] (pushR r4.1 []) r4.2) else none)) X [0, 10] 11 rfl).trans (by simp (maxSteps := 10000000) only [R89_13, ↓F6274_89, ↓F6284_89, ↓S112, bindI, Option.bind_some, if_true_, and_self, ite_true, true_and, true_or, or_true])
set_option maxRecDepth 100000 in
theorem rc175_ (d : Nat) (x1 : Int) : Call prog clsT X (d + 1) 175 [(2, 89), (0, x1)] (mk E c s (hh g)) =
  (if inb ((w32 (108 + x1))) 117 = true then
  ((Call prog clsT X d 176 [(2, 89)] ((mk E c s (hh (up g 112 (Int.toNat ((w32 (108 + x1)))) ((g 89 35))))))).bind fun r1 => if r1.1.1 = 4 then none else
  Ev prog clsT X d mc175 10 [(2, 89), (0, x1)] (pushR r1.1 []) r1.2)
else none) :=
  (show Call prog clsT X (d + 1) 175 [(2, 89), (0, x1)] (mk E c s (hh g)) = Ev prog clsT X d mc175 0 [(2, 89), (0, x1)] [] (mk E c s (hh g)) from rfl).trans (r175_0 X E c s g d x1 )
set_option maxRecDepth 100000 in
theorem r175_10 (d : Nat) (x1 s0 : Int) : Ev prog clsT X d mc175 10 [(2, 89), (0, x1)] [(0, s0)] (mk E c s (hh g)) =
  (if cmpI .ne s0 0 = true then
  (if inb ((w32 (108 + x1))) 117 = true then
    (if inb ((w32 (108 + x1))) 117 = true then
    (some ((0, 1), ((mk E c s (hh (up (up g 113 (Int.toNat ((w32 (108 + x1)))) ((g 89 35))) 110 (Int.toNat ((w32 (108 + x1)))) (bit1 (1))))))))
  else none)
  else none)
else
  (some ((0, 0), ((mk E c s (hh g)))))) :=
  (evk_at (r := (if cmpI .ne s0 0 = true then
  ((fget 6278 ((mk E c s (hh g))) 89).bind fun v1 =>
    (fget 6284 ((mk E c s (hh g))) 89).bind fun v2 =>
    (aput 100 ((mk E c s (hh g))) v1 ((w32 (108 + x1))) (v2)).bind fun M3 =>
    (fget 6266 M3 89).bind fun v4 =>
    (aput 102 M3 v4 ((w32 (108 + x1))) (bit1 (1))).bind fun M5 =>
    some ((0, 1), M5))
else
  (some ((0, 0), (mk E c s (hh g)))))) X [0, 10] 19 rfl).trans (by simp (maxSteps := 10000000) only [↓F6266_89, ↓F6278_89, ↓F6284_89, ↓S110, ↓S113, bindI, Option.bind_some, if_true_, and_self, ite_true, true_and, true_or, or_true])
end
