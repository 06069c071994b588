/-! Part be: printed by a program: the equations of the constructors, of filling and of the start of the law. -/
section CTQ
variable (X : MExt)
set_option maxRecDepth 100000 in
theorem q83_0 (d : Nat) (x0 : Int) (M : Mem) : Ev prog clsT X d mc83 0 [(2, x0)] [] M =
  (if (2 : Nat) = 2 ∧ 0 ≤ x0 ∧ wt [] ≤ 60 then
  (if (2 : Nat) = 2 ∧ (2 : Nat) = fTg 5122 ∧ ((2 : Nat) = 2 → vref ((growF M 100 10 (fun _ => 0))) ((nx M)) = true) ∧ (fTy 5122 = 3 → one01 ((nx M)) = true) then (fput 5122 ((growF M 100 10 (fun _ => 0))) x0 ((nx M))).bind fun M1 =>
  (if (2 : Nat) = 2 ∧ (2 : Nat) = fTg 5126 ∧ ((2 : Nat) = 2 → vref ((growF M1 100 10 (fun _ => 0))) ((nx M1)) = true) ∧ (fTy 5126 = 3 → one01 ((nx M1)) = true) then (fput 5126 ((growF M1 100 10 (fun _ => 0))) x0 ((nx M1))).bind fun M2 =>
  (if (2 : Nat) = 2 ∧ (2 : Nat) = fTg 5130 ∧ ((2 : Nat) = 2 → vref ((growF M2 102 10 (fun _ => 0))) ((nx M2)) = true) ∧ (fTy 5130 = 3 → one01 ((nx M2)) = true) then (fput 5130 ((growF M2 102 10 (fun _ => 0))) x0 ((nx M2))).bind fun M3 =>
  (if (2 : Nat) = 2 ∧ (2 : Nat) = fTg 5134 ∧ ((2 : Nat) = 2 → vref ((growF M3 100 40 (fun _ => 0))) ((nx M3)) = true) ∧ (fTy 5134 = 3 → one01 ((nx M3)) = true) then (fput 5134 ((growF M3 100 40 (fun _ => 0))) x0 ((nx M3))).bind fun M4 =>
  (if (2 : Nat) = 2 ∧ (2 : Nat) = fTg 5138 ∧ ((2 : Nat) = 2 → vref ((growF M4 100 40 (fun _ => 0))) ((nx M4)) = true) ∧ (fTy 5138 = 3 → one01 ((nx M4)) = true) then (fput 5138 ((growF M4 100 40 (fun _ => 0))) x0 ((nx M4))).bind fun M5 =>
  (if (2 : Nat) = 2 ∧ (2 : Nat) = fTg 5142 ∧ ((2 : Nat) = 2 → vref ((growF M5 100 40 (fun _ => 0))) ((nx M5)) = true) ∧ (fTy 5142 = 3 → one01 ((nx M5)) = true) then (fput 5142 ((growF M5 100 40 (fun _ => 0))) x0 ((nx M5))).bind fun M6 =>
  (if (2 : Nat) = 2 ∧ (2 : Nat) = fTg 5146 ∧ ((2 : Nat) = 2 → vref ((growF M6 100 40 (fun _ => 0))) ((nx M6)) = true) ∧ (fTy 5146 = 3 → one01 ((nx M6)) = true) then (fput 5146 ((growF M6 100 40 (fun _ => 0))) x0 ((nx M6))).bind fun M7 =>
  ((fget 5122 M7 x0).bind fun v8 =>
  (Call prog clsT X d 248 [(2, v8), (0, (-1))] M7).bind fun r9 => if r9.1.1 = 4 then none else
  Ev prog clsT X d mc83 34 [(2, x0)] (pushR r9.1 []) r9.2) else none) else none) else none) else none) else none) else none) else none) else none) :=
  evk_at X [0, 34, 38] 35 rfl
set_option maxRecDepth 100000 in
theorem qc83 (d : Nat) (x0 : Int) (M : Mem) : Call prog clsT X (d + 1) 83 [(2, x0)] M =
  (if (2 : Nat) = 2 ∧ 0 ≤ x0 ∧ wt [] ≤ 60 then
  (if (2 : Nat) = 2 ∧ (2 : Nat) = fTg 5122 ∧ ((2 : Nat) = 2 → vref ((growF M 100 10 (fun _ => 0))) ((nx M)) = true) ∧ (fTy 5122 = 3 → one01 ((nx M)) = true) then (fput 5122 ((growF M 100 10 (fun _ => 0))) x0 ((nx M))).bind fun M1 =>
  (if (2 : Nat) = 2 ∧ (2 : Nat) = fTg 5126 ∧ ((2 : Nat) = 2 → vref ((growF M1 100 10 (fun _ => 0))) ((nx M1)) = true) ∧ (fTy 5126 = 3 → one01 ((nx M1)) = true) then (fput 5126 ((growF M1 100 10 (fun _ => 0))) x0 ((nx M1))).bind fun M2 =>
  (if (2 : Nat) = 2 ∧ (2 : Nat) = fTg 5130 ∧ ((2 : Nat) = 2 → vref ((growF M2 102 10 (fun _ => 0))) ((nx M2)) = true) ∧ (fTy 5130 = 3 → one01 ((nx M2)) = true) then (fput 5130 ((growF M2 102 10 (fun _ => 0))) x0 ((nx M2))).bind fun M3 =>
  (if (2 : Nat) = 2 ∧ (2 : Nat) = fTg 5134 ∧ ((2 : Nat) = 2 → vref ((growF M3 100 40 (fun _ => 0))) ((nx M3)) = true) ∧ (fTy 5134 = 3 → one01 ((nx M3)) = true) then (fput 5134 ((growF M3 100 40 (fun _ => 0))) x0 ((nx M3))).bind fun M4 =>
  (if (2 : Nat) = 2 ∧ (2 : Nat) = fTg 5138 ∧ ((2 : Nat) = 2 → vref ((growF M4 100 40 (fun _ => 0))) ((nx M4)) = true) ∧ (fTy 5138 = 3 → one01 ((nx M4)) = true) then (fput 5138 ((growF M4 100 40 (fun _ => 0))) x0 ((nx M4))).bind fun M5 =>
  (if (2 : Nat) = 2 ∧ (2 : Nat) = fTg 5142 ∧ ((2 : Nat) = 2 → vref ((growF M5 100 40 (fun _ => 0))) ((nx M5)) = true) ∧ (fTy 5142 = 3 → one01 ((nx M5)) = true) then (fput 5142 ((growF M5 100 40 (fun _ => 0))) x0 ((nx M5))).bind fun M6 =>
  (if (2 : Nat) = 2 ∧ (2 : Nat) = fTg 5146 ∧ ((2 : Nat) = 2 → vref ((growF M6 100 40 (fun _ => 0))) ((nx M6)) = true) ∧ (fTy 5146 = 3 → one01 ((nx M6)) = true) then (fput 5146 ((growF M6 100 40 (fun _ => 0))) x0 ((nx M6))).bind fun M7 =>
  ((fget 5122 M7 x0).bind fun v8 =>
  (Call prog clsT X d 248 [(2, v8), (0, (-1))] M7).bind fun r9 => if r9.1.1 = 4 then none else
  Ev prog clsT X d mc83 34 [(2, x0)] (pushR r9.1 []) r9.2) else none) else none) else none) else none) else none) else none) else none) else none) :=
  (show Call prog clsT X (d + 1) 83 [(2, x0)] M = Ev prog clsT X d mc83 0 [(2, x0)] [] M from rfl).trans (q83_0 X d x0  M)
set_option maxRecDepth 100000 in
theorem q83_34 (d : Nat) (x0 : Int) (M : Mem) : Ev prog clsT X d mc83 34 [(2, x0)] [] M =
  ((fget 5134 M x0).bind fun v1 =>
  (Call prog clsT X d 248 [(2, v1), (0, (-1))] M).bind fun r2 => if r2.1.1 = 4 then none else
  Ev prog clsT X d mc83 38 [(2, x0)] (pushR r2.1 []) r2.2) :=
  evk_at X [0, 34, 38] 5 rfl
set_option maxRecDepth 100000 in
theorem q83_38 (d : Nat) (x0 : Int) (M : Mem) : Ev prog clsT X d mc83 38 [(2, x0)] [] M =
  (some ((3, 0), M)) :=
  evk_at X [0, 34, 38] 2 rfl
set_option maxRecDepth 100000 in
theorem q17_0 (d : Nat) (x0 : Int) (M : Mem) : Ev prog clsT X d mc17 0 [(2, x0)] [] M =
  (if (2 : Nat) = 2 ∧ 0 ≤ x0 ∧ wt [] ≤ 60 then
  (if (2 : Nat) = 2 ∧ (2 : Nat) = fTg 1034 ∧ ((2 : Nat) = 2 → vref ((growF M 100 40 (fun _ => 0))) ((nx M)) = true) ∧ (fTy 1034 = 3 → one01 ((nx M)) = true) then (fput 1034 ((growF M 100 40 (fun _ => 0))) x0 ((nx M))).bind fun M1 =>
  (if (2 : Nat) = 2 ∧ (2 : Nat) = fTg 1038 ∧ ((2 : Nat) = 2 → vref ((growF M1 100 40 (fun _ => 0))) ((nx M1)) = true) ∧ (fTy 1038 = 3 → one01 ((nx M1)) = true) then (fput 1038 ((growF M1 100 40 (fun _ => 0))) x0 ((nx M1))).bind fun M2 =>
  (if (2 : Nat) = 2 ∧ (2 : Nat) = fTg 1042 ∧ ((2 : Nat) = 2 → vref ((growF M2 101 40 (fun _ => 0))) ((nx M2)) = true) ∧ (fTy 1042 = 3 → one01 ((nx M2)) = true) then (fput 1042 ((growF M2 101 40 (fun _ => 0))) x0 ((nx M2))).bind fun M3 =>
  (if (2 : Nat) = 2 ∧ (2 : Nat) = fTg 1046 ∧ ((2 : Nat) = 2 → vref ((growF M3 100 40 (fun _ => 0))) ((nx M3)) = true) ∧ (fTy 1046 = 3 → one01 ((nx M3)) = true) then (fput 1046 ((growF M3 100 40 (fun _ => 0))) x0 ((nx M3))).bind fun M4 =>
  (if (2 : Nat) = 2 ∧ (2 : Nat) = fTg 1050 ∧ ((2 : Nat) = 2 → vref ((growF M4 100 40 (fun _ => 0))) ((nx M4)) = true) ∧ (fTy 1050 = 3 → one01 ((nx M4)) = true) then (fput 1050 ((growF M4 100 40 (fun _ => 0))) x0 ((nx M4))).bind fun M5 =>
  (some ((3, 0), M5)) else none) else none) else none) else none) else none) else none) :=
  evk_at X [0] 24 rfl
set_option maxRecDepth 100000 in
theorem qc17 (d : Nat) (x0 : Int) (M : Mem) : Call prog clsT X (d + 1) 17 [(2, x0)] M =
  (if (2 : Nat) = 2 ∧ 0 ≤ x0 ∧ wt [] ≤ 60 then
  (if (2 : Nat) = 2 ∧ (2 : Nat) = fTg 1034 ∧ ((2 : Nat) = 2 → vref ((growF M 100 40 (fun _ => 0))) ((nx M)) = true) ∧ (fTy 1034 = 3 → one01 ((nx M)) = true) then (fput 1034 ((growF M 100 40 (fun _ => 0))) x0 ((nx M))).bind fun M1 =>
  (if (2 : Nat) = 2 ∧ (2 : Nat) = fTg 1038 ∧ ((2 : Nat) = 2 → vref ((growF M1 100 40 (fun _ => 0))) ((nx M1)) = true) ∧ (fTy 1038 = 3 → one01 ((nx M1)) = true) then (fput 1038 ((growF M1 100 40 (fun _ => 0))) x0 ((nx M1))).bind fun M2 =>
  (if (2 : Nat) = 2 ∧ (2 : Nat) = fTg 1042 ∧ ((2 : Nat) = 2 → vref ((growF M2 101 40 (fun _ => 0))) ((nx M2)) = true) ∧ (fTy 1042 = 3 → one01 ((nx M2)) = true) then (fput 1042 ((growF M2 101 40 (fun _ => 0))) x0 ((nx M2))).bind fun M3 =>
  (if (2 : Nat) = 2 ∧ (2 : Nat) = fTg 1046 ∧ ((2 : Nat) = 2 → vref ((growF M3 100 40 (fun _ => 0))) ((nx M3)) = true) ∧ (fTy 1046 = 3 → one01 ((nx M3)) = true) then (fput 1046 ((growF M3 100 40 (fun _ => 0))) x0 ((nx M3))).bind fun M4 =>
  (if (2 : Nat) = 2 ∧ (2 : Nat) = fTg 1050 ∧ ((2 : Nat) = 2 → vref ((growF M4 100 40 (fun _ => 0))) ((nx M4)) = true) ∧ (fTy 1050 = 3 → one01 ((nx M4)) = true) then (fput 1050 ((growF M4 100 40 (fun _ => 0))) x0 ((nx M4))).bind fun M5 =>
  (some ((3, 0), M5)) else none) else none) else none) else none) else none) else none) :=
  (show Call prog clsT X (d + 1) 17 [(2, x0)] M = Ev prog clsT X d mc17 0 [(2, x0)] [] M from rfl).trans (q17_0 X d x0  M)
set_option maxRecDepth 100000 in
theorem q33_0 (d : Nat) (x0 : Int) (M : Mem) : Ev prog clsT X d mc33 0 [(2, x0)] [] M =
  (if (2 : Nat) = 2 ∧ 0 ≤ x0 ∧ wt [] ≤ 60 then
  (if (2 : Nat) = 2 ∧ (2 : Nat) = fTg 2050 ∧ ((2 : Nat) = 2 → vref ((growF M 100 4 (fun _ => 0))) ((nx M)) = true) ∧ (fTy 2050 = 3 → one01 ((nx M)) = true) then (fput 2050 ((growF M 100 4 (fun _ => 0))) x0 ((nx M))).bind fun M1 =>
  (if (2 : Nat) = 2 ∧ (2 : Nat) = fTg 2054 ∧ ((2 : Nat) = 2 → vref ((growF M1 100 24 (fun _ => 0))) ((nx M1)) = true) ∧ (fTy 2054 = 3 → one01 ((nx M1)) = true) then (fput 2054 ((growF M1 100 24 (fun _ => 0))) x0 ((nx M1))).bind fun M2 =>
  (if (2 : Nat) = 2 ∧ (2 : Nat) = fTg 2058 ∧ ((2 : Nat) = 2 → vref ((growF M2 100 10 (fun _ => 0))) ((nx M2)) = true) ∧ (fTy 2058 = 3 → one01 ((nx M2)) = true) then (fput 2058 ((growF M2 100 10 (fun _ => 0))) x0 ((nx M2))).bind fun M3 =>
  ((fput 2060 M3 x0 4).bind fun M4 =>
  (fget 2050 M4 x0).bind fun v5 =>
  (Call prog clsT X d 248 [(2, v5), (0, (-1))] M4).bind fun r6 => if r6.1.1 = 4 then none else
  Ev prog clsT X d mc33 21 [(2, x0)] (pushR r6.1 []) r6.2) else none) else none) else none) else none) :=
  evk_at X [0, 21, 25] 22 rfl
set_option maxRecDepth 100000 in
theorem qc33 (d : Nat) (x0 : Int) (M : Mem) : Call prog clsT X (d + 1) 33 [(2, x0)] M =
  (if (2 : Nat) = 2 ∧ 0 ≤ x0 ∧ wt [] ≤ 60 then
  (if (2 : Nat) = 2 ∧ (2 : Nat) = fTg 2050 ∧ ((2 : Nat) = 2 → vref ((growF M 100 4 (fun _ => 0))) ((nx M)) = true) ∧ (fTy 2050 = 3 → one01 ((nx M)) = true) then (fput 2050 ((growF M 100 4 (fun _ => 0))) x0 ((nx M))).bind fun M1 =>
  (if (2 : Nat) = 2 ∧ (2 : Nat) = fTg 2054 ∧ ((2 : Nat) = 2 → vref ((growF M1 100 24 (fun _ => 0))) ((nx M1)) = true) ∧ (fTy 2054 = 3 → one01 ((nx M1)) = true) then (fput 2054 ((growF M1 100 24 (fun _ => 0))) x0 ((nx M1))).bind fun M2 =>
  (if (2 : Nat) = 2 ∧ (2 : Nat) = fTg 2058 ∧ ((2 : Nat) = 2 → vref ((growF M2 100 10 (fun _ => 0))) ((nx M2)) = true) ∧ (fTy 2058 = 3 → one01 ((nx M2)) = true) then (fput 2058 ((growF M2 100 10 (fun _ => 0))) x0 ((nx M2))).bind fun M3 =>
  ((fput 2060 M3 x0 4).bind fun M4 =>
  (fget 2050 M4 x0).bind fun v5 =>
  (Call prog clsT X d 248 [(2, v5), (0, (-1))] M4).bind fun r6 => if r6.1.1 = 4 then none else
  Ev prog clsT X d mc33 21 [(2, x0)] (pushR r6.1 []) r6.2) else none) else none) else none) else none) :=
  (show Call prog clsT X (d + 1) 33 [(2, x0)] M = Ev prog clsT X d mc33 0 [(2, x0)] [] M from rfl).trans (q33_0 X d x0  M)
set_option maxRecDepth 100000 in
theorem q33_21 (d : Nat) (x0 : Int) (M : Mem) : Ev prog clsT X d mc33 21 [(2, x0)] [] M =
  ((fget 2058 M x0).bind fun v1 =>
  (Call prog clsT X d 248 [(2, v1), (0, (-1))] M).bind fun r2 => if r2.1.1 = 4 then none else
  Ev prog clsT X d mc33 25 [(2, x0)] (pushR r2.1 []) r2.2) :=
  evk_at X [0, 21, 25] 5 rfl
set_option maxRecDepth 100000 in
theorem q33_25 (d : Nat) (x0 : Int) (M : Mem) : Ev prog clsT X d mc33 25 [(2, x0)] [] M =
  (some ((3, 0), M)) :=
  evk_at X [0, 21, 25] 2 rfl
set_option maxRecDepth 100000 in
theorem q88_0 (d : Nat) (x0 : Int) (M : Mem) : Ev prog clsT X d mc88 0 [(2, x0)] [] M =
  (if (2 : Nat) = 2 ∧ 0 ≤ x0 ∧ wt [] ≤ 60 then
  (if (2 : Nat) = 2 ∧ rcv ((growF M 10 7 (fDef (clsT.getD 10 [])))) ((nx M)) 11 = true then
  ((Call prog clsT X d 83 [(2, (nx M))] ((growF M 10 7 (fDef (clsT.getD 10 []))))).bind fun r1 => if r1.1.1 = 4 then none else
  Ev prog clsT X d mc88 6 [(2, x0)] (pushR r1.1 [(2, (nx M)), (2, x0)]) r1.2) else none) else none) :=
  evk_at X [0, 6, 11, 21, 27, 32, 37, 42, 47, 52, 57, 62, 67] 7 rfl
set_option maxRecDepth 100000 in
theorem qc88 (d : Nat) (x0 : Int) (M : Mem) : Call prog clsT X (d + 1) 88 [(2, x0)] M =
  (if (2 : Nat) = 2 ∧ 0 ≤ x0 ∧ wt [] ≤ 60 then
  (if (2 : Nat) = 2 ∧ rcv ((growF M 10 7 (fDef (clsT.getD 10 [])))) ((nx M)) 11 = true then
  ((Call prog clsT X d 83 [(2, (nx M))] ((growF M 10 7 (fDef (clsT.getD 10 []))))).bind fun r1 => if r1.1.1 = 4 then none else
  Ev prog clsT X d mc88 6 [(2, x0)] (pushR r1.1 [(2, (nx M)), (2, x0)]) r1.2) else none) else none) :=
  (show Call prog clsT X (d + 1) 88 [(2, x0)] M = Ev prog clsT X d mc88 0 [(2, x0)] [] M from rfl).trans (q88_0 X d x0  M)
set_option maxRecDepth 100000 in
theorem q88_6 (d : Nat) (x0 s0 s1 : Int) (M : Mem) : Ev prog clsT X d mc88 6 [(2, x0)] [(2, s1), (2, s0)] M =
  (if (2 : Nat) = 2 ∧ (2 : Nat) = fTg 5634 ∧ ((2 : Nat) = 2 → vref M s1 = true) ∧ (fTy 5634 = 3 → one01 s1 = true) then (fput 5634 M s0 s1).bind fun M1 =>
  (if (2 : Nat) = 2 ∧ rcv ((growF M1 5 9 (fDef (clsT.getD 5 [])))) ((nx M1)) 6 = true then
  ((Call prog clsT X d 37 [(2, (nx M1))] ((growF M1 5 9 (fDef (clsT.getD 5 []))))).bind fun r2 => if r2.1.1 = 4 then none else
  Ev prog clsT X d mc88 11 [(2, x0)] (pushR r2.1 [(2, (nx M1)), (2, x0)]) r2.2) else none) else none) :=
  evk_at X [0, 6, 11, 21, 27, 32, 37, 42, 47, 52, 57, 62, 67] 6 rfl
set_option maxRecDepth 100000 in
theorem q88_11 (d : Nat) (x0 s0 s1 : Int) (M : Mem) : Ev prog clsT X d mc88 11 [(2, x0)] [(2, s1), (2, s0)] M =
  (if (2 : Nat) = 2 ∧ (2 : Nat) = fTg 5638 ∧ ((2 : Nat) = 2 → vref M s1 = true) ∧ (fTy 5638 = 3 → one01 s1 = true) then (fput 5638 M s0 s1).bind fun M1 =>
  (if (2 : Nat) = 2 ∧ (2 : Nat) = fTg 5642 ∧ ((2 : Nat) = 2 → vref ((growF M1 104 10 (fun _ => -1))) ((nx M1)) = true) ∧ (fTy 5642 = 3 → one01 ((nx M1)) = true) then (fput 5642 ((growF M1 104 10 (fun _ => -1))) x0 ((nx M1))).bind fun M2 =>
  (if (2 : Nat) = 2 ∧ rcv ((growF M2 7 8 (fDef (clsT.getD 7 [])))) ((nx M2)) 8 = true then
  ((Call prog clsT X d 65 [(2, (nx M2)), (0, 0)] ((growF M2 7 8 (fDef (clsT.getD 7 []))))).bind fun r3 => if r3.1.1 = 4 then none else
  Ev prog clsT X d mc88 21 [(2, x0)] (pushR r3.1 [(2, (nx M2)), (2, x0)]) r3.2) else none) else none) else none) :=
  evk_at X [0, 6, 11, 21, 27, 32, 37, 42, 47, 52, 57, 62, 67] 11 rfl
set_option maxRecDepth 100000 in
theorem q88_21 (d : Nat) (x0 s0 s1 : Int) (M : Mem) : Ev prog clsT X d mc88 21 [(2, x0)] [(2, s1), (2, s0)] M =
  (if (2 : Nat) = 2 ∧ (2 : Nat) = fTg 5646 ∧ ((2 : Nat) = 2 → vref M s1 = true) ∧ (fTy 5646 = 3 → one01 s1 = true) then (fput 5646 M s0 s1).bind fun M1 =>
  (if (2 : Nat) = 2 ∧ rcv ((growF M1 7 8 (fDef (clsT.getD 7 [])))) ((nx M1)) 8 = true then
  ((Call prog clsT X d 65 [(2, (nx M1)), (0, 0)] ((growF M1 7 8 (fDef (clsT.getD 7 []))))).bind fun r2 => if r2.1.1 = 4 then none else
  Ev prog clsT X d mc88 27 [(2, x0)] (pushR r2.1 [(2, (nx M1)), (2, x0)]) r2.2) else none) else none) :=
  evk_at X [0, 6, 11, 21, 27, 32, 37, 42, 47, 52, 57, 62, 67] 7 rfl
set_option maxRecDepth 100000 in
theorem q88_27 (d : Nat) (x0 s0 s1 : Int) (M : Mem) : Ev prog clsT X d mc88 27 [(2, x0)] [(2, s1), (2, s0)] M =
  (if (2 : Nat) = 2 ∧ (2 : Nat) = fTg 5650 ∧ ((2 : Nat) = 2 → vref M s1 = true) ∧ (fTy 5650 = 3 → one01 s1 = true) then (fput 5650 M s0 s1).bind fun M1 =>
  (if (2 : Nat) = 2 ∧ rcv ((growF M1 8 2 (fDef (clsT.getD 8 [])))) ((nx M1)) 9 = true then
  ((Call prog clsT X d 70 [(2, (nx M1))] ((growF M1 8 2 (fDef (clsT.getD 8 []))))).bind fun r2 => if r2.1.1 = 4 then none else
  Ev prog clsT X d mc88 32 [(2, x0)] (pushR r2.1 [(2, (nx M1)), (2, x0)]) r2.2) else none) else none) :=
  evk_at X [0, 6, 11, 21, 27, 32, 37, 42, 47, 52, 57, 62, 67] 6 rfl
set_option maxRecDepth 100000 in
theorem q88_32 (d : Nat) (x0 s0 s1 : Int) (M : Mem) : Ev prog clsT X d mc88 32 [(2, x0)] [(2, s1), (2, s0)] M =
  (if (2 : Nat) = 2 ∧ (2 : Nat) = fTg 5654 ∧ ((2 : Nat) = 2 → vref M s1 = true) ∧ (fTy 5654 = 3 → one01 s1 = true) then (fput 5654 M s0 s1).bind fun M1 =>
  (if (2 : Nat) = 2 ∧ rcv ((growF M1 2 7 (fDef (clsT.getD 2 [])))) ((nx M1)) 3 = true then
  ((Call prog clsT X d 17 [(2, (nx M1))] ((growF M1 2 7 (fDef (clsT.getD 2 []))))).bind fun r2 => if r2.1.1 = 4 then none else
  Ev prog clsT X d mc88 37 [(2, x0)] (pushR r2.1 [(2, (nx M1)), (2, x0)]) r2.2) else none) else none) :=
  evk_at X [0, 6, 11, 21, 27, 32, 37, 42, 47, 52, 57, 62, 67] 6 rfl
set_option maxRecDepth 100000 in
theorem q88_37 (d : Nat) (x0 s0 s1 : Int) (M : Mem) : Ev prog clsT X d mc88 37 [(2, x0)] [(2, s1), (2, s0)] M =
  (if (2 : Nat) = 2 ∧ (2 : Nat) = fTg 5658 ∧ ((2 : Nat) = 2 → vref M s1 = true) ∧ (fTy 5658 = 3 → one01 s1 = true) then (fput 5658 M s0 s1).bind fun M1 =>
  (if (2 : Nat) = 2 ∧ rcv ((growF M1 4 4 (fDef (clsT.getD 4 [])))) ((nx M1)) 5 = true then
  ((Call prog clsT X d 33 [(2, (nx M1))] ((growF M1 4 4 (fDef (clsT.getD 4 []))))).bind fun r2 => if r2.1.1 = 4 then none else
  Ev prog clsT X d mc88 42 [(2, x0)] (pushR r2.1 [(2, (nx M1)), (2, x0)]) r2.2) else none) else none) :=
  evk_at X [0, 6, 11, 21, 27, 32, 37, 42, 47, 52, 57, 62, 67] 6 rfl
set_option maxRecDepth 100000 in
theorem q88_42 (d : Nat) (x0 s0 s1 : Int) (M : Mem) : Ev prog clsT X d mc88 42 [(2, x0)] [(2, s1), (2, s0)] M =
  (if (2 : Nat) = 2 ∧ (2 : Nat) = fTg 5662 ∧ ((2 : Nat) = 2 → vref M s1 = true) ∧ (fTy 5662 = 3 → one01 s1 = true) then (fput 5662 M s0 s1).bind fun M1 =>
  (if (2 : Nat) = 2 ∧ rcv ((growF M1 3 7 (fDef (clsT.getD 3 [])))) ((nx M1)) 4 = true then
  ((Call prog clsT X d 26 [(2, (nx M1))] ((growF M1 3 7 (fDef (clsT.getD 3 []))))).bind fun r2 => if r2.1.1 = 4 then none else
  Ev prog clsT X d mc88 47 [(2, x0)] (pushR r2.1 [(2, (nx M1)), (2, x0)]) r2.2) else none) else none) :=
  evk_at X [0, 6, 11, 21, 27, 32, 37, 42, 47, 52, 57, 62, 67] 6 rfl
set_option maxRecDepth 100000 in
theorem q88_47 (d : Nat) (x0 s0 s1 : Int) (M : Mem) : Ev prog clsT X d mc88 47 [(2, x0)] [(2, s1), (2, s0)] M =
  (if (2 : Nat) = 2 ∧ (2 : Nat) = fTg 5666 ∧ ((2 : Nat) = 2 → vref M s1 = true) ∧ (fTy 5666 = 3 → one01 s1 = true) then (fput 5666 M s0 s1).bind fun M1 =>
  (if (2 : Nat) = 2 ∧ rcv ((growF M1 6 7 (fDef (clsT.getD 6 [])))) ((nx M1)) 7 = true then
  ((Call prog clsT X d 60 [(2, (nx M1))] ((growF M1 6 7 (fDef (clsT.getD 6 []))))).bind fun r2 => if r2.1.1 = 4 then none else
  Ev prog clsT X d mc88 52 [(2, x0)] (pushR r2.1 [(2, (nx M1)), (2, x0)]) r2.2) else none) else none) :=
  evk_at X [0, 6, 11, 21, 27, 32, 37, 42, 47, 52, 57, 62, 67] 6 rfl
set_option maxRecDepth 100000 in
theorem q88_52 (d : Nat) (x0 s0 s1 : Int) (M : Mem) : Ev prog clsT X d mc88 52 [(2, x0)] [(2, s1), (2, s0)] M =
  (if (2 : Nat) = 2 ∧ (2 : Nat) = fTg 5670 ∧ ((2 : Nat) = 2 → vref M s1 = true) ∧ (fTy 5670 = 3 → one01 s1 = true) then (fput 5670 M s0 s1).bind fun M1 =>
  (if (2 : Nat) = 2 ∧ rcv ((growF M1 0 11 (fDef (clsT.getD 0 [])))) ((nx M1)) 1 = true then
  ((Call prog clsT X d 0 [(2, (nx M1))] ((growF M1 0 11 (fDef (clsT.getD 0 []))))).bind fun r2 => if r2.1.1 = 4 then none else
  Ev prog clsT X d mc88 57 [(2, x0)] (pushR r2.1 [(2, (nx M1)), (2, x0)]) r2.2) else none) else none) :=
  evk_at X [0, 6, 11, 21, 27, 32, 37, 42, 47, 52, 57, 62, 67] 6 rfl
set_option maxRecDepth 100000 in
theorem q88_57 (d : Nat) (x0 s0 s1 : Int) (M : Mem) : Ev prog clsT X d mc88 57 [(2, x0)] [(2, s1), (2, s0)] M =
  (if (2 : Nat) = 2 ∧ (2 : Nat) = fTg 5674 ∧ ((2 : Nat) = 2 → vref M s1 = true) ∧ (fTy 5674 = 3 → one01 s1 = true) then (fput 5674 M s0 s1).bind fun M1 =>
  (if (2 : Nat) = 2 ∧ rcv ((growF M1 1 8 (fDef (clsT.getD 1 [])))) ((nx M1)) 2 = true then
  ((Call prog clsT X d 9 [(2, (nx M1))] ((growF M1 1 8 (fDef (clsT.getD 1 []))))).bind fun r2 => if r2.1.1 = 4 then none else
  Ev prog clsT X d mc88 62 [(2, x0)] (pushR r2.1 [(2, (nx M1)), (2, x0)]) r2.2) else none) else none) :=
  evk_at X [0, 6, 11, 21, 27, 32, 37, 42, 47, 52, 57, 62, 67] 6 rfl
set_option maxRecDepth 100000 in
theorem q88_62 (d : Nat) (x0 s0 s1 : Int) (M : Mem) : Ev prog clsT X d mc88 62 [(2, x0)] [(2, s1), (2, s0)] M =
  (if (2 : Nat) = 2 ∧ (2 : Nat) = fTg 5678 ∧ ((2 : Nat) = 2 → vref M s1 = true) ∧ (fTy 5678 = 3 → one01 s1 = true) then (fput 5678 M s0 s1).bind fun M1 =>
  (if (2 : Nat) = 2 ∧ rcv ((growF M1 9 6 (fDef (clsT.getD 9 [])))) ((nx M1)) 10 = true then
  ((Call prog clsT X d 79 [(2, (nx M1))] ((growF M1 9 6 (fDef (clsT.getD 9 []))))).bind fun r2 => if r2.1.1 = 4 then none else
  Ev prog clsT X d mc88 67 [(2, x0)] (pushR r2.1 [(2, (nx M1)), (2, x0)]) r2.2) else none) else none) :=
  evk_at X [0, 6, 11, 21, 27, 32, 37, 42, 47, 52, 57, 62, 67] 6 rfl
set_option maxRecDepth 100000 in
theorem q88_67 (d : Nat) (x0 s0 s1 : Int) (M : Mem) : Ev prog clsT X d mc88 67 [(2, x0)] [(2, s1), (2, s0)] M =
  (if (2 : Nat) = 2 ∧ (2 : Nat) = fTg 5682 ∧ ((2 : Nat) = 2 → vref M s1 = true) ∧ (fTy 5682 = 3 → one01 s1 = true) then (fput 5682 M s0 s1).bind fun M1 =>
  (if (2 : Nat) = 2 ∧ (2 : Nat) = fTg 5686 ∧ ((2 : Nat) = 2 → vref ((growF M1 100 10 (fun _ => 0))) ((nx M1)) = true) ∧ (fTy 5686 = 3 → one01 ((nx M1)) = true) then (fput 5686 ((growF M1 100 10 (fun _ => 0))) x0 ((nx M1))).bind fun M2 =>
  (if (2 : Nat) = 2 ∧ (2 : Nat) = fTg 5690 ∧ ((2 : Nat) = 2 → vref ((growF M2 101 1024 (fun _ => 0))) ((nx M2)) = true) ∧ (fTy 5690 = 3 → one01 ((nx M2)) = true) then (fput 5690 ((growF M2 101 1024 (fun _ => 0))) x0 ((nx M2))).bind fun M3 =>
  (if (2 : Nat) = 2 ∧ (2 : Nat) = fTg 5694 ∧ ((2 : Nat) = 2 → vref ((growF M3 100 1024 (fun _ => 0))) ((nx M3)) = true) ∧ (fTy 5694 = 3 → one01 ((nx M3)) = true) then (fput 5694 ((growF M3 100 1024 (fun _ => 0))) x0 ((nx M3))).bind fun M4 =>
  (some ((3, 0), M4)) else none) else none) else none) else none) :=
  evk_at X [0, 6, 11, 21, 27, 32, 37, 42, 47, 52, 57, 62, 67] 15 rfl
set_option maxRecDepth 100000 in
theorem q26_0 (d : Nat) (x0 : Int) (M : Mem) : Ev prog clsT X d mc26 0 [(2, x0)] [] M =
  (if (2 : Nat) = 2 ∧ 0 ≤ x0 ∧ wt [] ≤ 60 then
  (if (2 : Nat) = 2 ∧ (2 : Nat) = fTg 1538 ∧ ((2 : Nat) = 2 → vref ((growF M 100 3 (fun _ => 0))) ((nx M)) = true) ∧ (fTy 1538 = 3 → one01 ((nx M)) = true) then (fput 1538 ((growF M 100 3 (fun _ => 0))) x0 ((nx M))).bind fun M1 =>
  (if (2 : Nat) = 2 ∧ (2 : Nat) = fTg 1542 ∧ ((2 : Nat) = 2 → vref ((growF M1 100 10 (fun _ => 0))) ((nx M1)) = true) ∧ (fTy 1542 = 3 → one01 ((nx M1)) = true) then (fput 1542 ((growF M1 100 10 (fun _ => 0))) x0 ((nx M1))).bind fun M2 =>
  (if (2 : Nat) = 2 ∧ (2 : Nat) = fTg 1546 ∧ ((2 : Nat) = 2 → vref ((growF M2 100 10 (fun _ => 0))) ((nx M2)) = true) ∧ (fTy 1546 = 3 → one01 ((nx M2)) = true) then (fput 1546 ((growF M2 100 10 (fun _ => 0))) x0 ((nx M2))).bind fun M3 =>
  (if (2 : Nat) = 2 ∧ (2 : Nat) = fTg 1550 ∧ ((2 : Nat) = 2 → vref ((growF M3 100 50 (fun _ => 0))) ((nx M3)) = true) ∧ (fTy 1550 = 3 → one01 ((nx M3)) = true) then (fput 1550 ((growF M3 100 50 (fun _ => 0))) x0 ((nx M3))).bind fun M4 =>
  (if (2 : Nat) = 2 ∧ (2 : Nat) = fTg 1554 ∧ ((2 : Nat) = 2 → vref ((growF M4 100 10 (fun _ => 0))) ((nx M4)) = true) ∧ (fTy 1554 = 3 → one01 ((nx M4)) = true) then (fput 1554 ((growF M4 100 10 (fun _ => 0))) x0 ((nx M4))).bind fun M5 =>
  (if (2 : Nat) = 2 ∧ (2 : Nat) = fTg 1558 ∧ ((2 : Nat) = 2 → vref ((growF M5 100 10 (fun _ => 0))) ((nx M5)) = true) ∧ (fTy 1558 = 3 → one01 ((nx M5)) = true) then (fput 1558 ((growF M5 100 10 (fun _ => 0))) x0 ((nx M5))).bind fun M6 =>
  (if (2 : Nat) = 2 ∧ (2 : Nat) = fTg 1562 ∧ ((2 : Nat) = 2 → vref ((growF M6 100 3 (fun _ => 0))) ((nx M6)) = true) ∧ (fTy 1562 = 3 → one01 ((nx M6)) = true) then (fput 1562 ((growF M6 100 3 (fun _ => 0))) x0 ((nx M6))).bind fun M7 =>
  ((fget 1546 M7 x0).bind fun v8 =>
  (Call prog clsT X d 248 [(2, v8), (0, 1)] M7).bind fun r9 => if r9.1.1 = 4 then none else
  Ev prog clsT X d mc26 34 [(2, x0)] (pushR r9.1 []) r9.2) else none) else none) else none) else none) else none) else none) else none) else none) :=
  evk_at X [0, 34, 38] 35 rfl
set_option maxRecDepth 100000 in
theorem qc26 (d : Nat) (x0 : Int) (M : Mem) : Call prog clsT X (d + 1) 26 [(2, x0)] M =
  (if (2 : Nat) = 2 ∧ 0 ≤ x0 ∧ wt [] ≤ 60 then
  (if (2 : Nat) = 2 ∧ (2 : Nat) = fTg 1538 ∧ ((2 : Nat) = 2 → vref ((growF M 100 3 (fun _ => 0))) ((nx M)) = true) ∧ (fTy 1538 = 3 → one01 ((nx M)) = true) then (fput 1538 ((growF M 100 3 (fun _ => 0))) x0 ((nx M))).bind fun M1 =>
  (if (2 : Nat) = 2 ∧ (2 : Nat) = fTg 1542 ∧ ((2 : Nat) = 2 → vref ((growF M1 100 10 (fun _ => 0))) ((nx M1)) = true) ∧ (fTy 1542 = 3 → one01 ((nx M1)) = true) then (fput 1542 ((growF M1 100 10 (fun _ => 0))) x0 ((nx M1))).bind fun M2 =>
  (if (2 : Nat) = 2 ∧ (2 : Nat) = fTg 1546 ∧ ((2 : Nat) = 2 → vref ((growF M2 100 10 (fun _ => 0))) ((nx M2)) = true) ∧ (fTy 1546 = 3 → one01 ((nx M2)) = true) then (fput 1546 ((growF M2 100 10 (fun _ => 0))) x0 ((nx M2))).bind fun M3 =>
  (if (2 : Nat) = 2 ∧ (2 : Nat) = fTg 1550 ∧ ((2 : Nat) = 2 → vref ((growF M3 100 50 (fun _ => 0))) ((nx M3)) = true) ∧ (fTy 1550 = 3 → one01 ((nx M3)) = true) then (fput 1550 ((growF M3 100 50 (fun _ => 0))) x0 ((nx M3))).bind fun M4 =>
  (if (2 : Nat) = 2 ∧ (2 : Nat) = fTg 1554 ∧ ((2 : Nat) = 2 → vref ((growF M4 100 10 (fun _ => 0))) ((nx M4)) = true) ∧ (fTy 1554 = 3 → one01 ((nx M4)) = true) then (fput 1554 ((growF M4 100 10 (fun _ => 0))) x0 ((nx M4))).bind fun M5 =>
  (if (2 : Nat) = 2 ∧ (2 : Nat) = fTg 1558 ∧ ((2 : Nat) = 2 → vref ((growF M5 100 10 (fun _ => 0))) ((nx M5)) = true) ∧ (fTy 1558 = 3 → one01 ((nx M5)) = true) then (fput 1558 ((growF M5 100 10 (fun _ => 0))) x0 ((nx M5))).bind fun M6 =>
  (if (2 : Nat) = 2 ∧ (2 : Nat) = fTg 1562 ∧ ((2 : Nat) = 2 → vref ((growF M6 100 3 (fun _ => 0))) ((nx M6)) = true) ∧ (fTy 1562 = 3 → one01 ((nx M6)) = true) then (fput 1562 ((growF M6 100 3 (fun _ => 0))) x0 ((nx M6))).bind fun M7 =>
  ((fget 1546 M7 x0).bind fun v8 =>
  (Call prog clsT X d 248 [(2, v8), (0, 1)] M7).bind fun r9 => if r9.1.1 = 4 then none else
  Ev prog clsT X d mc26 34 [(2, x0)] (pushR r9.1 []) r9.2) else none) else none) else none) else none) else none) else none) else none) else none) :=
  (show Call prog clsT X (d + 1) 26 [(2, x0)] M = Ev prog clsT X d mc26 0 [(2, x0)] [] M from rfl).trans (q26_0 X d x0  M)
set_option maxRecDepth 100000 in
theorem q26_34 (d : Nat) (x0 : Int) (M : Mem) : Ev prog clsT X d mc26 34 [(2, x0)] [] M =
  ((fget 1550 M x0).bind fun v1 =>
  (Call prog clsT X d 248 [(2, v1), (0, (-1))] M).bind fun r2 => if r2.1.1 = 4 then none else
  Ev prog clsT X d mc26 38 [(2, x0)] (pushR r2.1 []) r2.2) :=
  evk_at X [0, 34, 38] 5 rfl
set_option maxRecDepth 100000 in
theorem q26_38 (d : Nat) (x0 : Int) (M : Mem) : Ev prog clsT X d mc26 38 [(2, x0)] [] M =
  (some ((3, 0), M)) :=
  evk_at X [0, 34, 38] 2 rfl
set_option maxRecDepth 100000 in
theorem q0_0 (d : Nat) (x0 : Int) (M : Mem) : Ev prog clsT X d mc0 0 [(2, x0)] [] M =
  (if (2 : Nat) = 2 ∧ 0 ≤ x0 ∧ wt [] ≤ 60 then
  (if (2 : Nat) = 2 ∧ (2 : Nat) = fTg 2 ∧ ((2 : Nat) = 2 → vref ((growF M 100 40 (fun _ => 0))) ((nx M)) = true) ∧ (fTy 2 = 3 → one01 ((nx M)) = true) then (fput 2 ((growF M 100 40 (fun _ => 0))) x0 ((nx M))).bind fun M1 =>
  (if (2 : Nat) = 2 ∧ (2 : Nat) = fTg 6 ∧ ((2 : Nat) = 2 → vref ((growF M1 100 40 (fun _ => 0))) ((nx M1)) = true) ∧ (fTy 6 = 3 → one01 ((nx M1)) = true) then (fput 6 ((growF M1 100 40 (fun _ => 0))) x0 ((nx M1))).bind fun M2 =>
  (if (2 : Nat) = 2 ∧ (2 : Nat) = fTg 10 ∧ ((2 : Nat) = 2 → vref ((growF M2 100 40 (fun _ => 0))) ((nx M2)) = true) ∧ (fTy 10 = 3 → one01 ((nx M2)) = true) then (fput 10 ((growF M2 100 40 (fun _ => 0))) x0 ((nx M2))).bind fun M3 =>
  (if (2 : Nat) = 2 ∧ (2 : Nat) = fTg 14 ∧ ((2 : Nat) = 2 → vref ((growF M3 100 40 (fun _ => 0))) ((nx M3)) = true) ∧ (fTy 14 = 3 → one01 ((nx M3)) = true) then (fput 14 ((growF M3 100 40 (fun _ => 0))) x0 ((nx M3))).bind fun M4 =>
  ((aput 100 ((growF M4 100 3 (fun _ => 0))) ((nx M4)) 0 (3)).bind fun M5 =>
  (aput 100 M5 ((nx M4)) 1 (2)).bind fun M6 =>
  (aput 100 M6 ((nx M4)) 2 (1)).bind fun M7 =>
  if (2 : Nat) = 2 ∧ (2 : Nat) = fTg 18 ∧ ((2 : Nat) = 2 → vref M7 ((nx M4)) = true) ∧ (fTy 18 = 3 → one01 ((nx M4)) = true) then (fput 18 M7 x0 ((nx M4))).bind fun M8 =>
  (if (2 : Nat) = 2 ∧ (2 : Nat) = fTg 22 ∧ ((2 : Nat) = 2 → vref ((growF M8 100 3 (fun _ => 0))) ((nx M8)) = true) ∧ (fTy 22 = 3 → one01 ((nx M8)) = true) then (fput 22 ((growF M8 100 3 (fun _ => 0))) x0 ((nx M8))).bind fun M9 =>
  (if (2 : Nat) = 2 ∧ (2 : Nat) = fTg 34 ∧ ((2 : Nat) = 2 → vref ((growF M9 100 10 (fun _ => 0))) ((nx M9)) = true) ∧ (fTy 34 = 3 → one01 ((nx M9)) = true) then (fput 34 ((growF M9 100 10 (fun _ => 0))) x0 ((nx M9))).bind fun M10 =>
  (if (2 : Nat) = 2 ∧ (2 : Nat) = fTg 38 ∧ ((2 : Nat) = 2 → vref ((growF M10 100 10 (fun _ => 0))) ((nx M10)) = true) ∧ (fTy 38 = 3 → one01 ((nx M10)) = true) then (fput 38 ((growF M10 100 10 (fun _ => 0))) x0 ((nx M10))).bind fun M11 =>
  (if (2 : Nat) = 2 ∧ (2 : Nat) = fTg 42 ∧ ((2 : Nat) = 2 → vref ((growF M11 100 10 (fun _ => 0))) ((nx M11)) = true) ∧ (fTy 42 = 3 → one01 ((nx M11)) = true) then (fput 42 ((growF M11 100 10 (fun _ => 0))) x0 ((nx M11))).bind fun M12 =>
  (some ((3, 0), M12)) else none) else none) else none) else none) else none) else none) else none) else none) else none) else none) :=
  evk_at X [0] 52 rfl
set_option maxRecDepth 100000 in
theorem qc0 (d : Nat) (x0 : Int) (M : Mem) : Call prog clsT X (d + 1) 0 [(2, x0)] M =
  (if (2 : Nat) = 2 ∧ 0 ≤ x0 ∧ wt [] ≤ 60 then
  (if (2 : Nat) = 2 ∧ (2 : Nat) = fTg 2 ∧ ((2 : Nat) = 2 → vref ((growF M 100 40 (fun _ => 0))) ((nx M)) = true) ∧ (fTy 2 = 3 → one01 ((nx M)) = true) then (fput 2 ((growF M 100 40 (fun _ => 0))) x0 ((nx M))).bind fun M1 =>
  (if (2 : Nat) = 2 ∧ (2 : Nat) = fTg 6 ∧ ((2 : Nat) = 2 → vref ((growF M1 100 40 (fun _ => 0))) ((nx M1)) = true) ∧ (fTy 6 = 3 → one01 ((nx M1)) = true) then (fput 6 ((growF M1 100 40 (fun _ => 0))) x0 ((nx M1))).bind fun M2 =>
  (if (2 : Nat) = 2 ∧ (2 : Nat) = fTg 10 ∧ ((2 : Nat) = 2 → vref ((growF M2 100 40 (fun _ => 0))) ((nx M2)) = true) ∧ (fTy 10 = 3 → one01 ((nx M2)) = true) then (fput 10 ((growF M2 100 40 (fun _ => 0))) x0 ((nx M2))).bind fun M3 =>
  (if (2 : Nat) = 2 ∧ (2 : Nat) = fTg 14 ∧ ((2 : Nat) = 2 → vref ((growF M3 100 40 (fun _ => 0))) ((nx M3)) = true) ∧ (fTy 14 = 3 → one01 ((nx M3)) = true) then (fput 14 ((growF M3 100 40 (fun _ => 0))) x0 ((nx M3))).bind fun M4 =>
  ((aput 100 ((growF M4 100 3 (fun _ => 0))) ((nx M4)) 0 (3)).bind fun M5 =>
  (aput 100 M5 ((nx M4)) 1 (2)).bind fun M6 =>
  (aput 100 M6 ((nx M4)) 2 (1)).bind fun M7 =>
  if (2 : Nat) = 2 ∧ (2 : Nat) = fTg 18 ∧ ((2 : Nat) = 2 → vref M7 ((nx M4)) = true) ∧ (fTy 18 = 3 → one01 ((nx M4)) = true) then (fput 18 M7 x0 ((nx M4))).bind fun M8 =>
  (if (2 : Nat) = 2 ∧ (2 : Nat) = fTg 22 ∧ ((2 : Nat) = 2 → vref ((growF M8 100 3 (fun _ => 0))) ((nx M8)) = true) ∧ (fTy 22 = 3 → one01 ((nx M8)) = true) then (fput 22 ((growF M8 100 3 (fun _ => 0))) x0 ((nx M8))).bind fun M9 =>
  (if (2 : Nat) = 2 ∧ (2 : Nat) = fTg 34 ∧ ((2 : Nat) = 2 → vref ((growF M9 100 10 (fun _ => 0))) ((nx M9)) = true) ∧ (fTy 34 = 3 → one01 ((nx M9)) = true) then (fput 34 ((growF M9 100 10 (fun _ => 0))) x0 ((nx M9))).bind fun M10 =>
  (if (2 : Nat) = 2 ∧ (2 : Nat) = fTg 38 ∧ ((2 : Nat) = 2 → vref ((growF M10 100 10 (fun _ => 0))) ((nx M10)) = true) ∧ (fTy 38 = 3 → one01 ((nx M10)) = true) then (fput 38 ((growF M10 100 10 (fun _ => 0))) x0 ((nx M10))).bind fun M11 =>
  (if (2 : Nat) = 2 ∧ (2 : Nat) = fTg 42 ∧ ((2 : Nat) = 2 → vref ((growF M11 100 10 (fun _ => 0))) ((nx M11)) = true) ∧ (fTy 42 = 3 → one01 ((nx M11)) = true) then (fput 42 ((growF M11 100 10 (fun _ => 0))) x0 ((nx M11))).bind fun M12 =>
  (some ((3, 0), M12)) else none) else none) else none) else none) else none) else none) else none) else none) else none) else none) :=
  (show Call prog clsT X (d + 1) 0 [(2, x0)] M = Ev prog clsT X d mc0 0 [(2, x0)] [] M from rfl).trans (q0_0 X d x0  M)
set_option maxRecDepth 100000 in
theorem q9_0 (d : Nat) (x0 : Int) (M : Mem) : Ev prog clsT X d mc9 0 [(2, x0)] [] M =
  (if (2 : Nat) = 2 ∧ 0 ≤ x0 ∧ wt [] ≤ 60 then
  (if (2 : Nat) = 2 ∧ (2 : Nat) = fTg 514 ∧ ((2 : Nat) = 2 → vref ((growF M 100 11 (fun _ => 0))) ((nx M)) = true) ∧ (fTy 514 = 3 → one01 ((nx M)) = true) then (fput 514 ((growF M 100 11 (fun _ => 0))) x0 ((nx M))).bind fun M1 =>
  (if (2 : Nat) = 2 ∧ (2 : Nat) = fTg 518 ∧ ((2 : Nat) = 2 → vref ((growF M1 100 11 (fun _ => 0))) ((nx M1)) = true) ∧ (fTy 518 = 3 → one01 ((nx M1)) = true) then (fput 518 ((growF M1 100 11 (fun _ => 0))) x0 ((nx M1))).bind fun M2 =>
  (if (2 : Nat) = 2 ∧ (2 : Nat) = fTg 526 ∧ ((2 : Nat) = 2 → vref ((growF M2 100 3 (fun _ => 0))) ((nx M2)) = true) ∧ (fTy 526 = 3 → one01 ((nx M2)) = true) then (fput 526 ((growF M2 100 3 (fun _ => 0))) x0 ((nx M2))).bind fun M3 =>
  (if (2 : Nat) = 2 ∧ (2 : Nat) = fTg 530 ∧ ((2 : Nat) = 2 → vref ((growF M3 100 15 (fun _ => 0))) ((nx M3)) = true) ∧ (fTy 530 = 3 → one01 ((nx M3)) = true) then (fput 530 ((growF M3 100 15 (fun _ => 0))) x0 ((nx M3))).bind fun M4 =>
  (if (2 : Nat) = 2 ∧ (2 : Nat) = fTg 534 ∧ ((2 : Nat) = 2 → vref ((growF M4 100 4 (fun _ => 0))) ((nx M4)) = true) ∧ (fTy 534 = 3 → one01 ((nx M4)) = true) then (fput 534 ((growF M4 100 4 (fun _ => 0))) x0 ((nx M4))).bind fun M5 =>
  (if (2 : Nat) = 2 ∧ (2 : Nat) = fTg 538 ∧ ((2 : Nat) = 2 → vref ((growF M5 100 3 (fun _ => 0))) ((nx M5)) = true) ∧ (fTy 538 = 3 → one01 ((nx M5)) = true) then (fput 538 ((growF M5 100 3 (fun _ => 0))) x0 ((nx M5))).bind fun M6 =>
  (some ((3, 0), M6)) else none) else none) else none) else none) else none) else none) else none) :=
  evk_at X [0] 28 rfl
set_option maxRecDepth 100000 in
theorem qc9 (d : Nat) (x0 : Int) (M : Mem) : Call prog clsT X (d + 1) 9 [(2, x0)] M =
  (if (2 : Nat) = 2 ∧ 0 ≤ x0 ∧ wt [] ≤ 60 then
  (if (2 : Nat) = 2 ∧ (2 : Nat) = fTg 514 ∧ ((2 : Nat) = 2 → vref ((growF M 100 11 (fun _ => 0))) ((nx M)) = true) ∧ (fTy 514 = 3 → one01 ((nx M)) = true) then (fput 514 ((growF M 100 11 (fun _ => 0))) x0 ((nx M))).bind fun M1 =>
  (if (2 : Nat) = 2 ∧ (2 : Nat) = fTg 518 ∧ ((2 : Nat) = 2 → vref ((growF M1 100 11 (fun _ => 0))) ((nx M1)) = true) ∧ (fTy 518 = 3 → one01 ((nx M1)) = true) then (fput 518 ((growF M1 100 11 (fun _ => 0))) x0 ((nx M1))).bind fun M2 =>
  (if (2 : Nat) = 2 ∧ (2 : Nat) = fTg 526 ∧ ((2 : Nat) = 2 → vref ((growF M2 100 3 (fun _ => 0))) ((nx M2)) = true) ∧ (fTy 526 = 3 → one01 ((nx M2)) = true) then (fput 526 ((growF M2 100 3 (fun _ => 0))) x0 ((nx M2))).bind fun M3 =>
  (if (2 : Nat) = 2 ∧ (2 : Nat) = fTg 530 ∧ ((2 : Nat) = 2 → vref ((growF M3 100 15 (fun _ => 0))) ((nx M3)) = true) ∧ (fTy 530 = 3 → one01 ((nx M3)) = true) then (fput 530 ((growF M3 100 15 (fun _ => 0))) x0 ((nx M3))).bind fun M4 =>
  (if (2 : Nat) = 2 ∧ (2 : Nat) = fTg 534 ∧ ((2 : Nat) = 2 → vref ((growF M4 100 4 (fun _ => 0))) ((nx M4)) = true) ∧ (fTy 534 = 3 → one01 ((nx M4)) = true) then (fput 534 ((growF M4 100 4 (fun _ => 0))) x0 ((nx M4))).bind fun M5 =>
  (if (2 : Nat) = 2 ∧ (2 : Nat) = fTg 538 ∧ ((2 : Nat) = 2 → vref ((growF M5 100 3 (fun _ => 0))) ((nx M5)) = true) ∧ (fTy 538 = 3 → one01 ((nx M5)) = true) then (fput 538 ((growF M5 100 3 (fun _ => 0))) x0 ((nx M5))).bind fun M6 =>
  (some ((3, 0), M6)) else none) else none) else none) else none) else none) else none) else none) :=
  (show Call prog clsT X (d + 1) 9 [(2, x0)] M = Ev prog clsT X d mc9 0 [(2, x0)] [] M from rfl).trans (q9_0 X d x0  M)
set_option maxRecDepth 100000 in
theorem q79_0 (d : Nat) (x0 : Int) (M : Mem) : Ev prog clsT X d mc79 0 [(2, x0)] [] M =
  (if (2 : Nat) = 2 ∧ 0 ≤ x0 ∧ wt [] ≤ 60 then
  (if (2 : Nat) = 2 ∧ (2 : Nat) = fTg 4610 ∧ ((2 : Nat) = 2 → vref ((growF M 100 4 (fun _ => 0))) ((nx M)) = true) ∧ (fTy 4610 = 3 → one01 ((nx M)) = true) then (fput 4610 ((growF M 100 4 (fun _ => 0))) x0 ((nx M))).bind fun M1 =>
  (if (2 : Nat) = 2 ∧ (2 : Nat) = fTg 4614 ∧ ((2 : Nat) = 2 → vref ((growF M1 100 4 (fun _ => 0))) ((nx M1)) = true) ∧ (fTy 4614 = 3 → one01 ((nx M1)) = true) then (fput 4614 ((growF M1 100 4 (fun _ => 0))) x0 ((nx M1))).bind fun M2 =>
  (if (2 : Nat) = 2 ∧ (2 : Nat) = fTg 4618 ∧ ((2 : Nat) = 2 → vref ((growF M2 101 4 (fun _ => 0))) ((nx M2)) = true) ∧ (fTy 4618 = 3 → one01 ((nx M2)) = true) then (fput 4618 ((growF M2 101 4 (fun _ => 0))) x0 ((nx M2))).bind fun M3 =>
  (if (2 : Nat) = 2 ∧ (2 : Nat) = fTg 4622 ∧ ((2 : Nat) = 2 → vref ((growRows (growF M3 105 4 (fun j => nx M3 + 1 + j)) 40 4)) ((nx M3)) = true) ∧ (fTy 4622 = 3 → one01 ((nx M3)) = true) then (fput 4622 ((growRows (growF M3 105 4 (fun j => nx M3 + 1 + j)) 40 4)) x0 ((nx M3))).bind fun M4 =>
  (if (2 : Nat) = 2 ∧ (2 : Nat) = fTg 4626 ∧ ((2 : Nat) = 2 → vref ((growRows (growF M4 105 4 (fun j => nx M4 + 1 + j)) 10 4)) ((nx M4)) = true) ∧ (fTy 4626 = 3 → one01 ((nx M4)) = true) then (fput 4626 ((growRows (growF M4 105 4 (fun j => nx M4 + 1 + j)) 10 4)) x0 ((nx M4))).bind fun M5 =>
  (some ((3, 0), M5)) else none) else none) else none) else none) else none) else none) :=
  evk_at X [0] 26 rfl
set_option maxRecDepth 100000 in
theorem qc79 (d : Nat) (x0 : Int) (M : Mem) : Call prog clsT X (d + 1) 79 [(2, x0)] M =
  (if (2 : Nat) = 2 ∧ 0 ≤ x0 ∧ wt [] ≤ 60 then
  (if (2 : Nat) = 2 ∧ (2 : Nat) = fTg 4610 ∧ ((2 : Nat) = 2 → vref ((growF M 100 4 (fun _ => 0))) ((nx M)) = true) ∧ (fTy 4610 = 3 → one01 ((nx M)) = true) then (fput 4610 ((growF M 100 4 (fun _ => 0))) x0 ((nx M))).bind fun M1 =>
  (if (2 : Nat) = 2 ∧ (2 : Nat) = fTg 4614 ∧ ((2 : Nat) = 2 → vref ((growF M1 100 4 (fun _ => 0))) ((nx M1)) = true) ∧ (fTy 4614 = 3 → one01 ((nx M1)) = true) then (fput 4614 ((growF M1 100 4 (fun _ => 0))) x0 ((nx M1))).bind fun M2 =>
  (if (2 : Nat) = 2 ∧ (2 : Nat) = fTg 4618 ∧ ((2 : Nat) = 2 → vref ((growF M2 101 4 (fun _ => 0))) ((nx M2)) = true) ∧ (fTy 4618 = 3 → one01 ((nx M2)) = true) then (fput 4618 ((growF M2 101 4 (fun _ => 0))) x0 ((nx M2))).bind fun M3 =>
  (if (2 : Nat) = 2 ∧ (2 : Nat) = fTg 4622 ∧ ((2 : Nat) = 2 → vref ((growRows (growF M3 105 4 (fun j => nx M3 + 1 + j)) 40 4)) ((nx M3)) = true) ∧ (fTy 4622 = 3 → one01 ((nx M3)) = true) then (fput 4622 ((growRows (growF M3 105 4 (fun j => nx M3 + 1 + j)) 40 4)) x0 ((nx M3))).bind fun M4 =>
  (if (2 : Nat) = 2 ∧ (2 : Nat) = fTg 4626 ∧ ((2 : Nat) = 2 → vref ((growRows (growF M4 105 4 (fun j => nx M4 + 1 + j)) 10 4)) ((nx M4)) = true) ∧ (fTy 4626 = 3 → one01 ((nx M4)) = true) then (fput 4626 ((growRows (growF M4 105 4 (fun j => nx M4 + 1 + j)) 10 4)) x0 ((nx M4))).bind fun M5 =>
  (some ((3, 0), M5)) else none) else none) else none) else none) else none) else none) :=
  (show Call prog clsT X (d + 1) 79 [(2, x0)] M = Ev prog clsT X d mc79 0 [(2, x0)] [] M from rfl).trans (q79_0 X d x0  M)
set_option maxRecDepth 100000 in
theorem q37_0 (d : Nat) (x0 : Int) (M : Mem) : Ev prog clsT X d mc37 0 [(2, x0)] [] M =
  (if (2 : Nat) = 2 ∧ 0 ≤ x0 ∧ wt [] ≤ 60 then
  (if (2 : Nat) = 2 ∧ (2 : Nat) = fTg 2562 ∧ ((2 : Nat) = 2 → vref ((growF M 103 1000 (fun _ => 0))) ((nx M)) = true) ∧ (fTy 2562 = 3 → one01 ((nx M)) = true) then (fput 2562 ((growF M 103 1000 (fun _ => 0))) x0 ((nx M))).bind fun M1 =>
  (if (2 : Nat) = 2 ∧ rcv ((growF M1 7 8 (fDef (clsT.getD 7 [])))) ((nx M1)) 8 = true then
  ((Call prog clsT X d 65 [(2, (nx M1)), (0, 0)] ((growF M1 7 8 (fDef (clsT.getD 7 []))))).bind fun r2 => if r2.1.1 = 4 then none else
  Ev prog clsT X d mc37 11 [(2, x0)] (pushR r2.1 [(2, (nx M1)), (2, x0)]) r2.2) else none) else none) else none) :=
  evk_at X [0, 11] 12 rfl
set_option maxRecDepth 100000 in
theorem qc37 (d : Nat) (x0 : Int) (M : Mem) : Call prog clsT X (d + 1) 37 [(2, x0)] M =
  (if (2 : Nat) = 2 ∧ 0 ≤ x0 ∧ wt [] ≤ 60 then
  (if (2 : Nat) = 2 ∧ (2 : Nat) = fTg 2562 ∧ ((2 : Nat) = 2 → vref ((growF M 103 1000 (fun _ => 0))) ((nx M)) = true) ∧ (fTy 2562 = 3 → one01 ((nx M)) = true) then (fput 2562 ((growF M 103 1000 (fun _ => 0))) x0 ((nx M))).bind fun M1 =>
  (if (2 : Nat) = 2 ∧ rcv ((growF M1 7 8 (fDef (clsT.getD 7 [])))) ((nx M1)) 8 = true then
  ((Call prog clsT X d 65 [(2, (nx M1)), (0, 0)] ((growF M1 7 8 (fDef (clsT.getD 7 []))))).bind fun r2 => if r2.1.1 = 4 then none else
  Ev prog clsT X d mc37 11 [(2, x0)] (pushR r2.1 [(2, (nx M1)), (2, x0)]) r2.2) else none) else none) else none) :=
  (show Call prog clsT X (d + 1) 37 [(2, x0)] M = Ev prog clsT X d mc37 0 [(2, x0)] [] M from rfl).trans (q37_0 X d x0  M)
set_option maxRecDepth 100000 in
theorem q37_11 (d : Nat) (x0 s0 s1 : Int) (M : Mem) : Ev prog clsT X d mc37 11 [(2, x0)] [(2, s1), (2, s0)] M =
  (if (2 : Nat) = 2 ∧ (2 : Nat) = fTg 2570 ∧ ((2 : Nat) = 2 → vref M s1 = true) ∧ (fTy 2570 = 3 → one01 s1 = true) then (fput 2570 M s0 s1).bind fun M1 =>
  (if (2 : Nat) = 2 ∧ (2 : Nat) = fTg 2594 ∧ ((2 : Nat) = 2 → vref M1 ((-10)) = true) ∧ (fTy 2594 = 3 → one01 ((-10)) = true) then (fput 2594 M1 x0 ((-10))).bind fun M2 =>
  (some ((3, 0), M2)) else none) else none) :=
  evk_at X [0, 11] 6 rfl
set_option maxRecDepth 100000 in
theorem q70_0 (d : Nat) (x0 : Int) (M : Mem) : Ev prog clsT X d mc70 0 [(2, x0)] [] M =
  (if (2 : Nat) = 2 ∧ 0 ≤ x0 ∧ wt [] ≤ 60 then
  (if (2 : Nat) = 2 ∧ (2 : Nat) = fTg 4098 ∧ ((2 : Nat) = 2 → vref ((growF M 100 11 (fun _ => 0))) ((nx M)) = true) ∧ (fTy 4098 = 3 → one01 ((nx M)) = true) then (fput 4098 ((growF M 100 11 (fun _ => 0))) x0 ((nx M))).bind fun M1 =>
  (if (2 : Nat) = 2 ∧ (2 : Nat) = fTg 4102 ∧ ((2 : Nat) = 2 → vref ((growF M1 100 32 (fun _ => 0))) ((nx M1)) = true) ∧ (fTy 4102 = 3 → one01 ((nx M1)) = true) then (fput 4102 ((growF M1 100 32 (fun _ => 0))) x0 ((nx M1))).bind fun M2 =>
  (some ((3, 0), M2)) else none) else none) else none) :=
  evk_at X [0] 12 rfl
set_option maxRecDepth 100000 in
theorem qc70 (d : Nat) (x0 : Int) (M : Mem) : Call prog clsT X (d + 1) 70 [(2, x0)] M =
  (if (2 : Nat) = 2 ∧ 0 ≤ x0 ∧ wt [] ≤ 60 then
  (if (2 : Nat) = 2 ∧ (2 : Nat) = fTg 4098 ∧ ((2 : Nat) = 2 → vref ((growF M 100 11 (fun _ => 0))) ((nx M)) = true) ∧ (fTy 4098 = 3 → one01 ((nx M)) = true) then (fput 4098 ((growF M 100 11 (fun _ => 0))) x0 ((nx M))).bind fun M1 =>
  (if (2 : Nat) = 2 ∧ (2 : Nat) = fTg 4102 ∧ ((2 : Nat) = 2 → vref ((growF M1 100 32 (fun _ => 0))) ((nx M1)) = true) ∧ (fTy 4102 = 3 → one01 ((nx M1)) = true) then (fput 4102 ((growF M1 100 32 (fun _ => 0))) x0 ((nx M1))).bind fun M2 =>
  (some ((3, 0), M2)) else none) else none) else none) :=
  (show Call prog clsT X (d + 1) 70 [(2, x0)] M = Ev prog clsT X d mc70 0 [(2, x0)] [] M from rfl).trans (q70_0 X d x0  M)
set_option maxRecDepth 100000 in
theorem q60_0 (d : Nat) (x0 : Int) (M : Mem) : Ev prog clsT X d mc60 0 [(2, x0)] [] M =
  (if (2 : Nat) = 2 ∧ 0 ≤ x0 ∧ wt [] ≤ 60 then
  (if (2 : Nat) = 2 ∧ (2 : Nat) = fTg 3074 ∧ ((2 : Nat) = 2 → vref ((growF M 100 10 (fun _ => 0))) ((nx M)) = true) ∧ (fTy 3074 = 3 → one01 ((nx M)) = true) then (fput 3074 ((growF M 100 10 (fun _ => 0))) x0 ((nx M))).bind fun M1 =>
  (if (2 : Nat) = 2 ∧ (2 : Nat) = fTg 3078 ∧ ((2 : Nat) = 2 → vref ((growF M1 100 10 (fun _ => 0))) ((nx M1)) = true) ∧ (fTy 3078 = 3 → one01 ((nx M1)) = true) then (fput 3078 ((growF M1 100 10 (fun _ => 0))) x0 ((nx M1))).bind fun M2 =>
  (if (2 : Nat) = 2 ∧ (2 : Nat) = fTg 3082 ∧ ((2 : Nat) = 2 → vref ((growF M2 100 10 (fun _ => 0))) ((nx M2)) = true) ∧ (fTy 3082 = 3 → one01 ((nx M2)) = true) then (fput 3082 ((growF M2 100 10 (fun _ => 0))) x0 ((nx M2))).bind fun M3 =>
  (if (2 : Nat) = 2 ∧ (2 : Nat) = fTg 3086 ∧ ((2 : Nat) = 2 → vref ((growF M3 100 4 (fun _ => 0))) ((nx M3)) = true) ∧ (fTy 3086 = 3 → one01 ((nx M3)) = true) then (fput 3086 ((growF M3 100 4 (fun _ => 0))) x0 ((nx M3))).bind fun M4 =>
  (if (2 : Nat) = 2 ∧ (2 : Nat) = fTg 3090 ∧ ((2 : Nat) = 2 → vref ((growF M4 100 4 (fun _ => 0))) ((nx M4)) = true) ∧ (fTy 3090 = 3 → one01 ((nx M4)) = true) then (fput 3090 ((growF M4 100 4 (fun _ => 0))) x0 ((nx M4))).bind fun M5 =>
  (if (2 : Nat) = 2 ∧ (2 : Nat) = fTg 3094 ∧ ((2 : Nat) = 2 → vref ((growF M5 100 4 (fun _ => 0))) ((nx M5)) = true) ∧ (fTy 3094 = 3 → one01 ((nx M5)) = true) then (fput 3094 ((growF M5 100 4 (fun _ => 0))) x0 ((nx M5))).bind fun M6 =>
  (some ((3, 0), M6)) else none) else none) else none) else none) else none) else none) else none) :=
  evk_at X [0] 28 rfl
set_option maxRecDepth 100000 in
theorem qc60 (d : Nat) (x0 : Int) (M : Mem) : Call prog clsT X (d + 1) 60 [(2, x0)] M =
  (if (2 : Nat) = 2 ∧ 0 ≤ x0 ∧ wt [] ≤ 60 then
  (if (2 : Nat) = 2 ∧ (2 : Nat) = fTg 3074 ∧ ((2 : Nat) = 2 → vref ((growF M 100 10 (fun _ => 0))) ((nx M)) = true) ∧ (fTy 3074 = 3 → one01 ((nx M)) = true) then (fput 3074 ((growF M 100 10 (fun _ => 0))) x0 ((nx M))).bind fun M1 =>
  (if (2 : Nat) = 2 ∧ (2 : Nat) = fTg 3078 ∧ ((2 : Nat) = 2 → vref ((growF M1 100 10 (fun _ => 0))) ((nx M1)) = true) ∧ (fTy 3078 = 3 → one01 ((nx M1)) = true) then (fput 3078 ((growF M1 100 10 (fun _ => 0))) x0 ((nx M1))).bind fun M2 =>
  (if (2 : Nat) = 2 ∧ (2 : Nat) = fTg 3082 ∧ ((2 : Nat) = 2 → vref ((growF M2 100 10 (fun _ => 0))) ((nx M2)) = true) ∧ (fTy 3082 = 3 → one01 ((nx M2)) = true) then (fput 3082 ((growF M2 100 10 (fun _ => 0))) x0 ((nx M2))).bind fun M3 =>
  (if (2 : Nat) = 2 ∧ (2 : Nat) = fTg 3086 ∧ ((2 : Nat) = 2 → vref ((growF M3 100 4 (fun _ => 0))) ((nx M3)) = true) ∧ (fTy 3086 = 3 → one01 ((nx M3)) = true) then (fput 3086 ((growF M3 100 4 (fun _ => 0))) x0 ((nx M3))).bind fun M4 =>
  (if (2 : Nat) = 2 ∧ (2 : Nat) = fTg 3090 ∧ ((2 : Nat) = 2 → vref ((growF M4 100 4 (fun _ => 0))) ((nx M4)) = true) ∧ (fTy 3090 = 3 → one01 ((nx M4)) = true) then (fput 3090 ((growF M4 100 4 (fun _ => 0))) x0 ((nx M4))).bind fun M5 =>
  (if (2 : Nat) = 2 ∧ (2 : Nat) = fTg 3094 ∧ ((2 : Nat) = 2 → vref ((growF M5 100 4 (fun _ => 0))) ((nx M5)) = true) ∧ (fTy 3094 = 3 → one01 ((nx M5)) = true) then (fput 3094 ((growF M5 100 4 (fun _ => 0))) x0 ((nx M5))).bind fun M6 =>
  (some ((3, 0), M6)) else none) else none) else none) else none) else none) else none) else none) :=
  (show Call prog clsT X (d + 1) 60 [(2, x0)] M = Ev prog clsT X d mc60 0 [(2, x0)] [] M from rfl).trans (q60_0 X d x0  M)
set_option maxRecDepth 100000 in
theorem q149_0 (d : Nat) (x0 : Int) (M : Mem) : Ev prog clsT X d mc149 0 [(2, x0), (3, 0)] [] M =
  (if (2 : Nat) = 2 ∧ 0 ≤ x0 ∧ wt [] ≤ 60 then
  (if (2 : Nat) = 2 ∧ (2 : Nat) = fTg 6150 ∧ ((2 : Nat) = 2 → vref ((growF M 102 10 (fun _ => 0))) ((nx M)) = true) ∧ (fTy 6150 = 3 → one01 ((nx M)) = true) then (fput 6150 ((growF M 102 10 (fun _ => 0))) x0 ((nx M))).bind fun M1 =>
  (if (2 : Nat) = 2 ∧ (2 : Nat) = fTg 6154 ∧ ((2 : Nat) = 2 → vref ((growF M1 100 10 (fun _ => 0))) ((nx M1)) = true) ∧ (fTy 6154 = 3 → one01 ((nx M1)) = true) then (fput 6154 ((growF M1 100 10 (fun _ => 0))) x0 ((nx M1))).bind fun M2 =>
  (if (2 : Nat) = 2 ∧ (2 : Nat) = fTg 6158 ∧ ((2 : Nat) = 2 → vref ((growF M2 100 10 (fun _ => 0))) ((nx M2)) = true) ∧ (fTy 6158 = 3 → one01 ((nx M2)) = true) then (fput 6158 ((growF M2 100 10 (fun _ => 0))) x0 ((nx M2))).bind fun M3 =>
  (if (2 : Nat) = 2 ∧ (2 : Nat) = fTg 6162 ∧ ((2 : Nat) = 2 → vref ((growF M3 102 10 (fun _ => 0))) ((nx M3)) = true) ∧ (fTy 6162 = 3 → one01 ((nx M3)) = true) then (fput 6162 ((growF M3 102 10 (fun _ => 0))) x0 ((nx M3))).bind fun M4 =>
  (if (2 : Nat) = 2 ∧ (2 : Nat) = fTg 6166 ∧ ((2 : Nat) = 2 → vref ((growF M4 102 40 (fun _ => 0))) ((nx M4)) = true) ∧ (fTy 6166 = 3 → one01 ((nx M4)) = true) then (fput 6166 ((growF M4 102 40 (fun _ => 0))) x0 ((nx M4))).bind fun M5 =>
  (if (2 : Nat) = 2 ∧ (2 : Nat) = fTg 6170 ∧ ((2 : Nat) = 2 → vref ((growF M5 100 40 (fun _ => 0))) ((nx M5)) = true) ∧ (fTy 6170 = 3 → one01 ((nx M5)) = true) then (fput 6170 ((growF M5 100 40 (fun _ => 0))) x0 ((nx M5))).bind fun M6 =>
  (if (2 : Nat) = 2 ∧ (2 : Nat) = fTg 6174 ∧ ((2 : Nat) = 2 → vref ((growF M6 100 40 (fun _ => 0))) ((nx M6)) = true) ∧ (fTy 6174 = 3 → one01 ((nx M6)) = true) then (fput 6174 ((growF M6 100 40 (fun _ => 0))) x0 ((nx M6))).bind fun M7 =>
  (if (2 : Nat) = 2 ∧ (2 : Nat) = fTg 6178 ∧ ((2 : Nat) = 2 → vref ((growF M7 100 40 (fun _ => 0))) ((nx M7)) = true) ∧ (fTy 6178 = 3 → one01 ((nx M7)) = true) then (fput 6178 ((growF M7 100 40 (fun _ => 0))) x0 ((nx M7))).bind fun M8 =>
  (if (2 : Nat) = 2 ∧ (2 : Nat) = fTg 6182 ∧ ((2 : Nat) = 2 → vref ((growF M8 100 40 (fun _ => 0))) ((nx M8)) = true) ∧ (fTy 6182 = 3 → one01 ((nx M8)) = true) then (fput 6182 ((growF M8 100 40 (fun _ => 0))) x0 ((nx M8))).bind fun M9 =>
  (if (2 : Nat) = 2 ∧ (2 : Nat) = fTg 6190 ∧ ((2 : Nat) = 2 → vref ((growF M9 100 40 (fun _ => 0))) ((nx M9)) = true) ∧ (fTy 6190 = 3 → one01 ((nx M9)) = true) then (fput 6190 ((growF M9 100 40 (fun _ => 0))) x0 ((nx M9))).bind fun M10 =>
  (if (2 : Nat) = 2 ∧ (2 : Nat) = fTg 6194 ∧ ((2 : Nat) = 2 → vref ((growF M10 100 40 (fun _ => 0))) ((nx M10)) = true) ∧ (fTy 6194 = 3 → one01 ((nx M10)) = true) then (fput 6194 ((growF M10 100 40 (fun _ => 0))) x0 ((nx M10))).bind fun M11 =>
  (if (2 : Nat) = 2 ∧ (2 : Nat) = fTg 6198 ∧ ((2 : Nat) = 2 → vref ((growF M11 101 40 (fun _ => 0))) ((nx M11)) = true) ∧ (fTy 6198 = 3 → one01 ((nx M11)) = true) then (fput 6198 ((growF M11 101 40 (fun _ => 0))) x0 ((nx M11))).bind fun M12 =>
  (if (2 : Nat) = 2 ∧ (2 : Nat) = fTg 6202 ∧ ((2 : Nat) = 2 → vref ((growF M12 100 40 (fun _ => 0))) ((nx M12)) = true) ∧ (fTy 6202 = 3 → one01 ((nx M12)) = true) then (fput 6202 ((growF M12 100 40 (fun _ => 0))) x0 ((nx M12))).bind fun M13 =>
  (if (2 : Nat) = 2 ∧ (2 : Nat) = fTg 6206 ∧ ((2 : Nat) = 2 → vref ((growF M13 100 40 (fun _ => 0))) ((nx M13)) = true) ∧ (fTy 6206 = 3 → one01 ((nx M13)) = true) then (fput 6206 ((growF M13 100 40 (fun _ => 0))) x0 ((nx M13))).bind fun M14 =>
  (if (2 : Nat) = 2 ∧ (2 : Nat) = fTg 6210 ∧ ((2 : Nat) = 2 → vref ((growF M14 102 40 (fun _ => 0))) ((nx M14)) = true) ∧ (fTy 6210 = 3 → one01 ((nx M14)) = true) then (fput 6210 ((growF M14 102 40 (fun _ => 0))) x0 ((nx M14))).bind fun M15 =>
  (if (2 : Nat) = 2 ∧ (2 : Nat) = fTg 6218 ∧ ((2 : Nat) = 2 → vref ((growF M15 100 1000 (fun _ => 0))) ((nx M15)) = true) ∧ (fTy 6218 = 3 → one01 ((nx M15)) = true) then (fput 6218 ((growF M15 100 1000 (fun _ => 0))) x0 ((nx M15))).bind fun M16 =>
  (if (2 : Nat) = 2 ∧ (2 : Nat) = fTg 6250 ∧ ((2 : Nat) = 2 → vref ((growF M16 102 10 (fun _ => 0))) ((nx M16)) = true) ∧ (fTy 6250 = 3 → one01 ((nx M16)) = true) then (fput 6250 ((growF M16 102 10 (fun _ => 0))) x0 ((nx M16))).bind fun M17 =>
  (if (2 : Nat) = 2 ∧ (2 : Nat) = fTg 6254 ∧ ((2 : Nat) = 2 → vref ((growF M17 100 13 (fun _ => 0))) ((nx M17)) = true) ∧ (fTy 6254 = 3 → one01 ((nx M17)) = true) then (fput 6254 ((growF M17 100 13 (fun _ => 0))) x0 ((nx M17))).bind fun M18 =>
  (if (2 : Nat) = 2 ∧ (2 : Nat) = fTg 6258 ∧ ((2 : Nat) = 2 → vref ((growF M18 100 13 (fun _ => 0))) ((nx M18)) = true) ∧ (fTy 6258 = 3 → one01 ((nx M18)) = true) then (fput 6258 ((growF M18 100 13 (fun _ => 0))) x0 ((nx M18))).bind fun M19 =>
  (if (2 : Nat) = 2 ∧ (2 : Nat) = fTg 6262 ∧ ((2 : Nat) = 2 → vref ((growF M19 100 13 (fun _ => 0))) ((nx M19)) = true) ∧ (fTy 6262 = 3 → one01 ((nx M19)) = true) then (fput 6262 ((growF M19 100 13 (fun _ => 0))) x0 ((nx M19))).bind fun M20 =>
  (if (2 : Nat) = 2 ∧ (2 : Nat) = fTg 6266 ∧ ((2 : Nat) = 2 → vref ((growF M20 102 117 (fun _ => 0))) ((nx M20)) = true) ∧ (fTy 6266 = 3 → one01 ((nx M20)) = true) then (fput 6266 ((growF M20 102 117 (fun _ => 0))) x0 ((nx M20))).bind fun M21 =>
  (if (2 : Nat) = 2 ∧ (2 : Nat) = fTg 6270 ∧ ((2 : Nat) = 2 → vref ((growF M21 100 117 (fun _ => 0))) ((nx M21)) = true) ∧ (fTy 6270 = 3 → one01 ((nx M21)) = true) then (fput 6270 ((growF M21 100 117 (fun _ => 0))) x0 ((nx M21))).bind fun M22 =>
  (if (2 : Nat) = 2 ∧ (2 : Nat) = fTg 6274 ∧ ((2 : Nat) = 2 → vref ((growF M22 100 117 (fun _ => 0))) ((nx M22)) = true) ∧ (fTy 6274 = 3 → one01 ((nx M22)) = true) then (fput 6274 ((growF M22 100 117 (fun _ => 0))) x0 ((nx M22))).bind fun M23 =>
  (if (2 : Nat) = 2 ∧ (2 : Nat) = fTg 6278 ∧ ((2 : Nat) = 2 → vref ((growF M23 100 117 (fun _ => 0))) ((nx M23)) = true) ∧ (fTy 6278 = 3 → one01 ((nx M23)) = true) then (fput 6278 ((growF M23 100 117 (fun _ => 0))) x0 ((nx M23))).bind fun M24 =>
  (if (2 : Nat) = 2 ∧ (2 : Nat) = fTg 6282 ∧ ((2 : Nat) = 2 → vref ((growF M24 100 13000 (fun _ => 0))) ((nx M24)) = true) ∧ (fTy 6282 = 3 → one01 ((nx M24)) = true) then (fput 6282 ((growF M24 100 13000 (fun _ => 0))) x0 ((nx M24))).bind fun M25 =>
  (if (2 : Nat) = 2 ∧ (2 : Nat) = fTg 6294 ∧ ((2 : Nat) = 2 → vref ((growF M25 100 7 (fun _ => 0))) ((nx M25)) = true) ∧ (fTy 6294 = 3 → one01 ((nx M25)) = true) then (fput 6294 ((growF M25 100 7 (fun _ => 0))) x0 ((nx M25))).bind fun M26 =>
  (if (2 : Nat) = 2 ∧ (2 : Nat) = fTg 6298 ∧ ((2 : Nat) = 2 → vref ((growF M26 102 7 (fun _ => 0))) ((nx M26)) = true) ∧ (fTy 6298 = 3 → one01 ((nx M26)) = true) then (fput 6298 ((growF M26 102 7 (fun _ => 0))) x0 ((nx M26))).bind fun M27 =>
  (if (2 : Nat) = 2 ∧ (2 : Nat) = fTg 6302 ∧ ((2 : Nat) = 2 → vref ((growF M27 100 7 (fun _ => 0))) ((nx M27)) = true) ∧ (fTy 6302 = 3 → one01 ((nx M27)) = true) then (fput 6302 ((growF M27 100 7 (fun _ => 0))) x0 ((nx M27))).bind fun M28 =>
  (if (2 : Nat) = 2 ∧ (2 : Nat) = fTg 6306 ∧ ((2 : Nat) = 2 → vref ((growF M28 100 7 (fun _ => 0))) ((nx M28)) = true) ∧ (fTy 6306 = 3 → one01 ((nx M28)) = true) then (fput 6306 ((growF M28 100 7 (fun _ => 0))) x0 ((nx M28))).bind fun M29 =>
  (if (2 : Nat) = 2 ∧ (2 : Nat) = fTg 6310 ∧ ((2 : Nat) = 2 → vref ((growF M29 100 7 (fun _ => 0))) ((nx M29)) = true) ∧ (fTy 6310 = 3 → one01 ((nx M29)) = true) then (fput 6310 ((growF M29 100 7 (fun _ => 0))) x0 ((nx M29))).bind fun M30 =>
  (if (2 : Nat) = 2 ∧ (2 : Nat) = fTg 6314 ∧ ((2 : Nat) = 2 → vref ((growF M30 100 7 (fun _ => 0))) ((nx M30)) = true) ∧ (fTy 6314 = 3 → one01 ((nx M30)) = true) then (fput 6314 ((growF M30 100 7 (fun _ => 0))) x0 ((nx M30))).bind fun M31 =>
  (if (2 : Nat) = 2 ∧ (2 : Nat) = fTg 6318 ∧ ((2 : Nat) = 2 → vref ((growF M31 100 7 (fun _ => 0))) ((nx M31)) = true) ∧ (fTy 6318 = 3 → one01 ((nx M31)) = true) then (fput 6318 ((growF M31 100 7 (fun _ => 0))) x0 ((nx M31))).bind fun M32 =>
  (if (2 : Nat) = 2 ∧ (2 : Nat) = fTg 6322 ∧ ((2 : Nat) = 2 → vref ((growF M32 100 7 (fun _ => 0))) ((nx M32)) = true) ∧ (fTy 6322 = 3 → one01 ((nx M32)) = true) then (fput 6322 ((growF M32 100 7 (fun _ => 0))) x0 ((nx M32))).bind fun M33 =>
  (if (2 : Nat) = 2 ∧ (2 : Nat) = fTg 6326 ∧ ((2 : Nat) = 2 → vref ((growF M33 100 7 (fun _ => 0))) ((nx M33)) = true) ∧ (fTy 6326 = 3 → one01 ((nx M33)) = true) then (fput 6326 ((growF M33 100 7 (fun _ => 0))) x0 ((nx M33))).bind fun M34 =>
  (if (2 : Nat) = 2 ∧ (2 : Nat) = fTg 6330 ∧ ((2 : Nat) = 2 → vref ((growF M34 100 7 (fun _ => 0))) ((nx M34)) = true) ∧ (fTy 6330 = 3 → one01 ((nx M34)) = true) then (fput 6330 ((growF M34 100 7 (fun _ => 0))) x0 ((nx M34))).bind fun M35 =>
  (if (2 : Nat) = 2 ∧ (2 : Nat) = fTg 6334 ∧ ((2 : Nat) = 2 → vref ((growF M35 100 7 (fun _ => 0))) ((nx M35)) = true) ∧ (fTy 6334 = 3 → one01 ((nx M35)) = true) then (fput 6334 ((growF M35 100 7 (fun _ => 0))) x0 ((nx M35))).bind fun M36 =>
  (if (2 : Nat) = 2 ∧ (2 : Nat) = fTg 6338 ∧ ((2 : Nat) = 2 → vref ((growF M36 100 20 (fun _ => 0))) ((nx M36)) = true) ∧ (fTy 6338 = 3 → one01 ((nx M36)) = true) then (fput 6338 ((growF M36 100 20 (fun _ => 0))) x0 ((nx M36))).bind fun M37 =>
  (if (2 : Nat) = 2 ∧ (2 : Nat) = fTg 6342 ∧ ((2 : Nat) = 2 → vref ((growF M37 102 4 (fun _ => 0))) ((nx M37)) = true) ∧ (fTy 6342 = 3 → one01 ((nx M37)) = true) then (fput 6342 ((growF M37 102 4 (fun _ => 0))) x0 ((nx M37))).bind fun M38 =>
  (if (2 : Nat) = 2 ∧ (2 : Nat) = fTg 6346 ∧ ((2 : Nat) = 2 → vref ((growF M38 100 4 (fun _ => 0))) ((nx M38)) = true) ∧ (fTy 6346 = 3 → one01 ((nx M38)) = true) then (fput 6346 ((growF M38 100 4 (fun _ => 0))) x0 ((nx M38))).bind fun M39 =>
  (if (2 : Nat) = 2 ∧ (2 : Nat) = fTg 6350 ∧ ((2 : Nat) = 2 → vref ((growF M39 100 24 (fun _ => 0))) ((nx M39)) = true) ∧ (fTy 6350 = 3 → one01 ((nx M39)) = true) then (fput 6350 ((growF M39 100 24 (fun _ => 0))) x0 ((nx M39))).bind fun M40 =>
  (if (2 : Nat) = 2 ∧ (2 : Nat) = fTg 6354 ∧ ((2 : Nat) = 2 → vref ((growF M40 100 10 (fun _ => 0))) ((nx M40)) = true) ∧ (fTy 6354 = 3 → one01 ((nx M40)) = true) then (fput 6354 ((growF M40 100 10 (fun _ => 0))) x0 ((nx M40))).bind fun M41 =>
  (if (2 : Nat) = 2 ∧ (2 : Nat) = fTg 6358 ∧ ((2 : Nat) = 2 → vref ((growF M41 100 3 (fun _ => 0))) ((nx M41)) = true) ∧ (fTy 6358 = 3 → one01 ((nx M41)) = true) then (fput 6358 ((growF M41 100 3 (fun _ => 0))) x0 ((nx M41))).bind fun M42 =>
  (if (2 : Nat) = 2 ∧ (2 : Nat) = fTg 6362 ∧ ((2 : Nat) = 2 → vref ((growF M42 100 10 (fun _ => 0))) ((nx M42)) = true) ∧ (fTy 6362 = 3 → one01 ((nx M42)) = true) then (fput 6362 ((growF M42 100 10 (fun _ => 0))) x0 ((nx M42))).bind fun M43 =>
  (if (2 : Nat) = 2 ∧ (2 : Nat) = fTg 6366 ∧ ((2 : Nat) = 2 → vref ((growF M43 100 10 (fun _ => 0))) ((nx M43)) = true) ∧ (fTy 6366 = 3 → one01 ((nx M43)) = true) then (fput 6366 ((growF M43 100 10 (fun _ => 0))) x0 ((nx M43))).bind fun M44 =>
  (if (2 : Nat) = 2 ∧ (2 : Nat) = fTg 6370 ∧ ((2 : Nat) = 2 → vref ((growF M44 100 10 (fun _ => 0))) ((nx M44)) = true) ∧ (fTy 6370 = 3 → one01 ((nx M44)) = true) then (fput 6370 ((growF M44 100 10 (fun _ => 0))) x0 ((nx M44))).bind fun M45 =>
  (if (2 : Nat) = 2 ∧ (2 : Nat) = fTg 6374 ∧ ((2 : Nat) = 2 → vref ((growF M45 100 3 (fun _ => 0))) ((nx M45)) = true) ∧ (fTy 6374 = 3 → one01 ((nx M45)) = true) then (fput 6374 ((growF M45 100 3 (fun _ => 0))) x0 ((nx M45))).bind fun M46 =>
  (if (2 : Nat) = 2 ∧ (2 : Nat) = fTg 6378 ∧ ((2 : Nat) = 2 → vref ((growF M46 100 10 (fun _ => 0))) ((nx M46)) = true) ∧ (fTy 6378 = 3 → one01 ((nx M46)) = true) then (fput 6378 ((growF M46 100 10 (fun _ => 0))) x0 ((nx M46))).bind fun M47 =>
  (if (2 : Nat) = 2 ∧ (2 : Nat) = fTg 6382 ∧ ((2 : Nat) = 2 → vref ((growF M47 100 10 (fun _ => 0))) ((nx M47)) = true) ∧ (fTy 6382 = 3 → one01 ((nx M47)) = true) then (fput 6382 ((growF M47 100 10 (fun _ => 0))) x0 ((nx M47))).bind fun M48 =>
  (if (2 : Nat) = 2 ∧ (2 : Nat) = fTg 6394 ∧ ((2 : Nat) = 2 → vref ((growF M48 100 4 (fun _ => 0))) ((nx M48)) = true) ∧ (fTy 6394 = 3 → one01 ((nx M48)) = true) then (fput 6394 ((growF M48 100 4 (fun _ => 0))) x0 ((nx M48))).bind fun M49 =>
  (if (2 : Nat) = 2 ∧ (2 : Nat) = fTg 6398 ∧ ((2 : Nat) = 2 → vref ((growF M49 100 4 (fun _ => 0))) ((nx M49)) = true) ∧ (fTy 6398 = 3 → one01 ((nx M49)) = true) then (fput 6398 ((growF M49 100 4 (fun _ => 0))) x0 ((nx M49))).bind fun M50 =>
  (if (2 : Nat) = 2 ∧ (2 : Nat) = fTg 6402 ∧ ((2 : Nat) = 2 → vref ((growF M50 100 4 (fun _ => 0))) ((nx M50)) = true) ∧ (fTy 6402 = 3 → one01 ((nx M50)) = true) then (fput 6402 ((growF M50 100 4 (fun _ => 0))) x0 ((nx M50))).bind fun M51 =>
  (if (2 : Nat) = 2 ∧ (2 : Nat) = fTg 6406 ∧ ((2 : Nat) = 2 → vref ((growF M51 100 10 (fun _ => 0))) ((nx M51)) = true) ∧ (fTy 6406 = 3 → one01 ((nx M51)) = true) then (fput 6406 ((growF M51 100 10 (fun _ => 0))) x0 ((nx M51))).bind fun M52 =>
  (if (2 : Nat) = 2 ∧ (2 : Nat) = fTg 6410 ∧ ((2 : Nat) = 2 → vref ((growF M52 100 3 (fun _ => 0))) ((nx M52)) = true) ∧ (fTy 6410 = 3 → one01 ((nx M52)) = true) then (fput 6410 ((growF M52 100 3 (fun _ => 0))) x0 ((nx M52))).bind fun M53 =>
  (if (2 : Nat) = 2 ∧ (2 : Nat) = fTg 6414 ∧ ((2 : Nat) = 2 → vref ((growF M53 100 3 (fun _ => 0))) ((nx M53)) = true) ∧ (fTy 6414 = 3 → one01 ((nx M53)) = true) then (fput 6414 ((growF M53 100 3 (fun _ => 0))) x0 ((nx M53))).bind fun M54 =>
  (if (2 : Nat) = 2 ∧ (2 : Nat) = fTg 6426 ∧ ((2 : Nat) = 2 → vref ((growF M54 100 10 (fun _ => 0))) ((nx M54)) = true) ∧ (fTy 6426 = 3 → one01 ((nx M54)) = true) then (fput 6426 ((growF M54 100 10 (fun _ => 0))) x0 ((nx M54))).bind fun M55 =>
  (if (2 : Nat) = 2 ∧ (2 : Nat) = fTg 6430 ∧ ((2 : Nat) = 2 → vref ((growF M55 100 10 (fun _ => 0))) ((nx M55)) = true) ∧ (fTy 6430 = 3 → one01 ((nx M55)) = true) then (fput 6430 ((growF M55 100 10 (fun _ => 0))) x0 ((nx M55))).bind fun M56 =>
  (if (2 : Nat) = 2 ∧ (2 : Nat) = fTg 6438 ∧ ((2 : Nat) = 2 → vref ((growF M56 100 3 (fun _ => 0))) ((nx M56)) = true) ∧ (fTy 6438 = 3 → one01 ((nx M56)) = true) then (fput 6438 ((growF M56 100 3 (fun _ => 0))) x0 ((nx M56))).bind fun M57 =>
  (if (2 : Nat) = 2 ∧ (2 : Nat) = fTg 6442 ∧ ((2 : Nat) = 2 → vref ((growF M57 100 15 (fun _ => 0))) ((nx M57)) = true) ∧ (fTy 6442 = 3 → one01 ((nx M57)) = true) then (fput 6442 ((growF M57 100 15 (fun _ => 0))) x0 ((nx M57))).bind fun M58 =>
  (if (2 : Nat) = 2 ∧ (2 : Nat) = fTg 6446 ∧ ((2 : Nat) = 2 → vref ((growF M58 100 40 (fun _ => 0))) ((nx M58)) = true) ∧ (fTy 6446 = 3 → one01 ((nx M58)) = true) then (fput 6446 ((growF M58 100 40 (fun _ => 0))) x0 ((nx M58))).bind fun M59 =>
  (if (2 : Nat) = 2 ∧ (2 : Nat) = fTg 6454 ∧ ((2 : Nat) = 2 → vref ((growF M59 100 10 (fun _ => 0))) ((nx M59)) = true) ∧ (fTy 6454 = 3 → one01 ((nx M59)) = true) then (fput 6454 ((growF M59 100 10 (fun _ => 0))) x0 ((nx M59))).bind fun M60 =>
  (if (2 : Nat) = 2 ∧ (2 : Nat) = fTg 6458 ∧ ((2 : Nat) = 2 → vref ((growF M60 102 2048 (fun _ => 0))) ((nx M60)) = true) ∧ (fTy 6458 = 3 → one01 ((nx M60)) = true) then (fput 6458 ((growF M60 102 2048 (fun _ => 0))) x0 ((nx M60))).bind fun M61 =>
  (if (2 : Nat) = 2 ∧ (2 : Nat) = fTg 6462 ∧ ((2 : Nat) = 2 → vref ((growF M61 100 2048 (fun _ => 0))) ((nx M61)) = true) ∧ (fTy 6462 = 3 → one01 ((nx M61)) = true) then (fput 6462 ((growF M61 100 2048 (fun _ => 0))) x0 ((nx M61))).bind fun M62 =>
  (if (2 : Nat) = 2 ∧ (2 : Nat) = fTg 6466 ∧ ((2 : Nat) = 2 → vref ((growF M62 100 50 (fun _ => 0))) ((nx M62)) = true) ∧ (fTy 6466 = 3 → one01 ((nx M62)) = true) then (fput 6466 ((growF M62 100 50 (fun _ => 0))) x0 ((nx M62))).bind fun M63 =>
  (if (2 : Nat) = 2 ∧ (2 : Nat) = fTg 6474 ∧ ((2 : Nat) = 2 → vref ((growF M63 100 4 (fun _ => 0))) ((nx M63)) = true) ∧ (fTy 6474 = 3 → one01 ((nx M63)) = true) then (fput 6474 ((growF M63 100 4 (fun _ => 0))) x0 ((nx M63))).bind fun M64 =>
  (if (2 : Nat) = 2 ∧ (2 : Nat) = fTg 6478 ∧ ((2 : Nat) = 2 → vref ((growF M64 100 4 (fun _ => 0))) ((nx M64)) = true) ∧ (fTy 6478 = 3 → one01 ((nx M64)) = true) then (fput 6478 ((growF M64 100 4 (fun _ => 0))) x0 ((nx M64))).bind fun M65 =>
  (if (2 : Nat) = 2 ∧ (2 : Nat) = fTg 6482 ∧ ((2 : Nat) = 2 → vref ((growF M65 102 160 (fun _ => 0))) ((nx M65)) = true) ∧ (fTy 6482 = 3 → one01 ((nx M65)) = true) then (fput 6482 ((growF M65 102 160 (fun _ => 0))) x0 ((nx M65))).bind fun M66 =>
  (if (2 : Nat) = 2 ∧ (2 : Nat) = fTg 6486 ∧ ((2 : Nat) = 2 → vref ((growF M66 100 160 (fun _ => 0))) ((nx M66)) = true) ∧ (fTy 6486 = 3 → one01 ((nx M66)) = true) then (fput 6486 ((growF M66 100 160 (fun _ => 0))) x0 ((nx M66))).bind fun M67 =>
  (if (2 : Nat) = 2 ∧ (2 : Nat) = fTg 6490 ∧ ((2 : Nat) = 2 → vref ((growF M67 100 40 (fun _ => 0))) ((nx M67)) = true) ∧ (fTy 6490 = 3 → one01 ((nx M67)) = true) then (fput 6490 ((growF M67 100 40 (fun _ => 0))) x0 ((nx M67))).bind fun M68 =>
  (Ev prog clsT X d mc149 276 [(2, x0), (0, 0)] [] M68) else none) else none) else none) else none) else none) else none) else none) else none) else none) else none) else none) else none) else none) else none) else none) else none) else none) else none) else none) else none) else none) else none) else none) else none) else none) else none) else none) else none) else none) else none) else none) else none) else none) else none) else none) else none) else none) else none) else none) else none) else none) else none) else none) else none) else none) else none) else none) else none) else none) else none) else none) else none) else none) else none) else none) else none) else none) else none) else none) else none) else none) else none) else none) else none) else none) else none) else none) else none) else none) :=
  evk_at X [0, 276, 293, 305] 278 rfl
set_option maxRecDepth 100000 in
theorem qc149 (d : Nat) (x0 : Int) (M : Mem) : Call prog clsT X (d + 1) 149 [(2, x0)] M =
  (if (2 : Nat) = 2 ∧ 0 ≤ x0 ∧ wt [] ≤ 60 then
  (if (2 : Nat) = 2 ∧ (2 : Nat) = fTg 6150 ∧ ((2 : Nat) = 2 → vref ((growF M 102 10 (fun _ => 0))) ((nx M)) = true) ∧ (fTy 6150 = 3 → one01 ((nx M)) = true) then (fput 6150 ((growF M 102 10 (fun _ => 0))) x0 ((nx M))).bind fun M1 =>
  (if (2 : Nat) = 2 ∧ (2 : Nat) = fTg 6154 ∧ ((2 : Nat) = 2 → vref ((growF M1 100 10 (fun _ => 0))) ((nx M1)) = true) ∧ (fTy 6154 = 3 → one01 ((nx M1)) = true) then (fput 6154 ((growF M1 100 10 (fun _ => 0))) x0 ((nx M1))).bind fun M2 =>
  (if (2 : Nat) = 2 ∧ (2 : Nat) = fTg 6158 ∧ ((2 : Nat) = 2 → vref ((growF M2 100 10 (fun _ => 0))) ((nx M2)) = true) ∧ (fTy 6158 = 3 → one01 ((nx M2)) = true) then (fput 6158 ((growF M2 100 10 (fun _ => 0))) x0 ((nx M2))).bind fun M3 =>
  (if (2 : Nat) = 2 ∧ (2 : Nat) = fTg 6162 ∧ ((2 : Nat) = 2 → vref ((growF M3 102 10 (fun _ => 0))) ((nx M3)) = true) ∧ (fTy 6162 = 3 → one01 ((nx M3)) = true) then (fput 6162 ((growF M3 102 10 (fun _ => 0))) x0 ((nx M3))).bind fun M4 =>
  (if (2 : Nat) = 2 ∧ (2 : Nat) = fTg 6166 ∧ ((2 : Nat) = 2 → vref ((growF M4 102 40 (fun _ => 0))) ((nx M4)) = true) ∧ (fTy 6166 = 3 → one01 ((nx M4)) = true) then (fput 6166 ((growF M4 102 40 (fun _ => 0))) x0 ((nx M4))).bind fun M5 =>
  (if (2 : Nat) = 2 ∧ (2 : Nat) = fTg 6170 ∧ ((2 : Nat) = 2 → vref ((growF M5 100 40 (fun _ => 0))) ((nx M5)) = true) ∧ (fTy 6170 = 3 → one01 ((nx M5)) = true) then (fput 6170 ((growF M5 100 40 (fun _ => 0))) x0 ((nx M5))).bind fun M6 =>
  (if (2 : Nat) = 2 ∧ (2 : Nat) = fTg 6174 ∧ ((2 : Nat) = 2 → vref ((growF M6 100 40 (fun _ => 0))) ((nx M6)) = true) ∧ (fTy 6174 = 3 → one01 ((nx M6)) = true) then (fput 6174 ((growF M6 100 40 (fun _ => 0))) x0 ((nx M6))).bind fun M7 =>
  (if (2 : Nat) = 2 ∧ (2 : Nat) = fTg 6178 ∧ ((2 : Nat) = 2 → vref ((growF M7 100 40 (fun _ => 0))) ((nx M7)) = true) ∧ (fTy 6178 = 3 → one01 ((nx M7)) = true) then (fput 6178 ((growF M7 100 40 (fun _ => 0))) x0 ((nx M7))).bind fun M8 =>
  (if (2 : Nat) = 2 ∧ (2 : Nat) = fTg 6182 ∧ ((2 : Nat) = 2 → vref ((growF M8 100 40 (fun _ => 0))) ((nx M8)) = true) ∧ (fTy 6182 = 3 → one01 ((nx M8)) = true) then (fput 6182 ((growF M8 100 40 (fun _ => 0))) x0 ((nx M8))).bind fun M9 =>
  (if (2 : Nat) = 2 ∧ (2 : Nat) = fTg 6190 ∧ ((2 : Nat) = 2 → vref ((growF M9 100 40 (fun _ => 0))) ((nx M9)) = true) ∧ (fTy 6190 = 3 → one01 ((nx M9)) = true) then (fput 6190 ((growF M9 100 40 (fun _ => 0))) x0 ((nx M9))).bind fun M10 =>
  (if (2 : Nat) = 2 ∧ (2 : Nat) = fTg 6194 ∧ ((2 : Nat) = 2 → vref ((growF M10 100 40 (fun _ => 0))) ((nx M10)) = true) ∧ (fTy 6194 = 3 → one01 ((nx M10)) = true) then (fput 6194 ((growF M10 100 40 (fun _ => 0))) x0 ((nx M10))).bind fun M11 =>
  (if (2 : Nat) = 2 ∧ (2 : Nat) = fTg 6198 ∧ ((2 : Nat) = 2 → vref ((growF M11 101 40 (fun _ => 0))) ((nx M11)) = true) ∧ (fTy 6198 = 3 → one01 ((nx M11)) = true) then (fput 6198 ((growF M11 101 40 (fun _ => 0))) x0 ((nx M11))).bind fun M12 =>
  (if (2 : Nat) = 2 ∧ (2 : Nat) = fTg 6202 ∧ ((2 : Nat) = 2 → vref ((growF M12 100 40 (fun _ => 0))) ((nx M12)) = true) ∧ (fTy 6202 = 3 → one01 ((nx M12)) = true) then (fput 6202 ((growF M12 100 40 (fun _ => 0))) x0 ((nx M12))).bind fun M13 =>
  (if (2 : Nat) = 2 ∧ (2 : Nat) = fTg 6206 ∧ ((2 : Nat) = 2 → vref ((growF M13 100 40 (fun _ => 0))) ((nx M13)) = true) ∧ (fTy 6206 = 3 → one01 ((nx M13)) = true) then (fput 6206 ((growF M13 100 40 (fun _ => 0))) x0 ((nx M13))).bind fun M14 =>
  (if (2 : Nat) = 2 ∧ (2 : Nat) = fTg 6210 ∧ ((2 : Nat) = 2 → vref ((growF M14 102 40 (fun _ => 0))) ((nx M14)) = true) ∧ (fTy 6210 = 3 → one01 ((nx M14)) = true) then (fput 6210 ((growF M14 102 40 (fun _ => 0))) x0 ((nx M14))).bind fun M15 =>
  (if (2 : Nat) = 2 ∧ (2 : Nat) = fTg 6218 ∧ ((2 : Nat) = 2 → vref ((growF M15 100 1000 (fun _ => 0))) ((nx M15)) = true) ∧ (fTy 6218 = 3 → one01 ((nx M15)) = true) then (fput 6218 ((growF M15 100 1000 (fun _ => 0))) x0 ((nx M15))).bind fun M16 =>
  (if (2 : Nat) = 2 ∧ (2 : Nat) = fTg 6250 ∧ ((2 : Nat) = 2 → vref ((growF M16 102 10 (fun _ => 0))) ((nx M16)) = true) ∧ (fTy 6250 = 3 → one01 ((nx M16)) = true) then (fput 6250 ((growF M16 102 10 (fun _ => 0))) x0 ((nx M16))).bind fun M17 =>
  (if (2 : Nat) = 2 ∧ (2 : Nat) = fTg 6254 ∧ ((2 : Nat) = 2 → vref ((growF M17 100 13 (fun _ => 0))) ((nx M17)) = true) ∧ (fTy 6254 = 3 → one01 ((nx M17)) = true) then (fput 6254 ((growF M17 100 13 (fun _ => 0))) x0 ((nx M17))).bind fun M18 =>
  (if (2 : Nat) = 2 ∧ (2 : Nat) = fTg 6258 ∧ ((2 : Nat) = 2 → vref ((growF M18 100 13 (fun _ => 0))) ((nx M18)) = true) ∧ (fTy 6258 = 3 → one01 ((nx M18)) = true) then (fput 6258 ((growF M18 100 13 (fun _ => 0))) x0 ((nx M18))).bind fun M19 =>
  (if (2 : Nat) = 2 ∧ (2 : Nat) = fTg 6262 ∧ ((2 : Nat) = 2 → vref ((growF M19 100 13 (fun _ => 0))) ((nx M19)) = true) ∧ (fTy 6262 = 3 → one01 ((nx M19)) = true) then (fput 6262 ((growF M19 100 13 (fun _ => 0))) x0 ((nx M19))).bind fun M20 =>
  (if (2 : Nat) = 2 ∧ (2 : Nat) = fTg 6266 ∧ ((2 : Nat) = 2 → vref ((growF M20 102 117 (fun _ => 0))) ((nx M20)) = true) ∧ (fTy 6266 = 3 → one01 ((nx M20)) = true) then (fput 6266 ((growF M20 102 117 (fun _ => 0))) x0 ((nx M20))).bind fun M21 =>
  (if (2 : Nat) = 2 ∧ (2 : Nat) = fTg 6270 ∧ ((2 : Nat) = 2 → vref ((growF M21 100 117 (fun _ => 0))) ((nx M21)) = true) ∧ (fTy 6270 = 3 → one01 ((nx M21)) = true) then (fput 6270 ((growF M21 100 117 (fun _ => 0))) x0 ((nx M21))).bind fun M22 =>
  (if (2 : Nat) = 2 ∧ (2 : Nat) = fTg 6274 ∧ ((2 : Nat) = 2 → vref ((growF M22 100 117 (fun _ => 0))) ((nx M22)) = true) ∧ (fTy 6274 = 3 → one01 ((nx M22)) = true) then (fput 6274 ((growF M22 100 117 (fun _ => 0))) x0 ((nx M22))).bind fun M23 =>
  (if (2 : Nat) = 2 ∧ (2 : Nat) = fTg 6278 ∧ ((2 : Nat) = 2 → vref ((growF M23 100 117 (fun _ => 0))) ((nx M23)) = true) ∧ (fTy 6278 = 3 → one01 ((nx M23)) = true) then (fput 6278 ((growF M23 100 117 (fun _ => 0))) x0 ((nx M23))).bind fun M24 =>
  (if (2 : Nat) = 2 ∧ (2 : Nat) = fTg 6282 ∧ ((2 : Nat) = 2 → vref ((growF M24 100 13000 (fun _ => 0))) ((nx M24)) = true) ∧ (fTy 6282 = 3 → one01 ((nx M24)) = true) then (fput 6282 ((growF M24 100 13000 (fun _ => 0))) x0 ((nx M24))).bind fun M25 =>
  (if (2 : Nat) = 2 ∧ (2 : Nat) = fTg 6294 ∧ ((2 : Nat) = 2 → vref ((growF M25 100 7 (fun _ => 0))) ((nx M25)) = true) ∧ (fTy 6294 = 3 → one01 ((nx M25)) = true) then (fput 6294 ((growF M25 100 7 (fun _ => 0))) x0 ((nx M25))).bind fun M26 =>
  (if (2 : Nat) = 2 ∧ (2 : Nat) = fTg 6298 ∧ ((2 : Nat) = 2 → vref ((growF M26 102 7 (fun _ => 0))) ((nx M26)) = true) ∧ (fTy 6298 = 3 → one01 ((nx M26)) = true) then (fput 6298 ((growF M26 102 7 (fun _ => 0))) x0 ((nx M26))).bind fun M27 =>
  (if (2 : Nat) = 2 ∧ (2 : Nat) = fTg 6302 ∧ ((2 : Nat) = 2 → vref ((growF M27 100 7 (fun _ => 0))) ((nx M27)) = true) ∧ (fTy 6302 = 3 → one01 ((nx M27)) = true) then (fput 6302 ((growF M27 100 7 (fun _ => 0))) x0 ((nx M27))).bind fun M28 =>
  (if (2 : Nat) = 2 ∧ (2 : Nat) = fTg 6306 ∧ ((2 : Nat) = 2 → vref ((growF M28 100 7 (fun _ => 0))) ((nx M28)) = true) ∧ (fTy 6306 = 3 → one01 ((nx M28)) = true) then (fput 6306 ((growF M28 100 7 (fun _ => 0))) x0 ((nx M28))).bind fun M29 =>
  (if (2 : Nat) = 2 ∧ (2 : Nat) = fTg 6310 ∧ ((2 : Nat) = 2 → vref ((growF M29 100 7 (fun _ => 0))) ((nx M29)) = true) ∧ (fTy 6310 = 3 → one01 ((nx M29)) = true) then (fput 6310 ((growF M29 100 7 (fun _ => 0))) x0 ((nx M29))).bind fun M30 =>
  (if (2 : Nat) = 2 ∧ (2 : Nat) = fTg 6314 ∧ ((2 : Nat) = 2 → vref ((growF M30 100 7 (fun _ => 0))) ((nx M30)) = true) ∧ (fTy 6314 = 3 → one01 ((nx M30)) = true) then (fput 6314 ((growF M30 100 7 (fun _ => 0))) x0 ((nx M30))).bind fun M31 =>
  (if (2 : Nat) = 2 ∧ (2 : Nat) = fTg 6318 ∧ ((2 : Nat) = 2 → vref ((growF M31 100 7 (fun _ => 0))) ((nx M31)) = true) ∧ (fTy 6318 = 3 → one01 ((nx M31)) = true) then (fput 6318 ((growF M31 100 7 (fun _ => 0))) x0 ((nx M31))).bind fun M32 =>
  (if (2 : Nat) = 2 ∧ (2 : Nat) = fTg 6322 ∧ ((2 : Nat) = 2 → vref ((growF M32 100 7 (fun _ => 0))) ((nx M32)) = true) ∧ (fTy 6322 = 3 → one01 ((nx M32)) = true) then (fput 6322 ((growF M32 100 7 (fun _ => 0))) x0 ((nx M32))).bind fun M33 =>
  (if (2 : Nat) = 2 ∧ (2 : Nat) = fTg 6326 ∧ ((2 : Nat) = 2 → vref ((growF M33 100 7 (fun _ => 0))) ((nx M33)) = true) ∧ (fTy 6326 = 3 → one01 ((nx M33)) = true) then (fput 6326 ((growF M33 100 7 (fun _ => 0))) x0 ((nx M33))).bind fun M34 =>
  (if (2 : Nat) = 2 ∧ (2 : Nat) = fTg 6330 ∧ ((2 : Nat) = 2 → vref ((growF M34 100 7 (fun _ => 0))) ((nx M34)) = true) ∧ (fTy 6330 = 3 → one01 ((nx M34)) = true) then (fput 6330 ((growF M34 100 7 (fun _ => 0))) x0 ((nx M34))).bind fun M35 =>
  (if (2 : Nat) = 2 ∧ (2 : Nat) = fTg 6334 ∧ ((2 : Nat) = 2 → vref ((growF M35 100 7 (fun _ => 0))) ((nx M35)) = true) ∧ (fTy 6334 = 3 → one01 ((nx M35)) = true) then (fput 6334 ((growF M35 100 7 (fun _ => 0))) x0 ((nx M35))).bind fun M36 =>
  (if (2 : Nat) = 2 ∧ (2 : Nat) = fTg 6338 ∧ ((2 : Nat) = 2 → vref ((growF M36 100 20 (fun _ => 0))) ((nx M36)) = true) ∧ (fTy 6338 = 3 → one01 ((nx M36)) = true) then (fput 6338 ((growF M36 100 20 (fun _ => 0))) x0 ((nx M36))).bind fun M37 =>
  (if (2 : Nat) = 2 ∧ (2 : Nat) = fTg 6342 ∧ ((2 : Nat) = 2 → vref ((growF M37 102 4 (fun _ => 0))) ((nx M37)) = true) ∧ (fTy 6342 = 3 → one01 ((nx M37)) = true) then (fput 6342 ((growF M37 102 4 (fun _ => 0))) x0 ((nx M37))).bind fun M38 =>
  (if (2 : Nat) = 2 ∧ (2 : Nat) = fTg 6346 ∧ ((2 : Nat) = 2 → vref ((growF M38 100 4 (fun _ => 0))) ((nx M38)) = true) ∧ (fTy 6346 = 3 → one01 ((nx M38)) = true) then (fput 6346 ((growF M38 100 4 (fun _ => 0))) x0 ((nx M38))).bind fun M39 =>
  (if (2 : Nat) = 2 ∧ (2 : Nat) = fTg 6350 ∧ ((2 : Nat) = 2 → vref ((growF M39 100 24 (fun _ => 0))) ((nx M39)) = true) ∧ (fTy 6350 = 3 → one01 ((nx M39)) = true) then (fput 6350 ((growF M39 100 24 (fun _ => 0))) x0 ((nx M39))).bind fun M40 =>
  (if (2 : Nat) = 2 ∧ (2 : Nat) = fTg 6354 ∧ ((2 : Nat) = 2 → vref ((growF M40 100 10 (fun _ => 0))) ((nx M40)) = true) ∧ (fTy 6354 = 3 → one01 ((nx M40)) = true) then (fput 6354 ((growF M40 100 10 (fun _ => 0))) x0 ((nx M40))).bind fun M41 =>
  (if (2 : Nat) = 2 ∧ (2 : Nat) = fTg 6358 ∧ ((2 : Nat) = 2 → vref ((growF M41 100 3 (fun _ => 0))) ((nx M41)) = true) ∧ (fTy 6358 = 3 → one01 ((nx M41)) = true) then (fput 6358 ((growF M41 100 3 (fun _ => 0))) x0 ((nx M41))).bind fun M42 =>
  (if (2 : Nat) = 2 ∧ (2 : Nat) = fTg 6362 ∧ ((2 : Nat) = 2 → vref ((growF M42 100 10 (fun _ => 0))) ((nx M42)) = true) ∧ (fTy 6362 = 3 → one01 ((nx M42)) = true) then (fput 6362 ((growF M42 100 10 (fun _ => 0))) x0 ((nx M42))).bind fun M43 =>
  (if (2 : Nat) = 2 ∧ (2 : Nat) = fTg 6366 ∧ ((2 : Nat) = 2 → vref ((growF M43 100 10 (fun _ => 0))) ((nx M43)) = true) ∧ (fTy 6366 = 3 → one01 ((nx M43)) = true) then (fput 6366 ((growF M43 100 10 (fun _ => 0))) x0 ((nx M43))).bind fun M44 =>
  (if (2 : Nat) = 2 ∧ (2 : Nat) = fTg 6370 ∧ ((2 : Nat) = 2 → vref ((growF M44 100 10 (fun _ => 0))) ((nx M44)) = true) ∧ (fTy 6370 = 3 → one01 ((nx M44)) = true) then (fput 6370 ((growF M44 100 10 (fun _ => 0))) x0 ((nx M44))).bind fun M45 =>
  (if (2 : Nat) = 2 ∧ (2 : Nat) = fTg 6374 ∧ ((2 : Nat) = 2 → vref ((growF M45 100 3 (fun _ => 0))) ((nx M45)) = true) ∧ (fTy 6374 = 3 → one01 ((nx M45)) = true) then (fput 6374 ((growF M45 100 3 (fun _ => 0))) x0 ((nx M45))).bind fun M46 =>
  (if (2 : Nat) = 2 ∧ (2 : Nat) = fTg 6378 ∧ ((2 : Nat) = 2 → vref ((growF M46 100 10 (fun _ => 0))) ((nx M46)) = true) ∧ (fTy 6378 = 3 → one01 ((nx M46)) = true) then (fput 6378 ((growF M46 100 10 (fun _ => 0))) x0 ((nx M46))).bind fun M47 =>
  (if (2 : Nat) = 2 ∧ (2 : Nat) = fTg 6382 ∧ ((2 : Nat) = 2 → vref ((growF M47 100 10 (fun _ => 0))) ((nx M47)) = true) ∧ (fTy 6382 = 3 → one01 ((nx M47)) = true) then (fput 6382 ((growF M47 100 10 (fun _ => 0))) x0 ((nx M47))).bind fun M48 =>
  (if (2 : Nat) = 2 ∧ (2 : Nat) = fTg 6394 ∧ ((2 : Nat) = 2 → vref ((growF M48 100 4 (fun _ => 0))) ((nx M48)) = true) ∧ (fTy 6394 = 3 → one01 ((nx M48)) = true) then (fput 6394 ((growF M48 100 4 (fun _ => 0))) x0 ((nx M48))).bind fun M49 =>
  (if (2 : Nat) = 2 ∧ (2 : Nat) = fTg 6398 ∧ ((2 : Nat) = 2 → vref ((growF M49 100 4 (fun _ => 0))) ((nx M49)) = true) ∧ (fTy 6398 = 3 → one01 ((nx M49)) = true) then (fput 6398 ((growF M49 100 4 (fun _ => 0))) x0 ((nx M49))).bind fun M50 =>
  (if (2 : Nat) = 2 ∧ (2 : Nat) = fTg 6402 ∧ ((2 : Nat) = 2 → vref ((growF M50 100 4 (fun _ => 0))) ((nx M50)) = true) ∧ (fTy 6402 = 3 → one01 ((nx M50)) = true) then (fput 6402 ((growF M50 100 4 (fun _ => 0))) x0 ((nx M50))).bind fun M51 =>
  (if (2 : Nat) = 2 ∧ (2 : Nat) = fTg 6406 ∧ ((2 : Nat) = 2 → vref ((growF M51 100 10 (fun _ => 0))) ((nx M51)) = true) ∧ (fTy 6406 = 3 → one01 ((nx M51)) = true) then (fput 6406 ((growF M51 100 10 (fun _ => 0))) x0 ((nx M51))).bind fun M52 =>
  (if (2 : Nat) = 2 ∧ (2 : Nat) = fTg 6410 ∧ ((2 : Nat) = 2 → vref ((growF M52 100 3 (fun _ => 0))) ((nx M52)) = true) ∧ (fTy 6410 = 3 → one01 ((nx M52)) = true) then (fput 6410 ((growF M52 100 3 (fun _ => 0))) x0 ((nx M52))).bind fun M53 =>
  (if (2 : Nat) = 2 ∧ (2 : Nat) = fTg 6414 ∧ ((2 : Nat) = 2 → vref ((growF M53 100 3 (fun _ => 0))) ((nx M53)) = true) ∧ (fTy 6414 = 3 → one01 ((nx M53)) = true) then (fput 6414 ((growF M53 100 3 (fun _ => 0))) x0 ((nx M53))).bind fun M54 =>
  (if (2 : Nat) = 2 ∧ (2 : Nat) = fTg 6426 ∧ ((2 : Nat) = 2 → vref ((growF M54 100 10 (fun _ => 0))) ((nx M54)) = true) ∧ (fTy 6426 = 3 → one01 ((nx M54)) = true) then (fput 6426 ((growF M54 100 10 (fun _ => 0))) x0 ((nx M54))).bind fun M55 =>
  (if (2 : Nat) = 2 ∧ (2 : Nat) = fTg 6430 ∧ ((2 : Nat) = 2 → vref ((growF M55 100 10 (fun _ => 0))) ((nx M55)) = true) ∧ (fTy 6430 = 3 → one01 ((nx M55)) = true) then (fput 6430 ((growF M55 100 10 (fun _ => 0))) x0 ((nx M55))).bind fun M56 =>
  (if (2 : Nat) = 2 ∧ (2 : Nat) = fTg 6438 ∧ ((2 : Nat) = 2 → vref ((growF M56 100 3 (fun _ => 0))) ((nx M56)) = true) ∧ (fTy 6438 = 3 → one01 ((nx M56)) = true) then (fput 6438 ((growF M56 100 3 (fun _ => 0))) x0 ((nx M56))).bind fun M57 =>
  (if (2 : Nat) = 2 ∧ (2 : Nat) = fTg 6442 ∧ ((2 : Nat) = 2 → vref ((growF M57 100 15 (fun _ => 0))) ((nx M57)) = true) ∧ (fTy 6442 = 3 → one01 ((nx M57)) = true) then (fput 6442 ((growF M57 100 15 (fun _ => 0))) x0 ((nx M57))).bind fun M58 =>
  (if (2 : Nat) = 2 ∧ (2 : Nat) = fTg 6446 ∧ ((2 : Nat) = 2 → vref ((growF M58 100 40 (fun _ => 0))) ((nx M58)) = true) ∧ (fTy 6446 = 3 → one01 ((nx M58)) = true) then (fput 6446 ((growF M58 100 40 (fun _ => 0))) x0 ((nx M58))).bind fun M59 =>
  (if (2 : Nat) = 2 ∧ (2 : Nat) = fTg 6454 ∧ ((2 : Nat) = 2 → vref ((growF M59 100 10 (fun _ => 0))) ((nx M59)) = true) ∧ (fTy 6454 = 3 → one01 ((nx M59)) = true) then (fput 6454 ((growF M59 100 10 (fun _ => 0))) x0 ((nx M59))).bind fun M60 =>
  (if (2 : Nat) = 2 ∧ (2 : Nat) = fTg 6458 ∧ ((2 : Nat) = 2 → vref ((growF M60 102 2048 (fun _ => 0))) ((nx M60)) = true) ∧ (fTy 6458 = 3 → one01 ((nx M60)) = true) then (fput 6458 ((growF M60 102 2048 (fun _ => 0))) x0 ((nx M60))).bind fun M61 =>
  (if (2 : Nat) = 2 ∧ (2 : Nat) = fTg 6462 ∧ ((2 : Nat) = 2 → vref ((growF M61 100 2048 (fun _ => 0))) ((nx M61)) = true) ∧ (fTy 6462 = 3 → one01 ((nx M61)) = true) then (fput 6462 ((growF M61 100 2048 (fun _ => 0))) x0 ((nx M61))).bind fun M62 =>
  (if (2 : Nat) = 2 ∧ (2 : Nat) = fTg 6466 ∧ ((2 : Nat) = 2 → vref ((growF M62 100 50 (fun _ => 0))) ((nx M62)) = true) ∧ (fTy 6466 = 3 → one01 ((nx M62)) = true) then (fput 6466 ((growF M62 100 50 (fun _ => 0))) x0 ((nx M62))).bind fun M63 =>
  (if (2 : Nat) = 2 ∧ (2 : Nat) = fTg 6474 ∧ ((2 : Nat) = 2 → vref ((growF M63 100 4 (fun _ => 0))) ((nx M63)) = true) ∧ (fTy 6474 = 3 → one01 ((nx M63)) = true) then (fput 6474 ((growF M63 100 4 (fun _ => 0))) x0 ((nx M63))).bind fun M64 =>
  (if (2 : Nat) = 2 ∧ (2 : Nat) = fTg 6478 ∧ ((2 : Nat) = 2 → vref ((growF M64 100 4 (fun _ => 0))) ((nx M64)) = true) ∧ (fTy 6478 = 3 → one01 ((nx M64)) = true) then (fput 6478 ((growF M64 100 4 (fun _ => 0))) x0 ((nx M64))).bind fun M65 =>
  (if (2 : Nat) = 2 ∧ (2 : Nat) = fTg 6482 ∧ ((2 : Nat) = 2 → vref ((growF M65 102 160 (fun _ => 0))) ((nx M65)) = true) ∧ (fTy 6482 = 3 → one01 ((nx M65)) = true) then (fput 6482 ((growF M65 102 160 (fun _ => 0))) x0 ((nx M65))).bind fun M66 =>
  (if (2 : Nat) = 2 ∧ (2 : Nat) = fTg 6486 ∧ ((2 : Nat) = 2 → vref ((growF M66 100 160 (fun _ => 0))) ((nx M66)) = true) ∧ (fTy 6486 = 3 → one01 ((nx M66)) = true) then (fput 6486 ((growF M66 100 160 (fun _ => 0))) x0 ((nx M66))).bind fun M67 =>
  (if (2 : Nat) = 2 ∧ (2 : Nat) = fTg 6490 ∧ ((2 : Nat) = 2 → vref ((growF M67 100 40 (fun _ => 0))) ((nx M67)) = true) ∧ (fTy 6490 = 3 → one01 ((nx M67)) = true) then (fput 6490 ((growF M67 100 40 (fun _ => 0))) x0 ((nx M67))).bind fun M68 =>
  (Ev prog clsT X d mc149 276 [(2, x0), (0, 0)] [] M68) else none) else none) else none) else none) else none) else none) else none) else none) else none) else none) else none) else none) else none) else none) else none) else none) else none) else none) else none) else none) else none) else none) else none) else none) else none) else none) else none) else none) else none) else none) else none) else none) else none) else none) else none) else none) else none) else none) else none) else none) else none) else none) else none) else none) else none) else none) else none) else none) else none) else none) else none) else none) else none) else none) else none) else none) else none) else none) else none) else none) else none) else none) else none) else none) else none) else none) else none) else none) else none) :=
  (show Call prog clsT X (d + 1) 149 [(2, x0)] M = Ev prog clsT X d mc149 0 [(2, x0), (3, 0)] [] M from rfl).trans (q149_0 X d x0  M)
set_option maxRecDepth 100000 in
theorem q149_276 (d : Nat) (x0 x1 : Int) (M : Mem) : Ev prog clsT X d mc149 276 [(2, x0), (0, x1)] [] M =
  (if cmpI .ge x1 10 = true then
  (Ev prog clsT X d mc149 293 [(2, x0), (0, 0)] [] M)
else
  ((fget 6366 M x0).bind fun v1 =>
    (aput 100 M v1 x1 (1)).bind fun M2 =>
    (fget 6354 M2 x0).bind fun v3 =>
    (aput 100 M2 v3 x1 ((-1))).bind fun M4 =>
    Ev prog clsT X d mc149 276 [(2, x0), (0, (w32 (x1 + 1)))] [] M4)) :=
  evk_at X [0, 276, 293, 305] 17 rfl
set_option maxRecDepth 100000 in
theorem q149_293 (d : Nat) (x0 x1 : Int) (M : Mem) : Ev prog clsT X d mc149 293 [(2, x0), (0, x1)] [] M =
  (if cmpI .ge x1 50 = true then
  (Ev prog clsT X d mc149 305 [(2, x0), (0, 0)] [] M)
else
  ((fget 6466 M x0).bind fun v1 =>
    (aput 100 M v1 x1 ((-1))).bind fun M2 =>
    Ev prog clsT X d mc149 293 [(2, x0), (0, (w32 (x1 + 1)))] [] M2)) :=
  evk_at X [0, 276, 293, 305] 12 rfl
set_option maxRecDepth 100000 in
theorem q149_305 (d : Nat) (x0 x1 : Int) (M : Mem) : Ev prog clsT X d mc149 305 [(2, x0), (0, x1)] [] M =
  (if cmpI .ge x1 3 = true then
  ((fput 6388 M x0 4).bind fun M1 =>
    some ((3, 0), M1))
else
  ((fget 6410 M x0).bind fun v2 =>
    (aput 100 M v2 x1 ((w32 (3 - x1)))).bind fun M3 =>
    Ev prog clsT X d mc149 305 [(2, x0), (0, (w32 (x1 + 1)))] [] M3)) :=
  evk_at X [0, 276, 293, 305] 14 rfl
set_option maxRecDepth 100000 in
theorem q248_0 (d : Nat) (x0 x1 : Int) (M : Mem) : Ev prog clsT X d mc248 0 [(2, x0), (0, x1), (3, 0), (3, 0)] [] M =
  ((alen X M x0).bind fun v1 =>
  Ev prog clsT X d mc248 5 [(2, x0), (0, x1), (0, 0), (0, v1)] [] M) :=
  evk_at X [0, 5] 7 rfl
set_option maxRecDepth 100000 in
theorem qc248 (d : Nat) (x0 x1 : Int) (M : Mem) : Call prog clsT X (d + 1) 248 [(2, x0), (0, x1)] M =
  ((alen X M x0).bind fun v1 =>
  Ev prog clsT X d mc248 5 [(2, x0), (0, x1), (0, 0), (0, v1)] [] M) :=
  (show Call prog clsT X (d + 1) 248 [(2, x0), (0, x1)] M = Ev prog clsT X d mc248 0 [(2, x0), (0, x1), (3, 0), (3, 0)] [] M from rfl).trans (q248_0 X d x0 x1  M)
set_option maxRecDepth 100000 in
theorem q248_5 (d : Nat) (x0 x1 x2 x3 : Int) (M : Mem) : Ev prog clsT X d mc248 5 [(2, x0), (0, x1), (0, x2), (0, x3)] [] M =
  (if cmpI .ge x2 x3 = true then
  (some ((3, 0), M))
else
  ((aput 100 M x0 x2 (x1)).bind fun M1 =>
    Ev prog clsT X d mc248 5 [(2, x0), (0, x1), (0, (w32 (x2 + 1))), (0, x3)] [] M1)) :=
  evk_at X [0, 5] 11 rfl
set_option maxRecDepth 100000 in
theorem q271_0 (d : Nat) (x0 : Int) (M : Mem) : Ev prog clsT X d mc271 0 [(2, x0), (3, 0), (3, 0), (3, 0), (3, 0), (3, 0), (3, 0), (3, 0)] [] M =
  (if (2 : Nat) = 2 ∧ rcv ((growF M 11 16 (fDef (clsT.getD 11 [])))) ((nx M)) 12 = true then
  ((Call prog clsT X d 88 [(2, (nx M))] ((growF M 11 16 (fDef (clsT.getD 11 []))))).bind fun r1 => if r1.1.1 = 4 then none else
  Ev prog clsT X d mc271 3 [(2, x0), (3, 0), (3, 0), (3, 0), (3, 0), (3, 0), (3, 0), (3, 0)] (pushR r1.1 [(2, (nx M))]) r1.2) else none) :=
  evk_at X [0, 3, 7, 13, 24, 25, 51, 77, 80, 107, 134, 137, 190, 243, 246, 253, 260, 263, 265, 267, 270, 272, 274, 277, 311, 345, 348, 356, 364, 367, 383, 396, 409, 412, 428, 440, 452, 455, 462, 469, 472, 484, 496, 499, 511, 523, 526, 543, 560, 563, 575, 587, 590, 603, 616, 619, 635, 647, 659, 662, 674, 686, 689, 701, 713, 716, 728, 740, 743, 760, 777, 780, 796, 812, 815, 831, 847, 850, 857, 864, 867, 874, 881, 884, 901, 918, 921, 933, 945, 948, 964, 980, 983, 985, 987, 990, 997, 1004, 1007, 1019, 1031, 1034, 1042, 1050, 1053, 1069, 1092, 1115, 1118, 1133, 1150, 1167, 1170, 1182, 1194, 1197, 1213, 1229, 1232, 1239, 1246, 1249] 4 rfl
set_option maxRecDepth 100000 in
theorem q271_3 (d : Nat) (x0 s0 : Int) (M : Mem) : Ev prog clsT X d mc271 3 [(2, x0), (3, 0), (3, 0), (3, 0), (3, 0), (3, 0), (3, 0), (3, 0)] [(2, s0)] M =
  (if (2 : Nat) = 2 ∧ rcv ((growF M 12 87 (fDef (clsT.getD 12 [])))) ((nx M)) 13 = true then
  ((Call prog clsT X d 149 [(2, (nx M))] ((growF M 12 87 (fDef (clsT.getD 12 []))))).bind fun r1 => if r1.1.1 = 4 then none else
  Ev prog clsT X d mc271 7 [(2, x0), (2, s0), (3, 0), (3, 0), (3, 0), (3, 0), (3, 0), (3, 0)] (pushR r1.1 [(2, (nx M))]) r1.2) else none) :=
  evk_at X [0, 3, 7, 13, 24, 25, 51, 77, 80, 107, 134, 137, 190, 243, 246, 253, 260, 263, 265, 267, 270, 272, 274, 277, 311, 345, 348, 356, 364, 367, 383, 396, 409, 412, 428, 440, 452, 455, 462, 469, 472, 484, 496, 499, 511, 523, 526, 543, 560, 563, 575, 587, 590, 603, 616, 619, 635, 647, 659, 662, 674, 686, 689, 701, 713, 716, 728, 740, 743, 760, 777, 780, 796, 812, 815, 831, 847, 850, 857, 864, 867, 874, 881, 884, 901, 918, 921, 933, 945, 948, 964, 980, 983, 985, 987, 990, 997, 1004, 1007, 1019, 1031, 1034, 1042, 1050, 1053, 1069, 1092, 1115, 1118, 1133, 1150, 1167, 1170, 1182, 1194, 1197, 1213, 1229, 1232, 1239, 1246, 1249] 5 rfl
set_option maxRecDepth 100000 in
theorem q271_7 (d : Nat) (x0 x1 s0 : Int) (M : Mem) : Ev prog clsT X d mc271 7 [(2, x0), (2, x1), (3, 0), (3, 0), (3, 0), (3, 0), (3, 0), (3, 0)] [(2, s0)] M =
  (Ev prog clsT X d mc271 13 [(2, x0), (2, x1), (2, s0), (2, (nx M)), (0, 0), (3, 0), (3, 0), (3, 0)] [] (growF M 101 1 (fun _ => 0))) :=
  evk_at X [0, 3, 7, 13, 24, 25, 51, 77, 80, 107, 134, 137, 190, 243, 246, 253, 260, 263, 265, 267, 270, 272, 274, 277, 311, 345, 348, 356, 364, 367, 383, 396, 409, 412, 428, 440, 452, 455, 462, 469, 472, 484, 496, 499, 511, 523, 526, 543, 560, 563, 575, 587, 590, 603, 616, 619, 635, 647, 659, 662, 674, 686, 689, 701, 713, 716, 728, 740, 743, 760, 777, 780, 796, 812, 815, 831, 847, 850, 857, 864, 867, 874, 881, 884, 901, 918, 921, 933, 945, 948, 964, 980, 983, 985, 987, 990, 997, 1004, 1007, 1019, 1031, 1034, 1042, 1050, 1053, 1069, 1092, 1115, 1118, 1133, 1150, 1167, 1170, 1182, 1194, 1197, 1213, 1229, 1232, 1239, 1246, 1249] 8 rfl
end CTQ
