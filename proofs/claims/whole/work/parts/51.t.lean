/-! Part 51.t: printed by wip/whole/emit6.py: equations with the fixed cells put in. -/
section
variable (X : MExt) (E : List (Nat × Nat)) (c s : Nat) (g : Nat → Nat → Int)
theorem r20_0 (d : Nat) (x1 : Int) : Ev prog clsT X d mc20 0 [(2, 30), (0, x1)] [] (mk E c s (hh g)) =
  (if cmpI .lt x1 0 = true then
  (some ((0, 0), ((mk E c s (hh g)))))
else
  (if cmpI .ge x1 ((g 30 0)) = true then
    (some ((0, 0), ((mk E c s (hh g)))))
  else
    (if cmpI .ge x1 40 = true then
      (some ((0, 0), ((mk E c s (hh g)))))
    else
      (some ((0, 1), ((mk E c s (hh g)))))))) :=
  evk_at X [0] 13 rfl
theorem rc20_ (d : Nat) (x1 : Int) : Call prog clsT X (d + 1) 20 [(2, 30), (0, x1)] (mk E c s (hh g)) =
  (if cmpI .lt x1 0 = true then
  (some ((0, 0), ((mk E c s (hh g)))))
else
  (if cmpI .ge x1 ((g 30 0)) = true then
    (some ((0, 0), ((mk E c s (hh g)))))
  else
    (if cmpI .ge x1 40 = true then
      (some ((0, 0), ((mk E c s (hh g)))))
    else
      (some ((0, 1), ((mk E c s (hh g)))))))) :=
  (show Call prog clsT X (d + 1) 20 [(2, 30), (0, x1)] (mk E c s (hh g)) = Ev prog clsT X d mc20 0 [(2, 30), (0, x1)] [] (mk E c s (hh g)) from rfl).trans (r20_0 X E c s g d x1 )
theorem r18_0 (d : Nat) : Ev prog clsT X d mc18 0 [(2, 30), (3, 0), (3, 0), (3, 0)] [] (mk E c s (hh g)) =
  (Ev prog clsT X d mc18 4 [(2, 30), (1, 0), (3, 0), (0, 0)] [] (mk E c s (hh g))) :=
  evk_at X [0, 4, 12] 6 rfl
theorem rc18_ (d : Nat) : Call prog clsT X (d + 1) 18 [(2, 30)] (mk E c s (hh g)) =
  (Ev prog clsT X d mc18 4 [(2, 30), (1, 0), (3, 0), (0, 0)] [] (mk E c s (hh g))) :=
  (show Call prog clsT X (d + 1) 18 [(2, 30)] (mk E c s (hh g)) = Ev prog clsT X d mc18 0 [(2, 30), (3, 0), (3, 0), (3, 0)] [] (mk E c s (hh g)) from rfl).trans (r18_0 X E c s g d  )
theorem r18_4 (d : Nat) (x1 x3 : Int) (w2 : MV) : Ev prog clsT X d mc18 4 [(2, 30), (1, x1), w2, (0, x3)] [] (mk E c s (hh g)) =
  (if cmpI .ge x3 ((g 30 0)) = true then
  (some ((1, x1), ((mk E c s (hh g)))))
else
  ((Call prog clsT X d 19 [(2, 30), (0, x3)] ((mk E c s (hh g)))).bind fun r1 => if r1.1.1 = 4 then none else
    Ev prog clsT X d mc18 12 [(2, 30), (1, x1), (3, 0), (0, x3)] (pushR r1.1 [(1, x1)]) r1.2)) :=
  evk_at X [0, 4, 12] 9 rfl
theorem r18_12 (d : Nat) (x1 x3 s0 s1 : Int) : Ev prog clsT X d mc18 12 [(2, 30), (1, x1), (3, 0), (0, x3)] [(0, s1), (1, s0)] (mk E c s (hh g)) =
  (if cmpI .eq s1 0 = true then
  (Ev prog clsT X d mc18 4 [(2, 30), (1, (lor64 s0 0)), (3, 0), (0, (w32 (x3 + 1)))] [] (mk E c s (hh g)))
else
  (if inb x3 40 = true then
    (Ev prog clsT X d mc18 4 [(2, 30), (1, (lor64 s0 ((g 33 (Int.toNat x3))))), (3, 0), (0, (w32 (x3 + 1)))] [] (mk E c s (hh g)))
  else none)) :=
  evk_at X [0, 4, 12] 12 rfl
theorem r19_0 (d : Nat) (x1 : Int) : Ev prog clsT X d mc19 0 [(2, 30), (0, x1)] [] (mk E c s (hh g)) =
  ((Call prog clsT X d 20 [(2, 30), (0, x1)] ((mk E c s (hh g)))).bind fun r1 => if r1.1.1 = 4 then none else
  Ev prog clsT X d mc19 3 [(2, 30), (0, x1)] (pushR r1.1 []) r1.2) :=
  evk_at X [0, 3] 4 rfl
theorem rc19_ (d : Nat) (x1 : Int) : Call prog clsT X (d + 1) 19 [(2, 30), (0, x1)] (mk E c s (hh g)) =
  ((Call prog clsT X d 20 [(2, 30), (0, x1)] ((mk E c s (hh g)))).bind fun r1 => if r1.1.1 = 4 then none else
  Ev prog clsT X d mc19 3 [(2, 30), (0, x1)] (pushR r1.1 []) r1.2) :=
  (show Call prog clsT X (d + 1) 19 [(2, 30), (0, x1)] (mk E c s (hh g)) = Ev prog clsT X d mc19 0 [(2, 30), (0, x1)] [] (mk E c s (hh g)) from rfl).trans (r19_0 X E c s g d x1 )
theorem r19_3 (d : Nat) (x1 s0 : Int) : Ev prog clsT X d mc19 3 [(2, 30), (0, x1)] [(0, s0)] (mk E c s (hh g)) =
  (if cmpI .eq s0 0 = true then
  (some ((0, 0), ((mk E c s (hh g)))))
else
  (if cmpI .eq ((lcmpI ((land64 ((lshr64 ((g 30 1)) x1)) 1)) 0)) 0 = true then
    (some ((0, 0), ((mk E c s (hh g)))))
  else
    (some ((0, 1), ((mk E c s (hh g))))))) :=
  evk_at X [0, 3] 14 rfl
theorem r22_0 (d : Nat) (x1 x2 : Int) : Ev prog clsT X d mc22 0 [(2, 30), (0, x1), (0, x2)] [] (mk E c s (hh g)) =
  ((Call prog clsT X d 20 [(2, 30), (0, x1)] ((mk E c s (hh g)))).bind fun r1 => if r1.1.1 = 4 then none else
  Ev prog clsT X d mc22 3 [(2, 30), (0, x1), (0, x2)] (pushR r1.1 []) r1.2) :=
  evk_at X [0, 3] 4 rfl
theorem rc22_ (d : Nat) (x1 x2 : Int) : Call prog clsT X (d + 1) 22 [(2, 30), (0, x1), (0, x2)] (mk E c s (hh g)) =
  ((Call prog clsT X d 20 [(2, 30), (0, x1)] ((mk E c s (hh g)))).bind fun r1 => if r1.1.1 = 4 then none else
  Ev prog clsT X d mc22 3 [(2, 30), (0, x1), (0, x2)] (pushR r1.1 []) r1.2) :=
  (show Call prog clsT X (d + 1) 22 [(2, 30), (0, x1), (0, x2)] (mk E c s (hh g)) = Ev prog clsT X d mc22 0 [(2, 30), (0, x1), (0, x2)] [] (mk E c s (hh g)) from rfl).trans (r22_0 X E c s g d x1 x2 )
theorem r22_3 (d : Nat) (x1 x2 s0 : Int) : Ev prog clsT X d mc22 3 [(2, 30), (0, x1), (0, x2)] [(0, s0)] (mk E c s (hh g)) =
  (if cmpI .eq s0 0 = true then
  (some ((0, 0), ((mk E c s (hh g)))))
else
  (if cmpI .eq ((lcmpI ((land64 ((lshr64 ((g 30 1)) x1)) 1)) 0)) 0 = true then
    (some ((0, 0), ((mk E c s (hh g)))))
  else
    (if inb x1 40 = true then
      (if cmpI .ne ((g 31 (Int.toNat x1))) x2 = true then
      (some ((0, 0), ((mk E c s (hh g)))))
    else
      (some ((0, 1), ((mk E c s (hh g))))))
    else none))) :=
  evk_at X [0, 3] 20 rfl
theorem r24_0 (d : Nat) (x1 : Int) : Ev prog clsT X d mc24 0 [(2, 30), (0, x1), (3, 0), (3, 0)] [] (mk E c s (hh g)) =
  (Ev prog clsT X d mc24 4 [(2, 30), (0, x1), (0, 0), (0, 0)] [] (mk E c s (hh g))) :=
  evk_at X [0, 4, 13] 6 rfl
theorem rc24_ (d : Nat) (x1 : Int) : Call prog clsT X (d + 1) 24 [(2, 30), (0, x1)] (mk E c s (hh g)) =
  (Ev prog clsT X d mc24 4 [(2, 30), (0, x1), (0, 0), (0, 0)] [] (mk E c s (hh g))) :=
  (show Call prog clsT X (d + 1) 24 [(2, 30), (0, x1)] (mk E c s (hh g)) = Ev prog clsT X d mc24 0 [(2, 30), (0, x1), (3, 0), (3, 0)] [] (mk E c s (hh g)) from rfl).trans (r24_0 X E c s g d x1 )
theorem r24_4 (d : Nat) (x1 x2 x3 : Int) : Ev prog clsT X d mc24 4 [(2, 30), (0, x1), (0, x2), (0, x3)] [] (mk E c s (hh g)) =
  (if cmpI .ge x3 ((g 30 0)) = true then
  (some ((0, x2), ((mk E c s (hh g)))))
else
  ((Call prog clsT X d 22 [(2, 30), (0, x3), (0, x1)] ((mk E c s (hh g)))).bind fun r1 => if r1.1.1 = 4 then none else
    Ev prog clsT X d mc24 13 [(2, 30), (0, x1), (0, x2), (0, x3)] (pushR r1.1 [(0, x2)]) r1.2)) :=
  evk_at X [0, 4, 13] 10 rfl
theorem r24_13 (d : Nat) (x1 x2 x3 s0 s1 : Int) : Ev prog clsT X d mc24 13 [(2, 30), (0, x1), (0, x2), (0, x3)] [(0, s1), (0, s0)] (mk E c s (hh g)) =
  (if cmpI .eq s1 0 = true then
  (Ev prog clsT X d mc24 4 [(2, 30), (0, x1), (0, (w32 (s0 + 0))), (0, (w32 (x3 + 1)))] [] (mk E c s (hh g)))
else
  (Ev prog clsT X d mc24 4 [(2, 30), (0, x1), (0, (w32 (s0 + 1))), (0, (w32 (x3 + 1)))] [] (mk E c s (hh g)))) :=
  evk_at X [0, 4, 13] 9 rfl
theorem r3_0 (d : Nat) (x1 : Int) : Ev prog clsT X d mc3 0 [(2, 55), (0, x1), (3, 0), (3, 0)] [] (mk E c s (hh g)) =
  (Ev prog clsT X d mc3 2 [(2, 55), (0, x1), (0, 0), (3, 0)] [] (mk E c s (hh g))) :=
  evk_at X [0, 2, 10, 30] 4 rfl
theorem rc3_ (d : Nat) (x1 : Int) : Call prog clsT X (d + 1) 3 [(2, 55), (0, x1)] (mk E c s (hh g)) =
  (Ev prog clsT X d mc3 2 [(2, 55), (0, x1), (0, 0), (3, 0)] [] (mk E c s (hh g))) :=
  (show Call prog clsT X (d + 1) 3 [(2, 55), (0, x1)] (mk E c s (hh g)) = Ev prog clsT X d mc3 0 [(2, 55), (0, x1), (3, 0), (3, 0)] [] (mk E c s (hh g)) from rfl).trans (r3_0 X E c s g d x1 )
theorem r3_2 (d : Nat) (x1 x2 : Int) (w3 : MV) : Ev prog clsT X d mc3 2 [(2, 55), (0, x1), (0, x2), w3] [] (mk E c s (hh g)) =
  (if cmpI .ge x2 x1 = true then
  (some ((3, 0), ((mk E c s (hh g)))))
else
  (if cmpI .ge x2 40 = true then
    (some ((3, 0), ((mk E c s (hh g)))))
  else
    (Ev prog clsT X d mc3 10 [(2, 55), (0, x1), (0, x2), (0, 0)] [] (mk E c s (hh g))))) :=
  evk_at X [0, 2, 10, 30] 10 rfl
theorem r3_10 (d : Nat) (x1 x2 x3 : Int) : Ev prog clsT X d mc3 10 [(2, 55), (0, x1), (0, x2), (0, x3)] [] (mk E c s (hh g)) =
  (if inb x2 40 = true then
  (if cmpI .le ((g 56 (Int.toNat x2))) 0 = true then
  (Ev prog clsT X d mc3 2 [(2, 55), (0, x1), (0, (w32 (x2 + 1))), (0, x3)] [] (mk E c s (hh g)))
else
  (if cmpI .ge x3 x1 = true then
    (Ev prog clsT X d mc3 2 [(2, 55), (0, x1), (0, (w32 (x2 + 1))), (0, x3)] [] (mk E c s (hh g)))
  else
    (if cmpI .ge x3 40 = true then
      (Ev prog clsT X d mc3 2 [(2, 55), (0, x1), (0, (w32 (x2 + 1))), (0, x3)] [] (mk E c s (hh g)))
    else
      (if inb x3 40 = true then
        (if cmpI .le ((g 56 (Int.toNat x3))) 0 = true then
        (Ev prog clsT X d mc3 10 [(2, 55), (0, x1), (0, x2), (0, (w32 (x3 + 1)))] [] (mk E c s (hh g)))
      else
        ((Call prog clsT X d 4 [(2, 55), (0, x3), (0, x2)] ((mk E c s (hh g)))).bind fun r1 => if r1.1.1 = 4 then none else
          Ev prog clsT X d mc3 30 [(2, 55), (0, x1), (0, x2), (0, x3)] (pushR r1.1 []) r1.2))
      else none))))
else none) :=
  evk_at X [0, 2, 10, 30] 21 rfl
theorem r3_30 (d : Nat) (x1 x2 x3 s0 : Int) : Ev prog clsT X d mc3 30 [(2, 55), (0, x1), (0, x2), (0, x3)] [(0, s0)] (mk E c s (hh g)) =
  (if cmpI .eq s0 0 = true then
  (Ev prog clsT X d mc3 10 [(2, 55), (0, x1), (0, x2), (0, (w32 (x3 + 1)))] [] (mk E c s (hh g)))
else
  (if inb x2 40 = true then
    (if inb x2 40 = true then
    (Ev prog clsT X d mc3 10 [(2, 55), (0, x1), (0, x2), (0, (w32 (x3 + 1)))] [] (mk E c s (hh (up g 56 (Int.toNat x2) ((w32 (((g 56 (Int.toNat x2))) + 1)))))))
  else none)
  else none)) :=
  (evk_at X [0, 2, 10, 30] 13 (rfl : _ = (if cmpI .eq s0 0 = true then
  (Ev prog clsT X d mc3 10 [(2, 55), (0, x1), (0, x2), (0, (w32 (x3 + 1)))] [] (mk E c s (hh g)))
else
  (if inb x2 40 = true then
    (if inb x2 40 = true then
    (Ev prog clsT X d mc3 10 [(2, 55), (0, x1), (0, x2), (0, (w32 (x3 + 1)))] [] (mk E c s (PU (hh g) 56 (Int.toNat x2) ((w32 (((g 56 (Int.toNat x2))) + 1))))))
  else none)
  else none)))).trans (by simp only [hhP56])
set_option maxRecDepth 100000 in
theorem r64_0 (d : Nat) (x1 x2 x3 : Int) : Ev prog clsT X d mc64 0 [(2, 48), (0, x1), (0, x2), (0, x3), (3, 0), (3, 0), (3, 0), (3, 0), (3, 0), (3, 0)] [] (mk E c s (hh g)) =
  (if inb x1 4 = true then
  (if inb x1 4 = true then
  (if inb x1 4 = true then
  (if cmpI .ne ((g 52 (Int.toNat x1))) 0 = true then
  (if cmpI .eq 0 0 = true then
    (if inb x2 10 = true then
      (if cmpI .eq 0 0 = true then
      (if inb x2 10 = true then
        (if cmpI .eq 0 0 = true then
        (if cmpI .le ((w32 (((w32 (((if (g 54 (Int.toNat x1)) < (g 50 (Int.toNat x2)) then (g 50 (Int.toNat x2)) else (g 54 (Int.toNat x1)))) - ((if (g 50 (Int.toNat x2)) < (g 53 (Int.toNat x1)) then (g 50 (Int.toNat x2)) else (g 53 (Int.toNat x1))))))) - ((w32 (((g 54 (Int.toNat x1))) - ((g 53 (Int.toNat x1))))))))) x3 = true then
          (if inb x1 4 = true then
            (if inb x1 4 = true then
            (if inb x1 4 = true then
            (if inb x1 4 = true then
            (if inb x2 10 = true then
            ((Call prog clsT X d 63 [(2, 48), (0, (w32 (x2 + 1))), (0, (w32 (x3 - ((w32 (((w32 (((if (g 54 (Int.toNat x1)) < (g 50 (Int.toNat x2)) then (g 50 (Int.toNat x2)) else (g 54 (Int.toNat x1)))) - ((if (g 50 (Int.toNat x2)) < (g 53 (Int.toNat x1)) then (g 50 (Int.toNat x2)) else (g 53 (Int.toNat x1))))))) - ((w32 (((g 54 (Int.toNat x1))) - ((g 53 (Int.toNat x1))))))))))))] ((mk E c s (hh (up (up (up (up g 53 (Int.toNat x1) ((if (g 50 (Int.toNat x2)) < (g 53 (Int.toNat x1)) then (g 50 (Int.toNat x2)) else (g 53 (Int.toNat x1))))) 54 (Int.toNat x1) ((if (g 54 (Int.toNat x1)) < (g 50 (Int.toNat x2)) then (g 50 (Int.toNat x2)) else (g 54 (Int.toNat x1))))) 52 (Int.toNat x1) ((w32 (((g 52 (Int.toNat x1))) + 1)))) 51 (Int.toNat x2) x1))))).bind fun r1 => if r1.1.1 = 4 then none else
            Ev prog clsT X d mc64 95 [(2, 48), (0, x1), (0, x2), (0, x3), (0, (g 53 (Int.toNat x1))), (0, (g 54 (Int.toNat x1))), (0, 0), (0, (if (g 50 (Int.toNat x2)) < (g 53 (Int.toNat x1)) then (g 50 (Int.toNat x2)) else (g 53 (Int.toNat x1)))), (0, (if (g 54 (Int.toNat x1)) < (g 50 (Int.toNat x2)) then (g 50 (Int.toNat x2)) else (g 54 (Int.toNat x1)))), (0, (w32 (((w32 (((if (g 54 (Int.toNat x1)) < (g 50 (Int.toNat x2)) then (g 50 (Int.toNat x2)) else (g 54 (Int.toNat x1)))) - ((if (g 50 (Int.toNat x2)) < (g 53 (Int.toNat x1)) then (g 50 (Int.toNat x2)) else (g 53 (Int.toNat x1))))))) - ((w32 (((g 54 (Int.toNat x1))) - ((g 53 (Int.toNat x1)))))))))] (pushR r1.1 []) r1.2)
          else none)
          else none)
          else none)
          else none)
          else none)
        else
          (some ((0, 0), ((mk E c s (hh g))))))
      else
        (if cmpI .le 0 x3 = true then
          (if inb x1 4 = true then
            (if inb x1 4 = true then
            (if inb x1 4 = true then
            (if inb x1 4 = true then
            (if inb x2 10 = true then
            ((Call prog clsT X d 63 [(2, 48), (0, (w32 (x2 + 1))), (0, (w32 (x3 - 0)))] ((mk E c s (hh (up (up (up (up g 53 (Int.toNat x1) ((if (g 50 (Int.toNat x2)) < (g 53 (Int.toNat x1)) then (g 50 (Int.toNat x2)) else (g 53 (Int.toNat x1))))) 54 (Int.toNat x1) ((if (g 54 (Int.toNat x1)) < (g 50 (Int.toNat x2)) then (g 50 (Int.toNat x2)) else (g 54 (Int.toNat x1))))) 52 (Int.toNat x1) ((w32 (((g 52 (Int.toNat x1))) + 1)))) 51 (Int.toNat x2) x1))))).bind fun r2 => if r2.1.1 = 4 then none else
            Ev prog clsT X d mc64 95 [(2, 48), (0, x1), (0, x2), (0, x3), (0, (g 53 (Int.toNat x1))), (0, (g 54 (Int.toNat x1))), (0, 0), (0, (if (g 50 (Int.toNat x2)) < (g 53 (Int.toNat x1)) then (g 50 (Int.toNat x2)) else (g 53 (Int.toNat x1)))), (0, (if (g 54 (Int.toNat x1)) < (g 50 (Int.toNat x2)) then (g 50 (Int.toNat x2)) else (g 54 (Int.toNat x1)))), (0, 0)] (pushR r2.1 []) r2.2)
          else none)
          else none)
          else none)
          else none)
          else none)
        else
          (some ((0, 0), ((mk E c s (hh g)))))))
      else none)
    else
      (if inb x2 10 = true then
        (if cmpI .eq 0 0 = true then
        (if cmpI .le ((w32 (((w32 (((g 50 (Int.toNat x2))) - ((if (g 50 (Int.toNat x2)) < (g 53 (Int.toNat x1)) then (g 50 (Int.toNat x2)) else (g 53 (Int.toNat x1))))))) - ((w32 (((g 54 (Int.toNat x1))) - ((g 53 (Int.toNat x1))))))))) x3 = true then
          (if inb x1 4 = true then
            (if inb x1 4 = true then
            (if inb x1 4 = true then
            (if inb x1 4 = true then
            (if inb x2 10 = true then
            ((Call prog clsT X d 63 [(2, 48), (0, (w32 (x2 + 1))), (0, (w32 (x3 - ((w32 (((w32 (((g 50 (Int.toNat x2))) - ((if (g 50 (Int.toNat x2)) < (g 53 (Int.toNat x1)) then (g 50 (Int.toNat x2)) else (g 53 (Int.toNat x1))))))) - ((w32 (((g 54 (Int.toNat x1))) - ((g 53 (Int.toNat x1))))))))))))] ((mk E c s (hh (up (up (up (up g 53 (Int.toNat x1) ((if (g 50 (Int.toNat x2)) < (g 53 (Int.toNat x1)) then (g 50 (Int.toNat x2)) else (g 53 (Int.toNat x1))))) 54 (Int.toNat x1) ((g 50 (Int.toNat x2)))) 52 (Int.toNat x1) ((w32 (((g 52 (Int.toNat x1))) + 1)))) 51 (Int.toNat x2) x1))))).bind fun r3 => if r3.1.1 = 4 then none else
            Ev prog clsT X d mc64 95 [(2, 48), (0, x1), (0, x2), (0, x3), (0, (g 53 (Int.toNat x1))), (0, (g 54 (Int.toNat x1))), (0, 0), (0, (if (g 50 (Int.toNat x2)) < (g 53 (Int.toNat x1)) then (g 50 (Int.toNat x2)) else (g 53 (Int.toNat x1)))), (0, (g 50 (Int.toNat x2))), (0, (w32 (((w32 (((g 50 (Int.toNat x2))) - ((if (g 50 (Int.toNat x2)) < (g 53 (Int.toNat x1)) then (g 50 (Int.toNat x2)) else (g 53 (Int.toNat x1))))))) - ((w32 (((g 54 (Int.toNat x1))) - ((g 53 (Int.toNat x1)))))))))] (pushR r3.1 []) r3.2)
          else none)
          else none)
          else none)
          else none)
          else none)
        else
          (some ((0, 0), ((mk E c s (hh g))))))
      else
        (if cmpI .le 0 x3 = true then
          (if inb x1 4 = true then
            (if inb x1 4 = true then
            (if inb x1 4 = true then
            (if inb x1 4 = true then
            (if inb x2 10 = true then
            ((Call prog clsT X d 63 [(2, 48), (0, (w32 (x2 + 1))), (0, (w32 (x3 - 0)))] ((mk E c s (hh (up (up (up (up g 53 (Int.toNat x1) ((if (g 50 (Int.toNat x2)) < (g 53 (Int.toNat x1)) then (g 50 (Int.toNat x2)) else (g 53 (Int.toNat x1))))) 54 (Int.toNat x1) ((g 50 (Int.toNat x2)))) 52 (Int.toNat x1) ((w32 (((g 52 (Int.toNat x1))) + 1)))) 51 (Int.toNat x2) x1))))).bind fun r4 => if r4.1.1 = 4 then none else
            Ev prog clsT X d mc64 95 [(2, 48), (0, x1), (0, x2), (0, x3), (0, (g 53 (Int.toNat x1))), (0, (g 54 (Int.toNat x1))), (0, 0), (0, (if (g 50 (Int.toNat x2)) < (g 53 (Int.toNat x1)) then (g 50 (Int.toNat x2)) else (g 53 (Int.toNat x1)))), (0, (g 50 (Int.toNat x2))), (0, 0)] (pushR r4.1 []) r4.2)
          else none)
          else none)
          else none)
          else none)
          else none)
        else
          (some ((0, 0), ((mk E c s (hh g)))))))
      else none))
    else none)
  else
    (if inb x2 10 = true then
      (if cmpI .eq 0 0 = true then
      (if inb x2 10 = true then
        (if cmpI .eq 0 0 = true then
        (if cmpI .le ((w32 (((w32 (((if (g 54 (Int.toNat x1)) < (g 50 (Int.toNat x2)) then (g 50 (Int.toNat x2)) else (g 54 (Int.toNat x1)))) - ((g 50 (Int.toNat x2)))))) - ((w32 (((g 54 (Int.toNat x1))) - ((g 53 (Int.toNat x1))))))))) x3 = true then
          (if inb x1 4 = true then
            (if inb x1 4 = true then
            (if inb x1 4 = true then
            (if inb x1 4 = true then
            (if inb x2 10 = true then
            ((Call prog clsT X d 63 [(2, 48), (0, (w32 (x2 + 1))), (0, (w32 (x3 - ((w32 (((w32 (((if (g 54 (Int.toNat x1)) < (g 50 (Int.toNat x2)) then (g 50 (Int.toNat x2)) else (g 54 (Int.toNat x1)))) - ((g 50 (Int.toNat x2)))))) - ((w32 (((g 54 (Int.toNat x1))) - ((g 53 (Int.toNat x1))))))))))))] ((mk E c s (hh (up (up (up (up g 53 (Int.toNat x1) ((g 50 (Int.toNat x2)))) 54 (Int.toNat x1) ((if (g 54 (Int.toNat x1)) < (g 50 (Int.toNat x2)) then (g 50 (Int.toNat x2)) else (g 54 (Int.toNat x1))))) 52 (Int.toNat x1) ((w32 (((g 52 (Int.toNat x1))) + 1)))) 51 (Int.toNat x2) x1))))).bind fun r5 => if r5.1.1 = 4 then none else
            Ev prog clsT X d mc64 95 [(2, 48), (0, x1), (0, x2), (0, x3), (0, (g 53 (Int.toNat x1))), (0, (g 54 (Int.toNat x1))), (0, 0), (0, (g 50 (Int.toNat x2))), (0, (if (g 54 (Int.toNat x1)) < (g 50 (Int.toNat x2)) then (g 50 (Int.toNat x2)) else (g 54 (Int.toNat x1)))), (0, (w32 (((w32 (((if (g 54 (Int.toNat x1)) < (g 50 (Int.toNat x2)) then (g 50 (Int.toNat x2)) else (g 54 (Int.toNat x1)))) - ((g 50 (Int.toNat x2)))))) - ((w32 (((g 54 (Int.toNat x1))) - ((g 53 (Int.toNat x1)))))))))] (pushR r5.1 []) r5.2)
          else none)
          else none)
          else none)
          else none)
          else none)
        else
          (some ((0, 0), ((mk E c s (hh g))))))
      else
        (if cmpI .le 0 x3 = true then
          (if inb x1 4 = true then
            (if inb x1 4 = true then
            (if inb x1 4 = true then
            (if inb x1 4 = true then
            (if inb x2 10 = true then
            ((Call prog clsT X d 63 [(2, 48), (0, (w32 (x2 + 1))), (0, (w32 (x3 - 0)))] ((mk E c s (hh (up (up (up (up g 53 (Int.toNat x1) ((g 50 (Int.toNat x2)))) 54 (Int.toNat x1) ((if (g 54 (Int.toNat x1)) < (g 50 (Int.toNat x2)) then (g 50 (Int.toNat x2)) else (g 54 (Int.toNat x1))))) 52 (Int.toNat x1) ((w32 (((g 52 (Int.toNat x1))) + 1)))) 51 (Int.toNat x2) x1))))).bind fun r6 => if r6.1.1 = 4 then none else
            Ev prog clsT X d mc64 95 [(2, 48), (0, x1), (0, x2), (0, x3), (0, (g 53 (Int.toNat x1))), (0, (g 54 (Int.toNat x1))), (0, 0), (0, (g 50 (Int.toNat x2))), (0, (if (g 54 (Int.toNat x1)) < (g 50 (Int.toNat x2)) then (g 50 (Int.toNat x2)) else (g 54 (Int.toNat x1)))), (0, 0)] (pushR r6.1 []) r6.2)
          else none)
          else none)
          else none)
          else none)
          else none)
        else
          (some ((0, 0), ((mk E c s (hh g)))))))
      else none)
    else
      (if inb x2 10 = true then
        (if cmpI .eq 0 0 = true then
        (if cmpI .le ((w32 (((w32 (((g 50 (Int.toNat x2))) - ((g 50 (Int.toNat x2)))))) - ((w32 (((g 54 (Int.toNat x1))) - ((g 53 (Int.toNat x1))))))))) x3 = true then
          (if inb x1 4 = true then
            (if inb x1 4 = true then
            (if inb x1 4 = true then
            (if inb x1 4 = true then
            (if inb x2 10 = true then
            ((Call prog clsT X d 63 [(2, 48), (0, (w32 (x2 + 1))), (0, (w32 (x3 - ((w32 (((w32 (((g 50 (Int.toNat x2))) - ((g 50 (Int.toNat x2)))))) - ((w32 (((g 54 (Int.toNat x1))) - ((g 53 (Int.toNat x1))))))))))))] ((mk E c s (hh (up (up (up (up g 53 (Int.toNat x1) ((g 50 (Int.toNat x2)))) 54 (Int.toNat x1) ((g 50 (Int.toNat x2)))) 52 (Int.toNat x1) ((w32 (((g 52 (Int.toNat x1))) + 1)))) 51 (Int.toNat x2) x1))))).bind fun r7 => if r7.1.1 = 4 then none else
            Ev prog clsT X d mc64 95 [(2, 48), (0, x1), (0, x2), (0, x3), (0, (g 53 (Int.toNat x1))), (0, (g 54 (Int.toNat x1))), (0, 0), (0, (g 50 (Int.toNat x2))), (0, (g 50 (Int.toNat x2))), (0, (w32 (((w32 (((g 50 (Int.toNat x2))) - ((g 50 (Int.toNat x2)))))) - ((w32 (((g 54 (Int.toNat x1))) - ((g 53 (Int.toNat x1)))))))))] (pushR r7.1 []) r7.2)
          else none)
          else none)
          else none)
          else none)
          else none)
        else
          (some ((0, 0), ((mk E c s (hh g))))))
      else
        (if cmpI .le 0 x3 = true then
          (if inb x1 4 = true then
            (if inb x1 4 = true then
            (if inb x1 4 = true then
            (if inb x1 4 = true then
            (if inb x2 10 = true then
            ((Call prog clsT X d 63 [(2, 48), (0, (w32 (x2 + 1))), (0, (w32 (x3 - 0)))] ((mk E c s (hh (up (up (up (up g 53 (Int.toNat x1) ((g 50 (Int.toNat x2)))) 54 (Int.toNat x1) ((g 50 (Int.toNat x2)))) 52 (Int.toNat x1) ((w32 (((g 52 (Int.toNat x1))) + 1)))) 51 (Int.toNat x2) x1))))).bind fun r8 => if r8.1.1 = 4 then none else
            Ev prog clsT X d mc64 95 [(2, 48), (0, x1), (0, x2), (0, x3), (0, (g 53 (Int.toNat x1))), (0, (g 54 (Int.toNat x1))), (0, 0), (0, (g 50 (Int.toNat x2))), (0, (g 50 (Int.toNat x2))), (0, 0)] (pushR r8.1 []) r8.2)
          else none)
          else none)
          else none)
          else none)
          else none)
        else
          (some ((0, 0), ((mk E c s (hh g)))))))
      else none))
    else none))
else
  (if cmpI .eq 1 0 = true then
    (if inb x2 10 = true then
      (if cmpI .eq 1 0 = true then
      (if inb x2 10 = true then
        (if cmpI .eq 1 0 = true then
        (if cmpI .le ((w32 (((w32 (((if (g 54 (Int.toNat x1)) < (g 50 (Int.toNat x2)) then (g 50 (Int.toNat x2)) else (g 54 (Int.toNat x1)))) - ((if (g 50 (Int.toNat x2)) < (g 53 (Int.toNat x1)) then (g 50 (Int.toNat x2)) else (g 53 (Int.toNat x1))))))) - ((w32 (((g 54 (Int.toNat x1))) - ((g 53 (Int.toNat x1))))))))) x3 = true then
          (if inb x1 4 = true then
            (if inb x1 4 = true then
            (if inb x1 4 = true then
            (if inb x1 4 = true then
            (if inb x2 10 = true then
            ((Call prog clsT X d 63 [(2, 48), (0, (w32 (x2 + 1))), (0, (w32 (x3 - ((w32 (((w32 (((if (g 54 (Int.toNat x1)) < (g 50 (Int.toNat x2)) then (g 50 (Int.toNat x2)) else (g 54 (Int.toNat x1)))) - ((if (g 50 (Int.toNat x2)) < (g 53 (Int.toNat x1)) then (g 50 (Int.toNat x2)) else (g 53 (Int.toNat x1))))))) - ((w32 (((g 54 (Int.toNat x1))) - ((g 53 (Int.toNat x1))))))))))))] ((mk E c s (hh (up (up (up (up g 53 (Int.toNat x1) ((if (g 50 (Int.toNat x2)) < (g 53 (Int.toNat x1)) then (g 50 (Int.toNat x2)) else (g 53 (Int.toNat x1))))) 54 (Int.toNat x1) ((if (g 54 (Int.toNat x1)) < (g 50 (Int.toNat x2)) then (g 50 (Int.toNat x2)) else (g 54 (Int.toNat x1))))) 52 (Int.toNat x1) ((w32 (((g 52 (Int.toNat x1))) + 1)))) 51 (Int.toNat x2) x1))))).bind fun r9 => if r9.1.1 = 4 then none else
            Ev prog clsT X d mc64 95 [(2, 48), (0, x1), (0, x2), (0, x3), (0, (g 53 (Int.toNat x1))), (0, (g 54 (Int.toNat x1))), (0, 1), (0, (if (g 50 (Int.toNat x2)) < (g 53 (Int.toNat x1)) then (g 50 (Int.toNat x2)) else (g 53 (Int.toNat x1)))), (0, (if (g 54 (Int.toNat x1)) < (g 50 (Int.toNat x2)) then (g 50 (Int.toNat x2)) else (g 54 (Int.toNat x1)))), (0, (w32 (((w32 (((if (g 54 (Int.toNat x1)) < (g 50 (Int.toNat x2)) then (g 50 (Int.toNat x2)) else (g 54 (Int.toNat x1)))) - ((if (g 50 (Int.toNat x2)) < (g 53 (Int.toNat x1)) then (g 50 (Int.toNat x2)) else (g 53 (Int.toNat x1))))))) - ((w32 (((g 54 (Int.toNat x1))) - ((g 53 (Int.toNat x1)))))))))] (pushR r9.1 []) r9.2)
          else none)
          else none)
          else none)
          else none)
          else none)
        else
          (some ((0, 0), ((mk E c s (hh g))))))
      else
        (if cmpI .le 0 x3 = true then
          (if inb x1 4 = true then
            (if inb x1 4 = true then
            (if inb x1 4 = true then
            (if inb x1 4 = true then
            (if inb x2 10 = true then
            ((Call prog clsT X d 63 [(2, 48), (0, (w32 (x2 + 1))), (0, (w32 (x3 - 0)))] ((mk E c s (hh (up (up (up (up g 53 (Int.toNat x1) ((if (g 50 (Int.toNat x2)) < (g 53 (Int.toNat x1)) then (g 50 (Int.toNat x2)) else (g 53 (Int.toNat x1))))) 54 (Int.toNat x1) ((if (g 54 (Int.toNat x1)) < (g 50 (Int.toNat x2)) then (g 50 (Int.toNat x2)) else (g 54 (Int.toNat x1))))) 52 (Int.toNat x1) ((w32 (((g 52 (Int.toNat x1))) + 1)))) 51 (Int.toNat x2) x1))))).bind fun r10 => if r10.1.1 = 4 then none else
            Ev prog clsT X d mc64 95 [(2, 48), (0, x1), (0, x2), (0, x3), (0, (g 53 (Int.toNat x1))), (0, (g 54 (Int.toNat x1))), (0, 1), (0, (if (g 50 (Int.toNat x2)) < (g 53 (Int.toNat x1)) then (g 50 (Int.toNat x2)) else (g 53 (Int.toNat x1)))), (0, (if (g 54 (Int.toNat x1)) < (g 50 (Int.toNat x2)) then (g 50 (Int.toNat x2)) else (g 54 (Int.toNat x1)))), (0, 0)] (pushR r10.1 []) r10.2)
          else none)
          else none)
          else none)
          else none)
          else none)
        else
          (some ((0, 0), ((mk E c s (hh g)))))))
      else none)
    else
      (if inb x2 10 = true then
        (if cmpI .eq 1 0 = true then
        (if cmpI .le ((w32 (((w32 (((g 50 (Int.toNat x2))) - ((if (g 50 (Int.toNat x2)) < (g 53 (Int.toNat x1)) then (g 50 (Int.toNat x2)) else (g 53 (Int.toNat x1))))))) - ((w32 (((g 54 (Int.toNat x1))) - ((g 53 (Int.toNat x1))))))))) x3 = true then
          (if inb x1 4 = true then
            (if inb x1 4 = true then
            (if inb x1 4 = true then
            (if inb x1 4 = true then
            (if inb x2 10 = true then
            ((Call prog clsT X d 63 [(2, 48), (0, (w32 (x2 + 1))), (0, (w32 (x3 - ((w32 (((w32 (((g 50 (Int.toNat x2))) - ((if (g 50 (Int.toNat x2)) < (g 53 (Int.toNat x1)) then (g 50 (Int.toNat x2)) else (g 53 (Int.toNat x1))))))) - ((w32 (((g 54 (Int.toNat x1))) - ((g 53 (Int.toNat x1))))))))))))] ((mk E c s (hh (up (up (up (up g 53 (Int.toNat x1) ((if (g 50 (Int.toNat x2)) < (g 53 (Int.toNat x1)) then (g 50 (Int.toNat x2)) else (g 53 (Int.toNat x1))))) 54 (Int.toNat x1) ((g 50 (Int.toNat x2)))) 52 (Int.toNat x1) ((w32 (((g 52 (Int.toNat x1))) + 1)))) 51 (Int.toNat x2) x1))))).bind fun r11 => if r11.1.1 = 4 then none else
            Ev prog clsT X d mc64 95 [(2, 48), (0, x1), (0, x2), (0, x3), (0, (g 53 (Int.toNat x1))), (0, (g 54 (Int.toNat x1))), (0, 1), (0, (if (g 50 (Int.toNat x2)) < (g 53 (Int.toNat x1)) then (g 50 (Int.toNat x2)) else (g 53 (Int.toNat x1)))), (0, (g 50 (Int.toNat x2))), (0, (w32 (((w32 (((g 50 (Int.toNat x2))) - ((if (g 50 (Int.toNat x2)) < (g 53 (Int.toNat x1)) then (g 50 (Int.toNat x2)) else (g 53 (Int.toNat x1))))))) - ((w32 (((g 54 (Int.toNat x1))) - ((g 53 (Int.toNat x1)))))))))] (pushR r11.1 []) r11.2)
          else none)
          else none)
          else none)
          else none)
          else none)
        else
          (some ((0, 0), ((mk E c s (hh g))))))
      else
        (if cmpI .le 0 x3 = true then
          (if inb x1 4 = true then
            (if inb x1 4 = true then
            (if inb x1 4 = true then
            (if inb x1 4 = true then
            (if inb x2 10 = true then
            ((Call prog clsT X d 63 [(2, 48), (0, (w32 (x2 + 1))), (0, (w32 (x3 - 0)))] ((mk E c s (hh (up (up (up (up g 53 (Int.toNat x1) ((if (g 50 (Int.toNat x2)) < (g 53 (Int.toNat x1)) then (g 50 (Int.toNat x2)) else (g 53 (Int.toNat x1))))) 54 (Int.toNat x1) ((g 50 (Int.toNat x2)))) 52 (Int.toNat x1) ((w32 (((g 52 (Int.toNat x1))) + 1)))) 51 (Int.toNat x2) x1))))).bind fun r12 => if r12.1.1 = 4 then none else
            Ev prog clsT X d mc64 95 [(2, 48), (0, x1), (0, x2), (0, x3), (0, (g 53 (Int.toNat x1))), (0, (g 54 (Int.toNat x1))), (0, 1), (0, (if (g 50 (Int.toNat x2)) < (g 53 (Int.toNat x1)) then (g 50 (Int.toNat x2)) else (g 53 (Int.toNat x1)))), (0, (g 50 (Int.toNat x2))), (0, 0)] (pushR r12.1 []) r12.2)
          else none)
          else none)
          else none)
          else none)
          else none)
        else
          (some ((0, 0), ((mk E c s (hh g)))))))
      else none))
    else none)
  else
    (if inb x2 10 = true then
      (if cmpI .eq 1 0 = true then
      (if inb x2 10 = true then
        (if cmpI .eq 1 0 = true then
        (if cmpI .le ((w32 (((w32 (((if (g 54 (Int.toNat x1)) < (g 50 (Int.toNat x2)) then (g 50 (Int.toNat x2)) else (g 54 (Int.toNat x1)))) - ((g 50 (Int.toNat x2)))))) - ((w32 (((g 54 (Int.toNat x1))) - ((g 53 (Int.toNat x1))))))))) x3 = true then
          (if inb x1 4 = true then
            (if inb x1 4 = true then
            (if inb x1 4 = true then
            (if inb x1 4 = true then
            (if inb x2 10 = true then
            ((Call prog clsT X d 63 [(2, 48), (0, (w32 (x2 + 1))), (0, (w32 (x3 - ((w32 (((w32 (((if (g 54 (Int.toNat x1)) < (g 50 (Int.toNat x2)) then (g 50 (Int.toNat x2)) else (g 54 (Int.toNat x1)))) - ((g 50 (Int.toNat x2)))))) - ((w32 (((g 54 (Int.toNat x1))) - ((g 53 (Int.toNat x1))))))))))))] ((mk E c s (hh (up (up (up (up g 53 (Int.toNat x1) ((g 50 (Int.toNat x2)))) 54 (Int.toNat x1) ((if (g 54 (Int.toNat x1)) < (g 50 (Int.toNat x2)) then (g 50 (Int.toNat x2)) else (g 54 (Int.toNat x1))))) 52 (Int.toNat x1) ((w32 (((g 52 (Int.toNat x1))) + 1)))) 51 (Int.toNat x2) x1))))).bind fun r13 => if r13.1.1 = 4 then none else
            Ev prog clsT X d mc64 95 [(2, 48), (0, x1), (0, x2), (0, x3), (0, (g 53 (Int.toNat x1))), (0, (g 54 (Int.toNat x1))), (0, 1), (0, (g 50 (Int.toNat x2))), (0, (if (g 54 (Int.toNat x1)) < (g 50 (Int.toNat x2)) then (g 50 (Int.toNat x2)) else (g 54 (Int.toNat x1)))), (0, (w32 (((w32 (((if (g 54 (Int.toNat x1)) < (g 50 (Int.toNat x2)) then (g 50 (Int.toNat x2)) else (g 54 (Int.toNat x1)))) - ((g 50 (Int.toNat x2)))))) - ((w32 (((g 54 (Int.toNat x1))) - ((g 53 (Int.toNat x1)))))))))] (pushR r13.1 []) r13.2)
          else none)
          else none)
          else none)
          else none)
          else none)
        else
          (some ((0, 0), ((mk E c s (hh g))))))
      else
        (if cmpI .le 0 x3 = true then
          (if inb x1 4 = true then
            (if inb x1 4 = true then
            (if inb x1 4 = true then
            (if inb x1 4 = true then
            (if inb x2 10 = true then
            ((Call prog clsT X d 63 [(2, 48), (0, (w32 (x2 + 1))), (0, (w32 (x3 - 0)))] ((mk E c s (hh (up (up (up (up g 53 (Int.toNat x1) ((g 50 (Int.toNat x2)))) 54 (Int.toNat x1) ((if (g 54 (Int.toNat x1)) < (g 50 (Int.toNat x2)) then (g 50 (Int.toNat x2)) else (g 54 (Int.toNat x1))))) 52 (Int.toNat x1) ((w32 (((g 52 (Int.toNat x1))) + 1)))) 51 (Int.toNat x2) x1))))).bind fun r14 => if r14.1.1 = 4 then none else
            Ev prog clsT X d mc64 95 [(2, 48), (0, x1), (0, x2), (0, x3), (0, (g 53 (Int.toNat x1))), (0, (g 54 (Int.toNat x1))), (0, 1), (0, (g 50 (Int.toNat x2))), (0, (if (g 54 (Int.toNat x1)) < (g 50 (Int.toNat x2)) then (g 50 (Int.toNat x2)) else (g 54 (Int.toNat x1)))), (0, 0)] (pushR r14.1 []) r14.2)
          else none)
          else none)
          else none)
          else none)
          else none)
        else
          (some ((0, 0), ((mk E c s (hh g)))))))
      else none)
    else
      (if inb x2 10 = true then
        (if cmpI .eq 1 0 = true then
        (if cmpI .le ((w32 (((w32 (((g 50 (Int.toNat x2))) - ((g 50 (Int.toNat x2)))))) - ((w32 (((g 54 (Int.toNat x1))) - ((g 53 (Int.toNat x1))))))))) x3 = true then
          (if inb x1 4 = true then
            (if inb x1 4 = true then
            (if inb x1 4 = true then
            (if inb x1 4 = true then
            (if inb x2 10 = true then
            ((Call prog clsT X d 63 [(2, 48), (0, (w32 (x2 + 1))), (0, (w32 (x3 - ((w32 (((w32 (((g 50 (Int.toNat x2))) - ((g 50 (Int.toNat x2)))))) - ((w32 (((g 54 (Int.toNat x1))) - ((g 53 (Int.toNat x1))))))))))))] ((mk E c s (hh (up (up (up (up g 53 (Int.toNat x1) ((g 50 (Int.toNat x2)))) 54 (Int.toNat x1) ((g 50 (Int.toNat x2)))) 52 (Int.toNat x1) ((w32 (((g 52 (Int.toNat x1))) + 1)))) 51 (Int.toNat x2) x1))))).bind fun r15 => if r15.1.1 = 4 then none else
            Ev prog clsT X d mc64 95 [(2, 48), (0, x1), (0, x2), (0, x3), (0, (g 53 (Int.toNat x1))), (0, (g 54 (Int.toNat x1))), (0, 1), (0, (g 50 (Int.toNat x2))), (0, (g 50 (Int.toNat x2))), (0, (w32 (((w32 (((g 50 (Int.toNat x2))) - ((g 50 (Int.toNat x2)))))) - ((w32 (((g 54 (Int.toNat x1))) - ((g 53 (Int.toNat x1)))))))))] (pushR r15.1 []) r15.2)
          else none)
          else none)
          else none)
          else none)
          else none)
        else
          (some ((0, 0), ((mk E c s (hh g))))))
      else
        (if cmpI .le 0 x3 = true then
          (if inb x1 4 = true then
            (if inb x1 4 = true then
            (if inb x1 4 = true then
            (if inb x1 4 = true then
            (if inb x2 10 = true then
            ((Call prog clsT X d 63 [(2, 48), (0, (w32 (x2 + 1))), (0, (w32 (x3 - 0)))] ((mk E c s (hh (up (up (up (up g 53 (Int.toNat x1) ((g 50 (Int.toNat x2)))) 54 (Int.toNat x1) ((g 50 (Int.toNat x2)))) 52 (Int.toNat x1) ((w32 (((g 52 (Int.toNat x1))) + 1)))) 51 (Int.toNat x2) x1))))).bind fun r16 => if r16.1.1 = 4 then none else
            Ev prog clsT X d mc64 95 [(2, 48), (0, x1), (0, x2), (0, x3), (0, (g 53 (Int.toNat x1))), (0, (g 54 (Int.toNat x1))), (0, 1), (0, (g 50 (Int.toNat x2))), (0, (g 50 (Int.toNat x2))), (0, 0)] (pushR r16.1 []) r16.2)
          else none)
          else none)
          else none)
          else none)
          else none)
        else
          (some ((0, 0), ((mk E c s (hh g)))))))
      else none))
    else none)))
else none)
else none)
else none) :=
  (evk_at X [0, 95] 81 (rfl : _ = (if inb x1 4 = true then
  (if inb x1 4 = true then
  (if inb x1 4 = true then
  (if cmpI .ne ((g 52 (Int.toNat x1))) 0 = true then
  (if cmpI .eq 0 0 = true then
    (if inb x2 10 = true then
      (if cmpI .eq 0 0 = true then
      (if inb x2 10 = true then
        (if cmpI .eq 0 0 = true then
        (if cmpI .le ((w32 (((w32 (((if (g 54 (Int.toNat x1)) < (g 50 (Int.toNat x2)) then (g 50 (Int.toNat x2)) else (g 54 (Int.toNat x1)))) - ((if (g 50 (Int.toNat x2)) < (g 53 (Int.toNat x1)) then (g 50 (Int.toNat x2)) else (g 53 (Int.toNat x1))))))) - ((w32 (((g 54 (Int.toNat x1))) - ((g 53 (Int.toNat x1))))))))) x3 = true then
          (if inb x1 4 = true then
            (if inb x1 4 = true then
            (if inb x1 4 = true then
            (if inb x1 4 = true then
            (if inb x2 10 = true then
            ((Call prog clsT X d 63 [(2, 48), (0, (w32 (x2 + 1))), (0, (w32 (x3 - ((w32 (((w32 (((if (g 54 (Int.toNat x1)) < (g 50 (Int.toNat x2)) then (g 50 (Int.toNat x2)) else (g 54 (Int.toNat x1)))) - ((if (g 50 (Int.toNat x2)) < (g 53 (Int.toNat x1)) then (g 50 (Int.toNat x2)) else (g 53 (Int.toNat x1))))))) - ((w32 (((g 54 (Int.toNat x1))) - ((g 53 (Int.toNat x1))))))))))))] ((mk E c s (PU (PU (PU (PU (hh g) 53 (Int.toNat x1) ((if (g 50 (Int.toNat x2)) < (g 53 (Int.toNat x1)) then (g 50 (Int.toNat x2)) else (g 53 (Int.toNat x1))))) 54 (Int.toNat x1) ((if (g 54 (Int.toNat x1)) < (g 50 (Int.toNat x2)) then (g 50 (Int.toNat x2)) else (g 54 (Int.toNat x1))))) 52 (Int.toNat x1) ((w32 (((g 52 (Int.toNat x1))) + 1)))) 51 (Int.toNat x2) x1)))).bind fun r1 => if r1.1.1 = 4 then none else
            Ev prog clsT X d mc64 95 [(2, 48), (0, x1), (0, x2), (0, x3), (0, (g 53 (Int.toNat x1))), (0, (g 54 (Int.toNat x1))), (0, 0), (0, (if (g 50 (Int.toNat x2)) < (g 53 (Int.toNat x1)) then (g 50 (Int.toNat x2)) else (g 53 (Int.toNat x1)))), (0, (if (g 54 (Int.toNat x1)) < (g 50 (Int.toNat x2)) then (g 50 (Int.toNat x2)) else (g 54 (Int.toNat x1)))), (0, (w32 (((w32 (((if (g 54 (Int.toNat x1)) < (g 50 (Int.toNat x2)) then (g 50 (Int.toNat x2)) else (g 54 (Int.toNat x1)))) - ((if (g 50 (Int.toNat x2)) < (g 53 (Int.toNat x1)) then (g 50 (Int.toNat x2)) else (g 53 (Int.toNat x1))))))) - ((w32 (((g 54 (Int.toNat x1))) - ((g 53 (Int.toNat x1)))))))))] (pushR r1.1 []) r1.2)
          else none)
          else none)
          else none)
          else none)
          else none)
        else
          (some ((0, 0), ((mk E c s (hh g))))))
      else
        (if cmpI .le 0 x3 = true then
          (if inb x1 4 = true then
            (if inb x1 4 = true then
            (if inb x1 4 = true then
            (if inb x1 4 = true then
            (if inb x2 10 = true then
            ((Call prog clsT X d 63 [(2, 48), (0, (w32 (x2 + 1))), (0, (w32 (x3 - 0)))] ((mk E c s (PU (PU (PU (PU (hh g) 53 (Int.toNat x1) ((if (g 50 (Int.toNat x2)) < (g 53 (Int.toNat x1)) then (g 50 (Int.toNat x2)) else (g 53 (Int.toNat x1))))) 54 (Int.toNat x1) ((if (g 54 (Int.toNat x1)) < (g 50 (Int.toNat x2)) then (g 50 (Int.toNat x2)) else (g 54 (Int.toNat x1))))) 52 (Int.toNat x1) ((w32 (((g 52 (Int.toNat x1))) + 1)))) 51 (Int.toNat x2) x1)))).bind fun r2 => if r2.1.1 = 4 then none else
            Ev prog clsT X d mc64 95 [(2, 48), (0, x1), (0, x2), (0, x3), (0, (g 53 (Int.toNat x1))), (0, (g 54 (Int.toNat x1))), (0, 0), (0, (if (g 50 (Int.toNat x2)) < (g 53 (Int.toNat x1)) then (g 50 (Int.toNat x2)) else (g 53 (Int.toNat x1)))), (0, (if (g 54 (Int.toNat x1)) < (g 50 (Int.toNat x2)) then (g 50 (Int.toNat x2)) else (g 54 (Int.toNat x1)))), (0, 0)] (pushR r2.1 []) r2.2)
          else none)
          else none)
          else none)
          else none)
          else none)
        else
          (some ((0, 0), ((mk E c s (hh g)))))))
      else none)
    else
      (if inb x2 10 = true then
        (if cmpI .eq 0 0 = true then
        (if cmpI .le ((w32 (((w32 (((g 50 (Int.toNat x2))) - ((if (g 50 (Int.toNat x2)) < (g 53 (Int.toNat x1)) then (g 50 (Int.toNat x2)) else (g 53 (Int.toNat x1))))))) - ((w32 (((g 54 (Int.toNat x1))) - ((g 53 (Int.toNat x1))))))))) x3 = true then
          (if inb x1 4 = true then
            (if inb x1 4 = true then
            (if inb x1 4 = true then
            (if inb x1 4 = true then
            (if inb x2 10 = true then
            ((Call prog clsT X d 63 [(2, 48), (0, (w32 (x2 + 1))), (0, (w32 (x3 - ((w32 (((w32 (((g 50 (Int.toNat x2))) - ((if (g 50 (Int.toNat x2)) < (g 53 (Int.toNat x1)) then (g 50 (Int.toNat x2)) else (g 53 (Int.toNat x1))))))) - ((w32 (((g 54 (Int.toNat x1))) - ((g 53 (Int.toNat x1))))))))))))] ((mk E c s (PU (PU (PU (PU (hh g) 53 (Int.toNat x1) ((if (g 50 (Int.toNat x2)) < (g 53 (Int.toNat x1)) then (g 50 (Int.toNat x2)) else (g 53 (Int.toNat x1))))) 54 (Int.toNat x1) ((g 50 (Int.toNat x2)))) 52 (Int.toNat x1) ((w32 (((g 52 (Int.toNat x1))) + 1)))) 51 (Int.toNat x2) x1)))).bind fun r3 => if r3.1.1 = 4 then none else
            Ev prog clsT X d mc64 95 [(2, 48), (0, x1), (0, x2), (0, x3), (0, (g 53 (Int.toNat x1))), (0, (g 54 (Int.toNat x1))), (0, 0), (0, (if (g 50 (Int.toNat x2)) < (g 53 (Int.toNat x1)) then (g 50 (Int.toNat x2)) else (g 53 (Int.toNat x1)))), (0, (g 50 (Int.toNat x2))), (0, (w32 (((w32 (((g 50 (Int.toNat x2))) - ((if (g 50 (Int.toNat x2)) < (g 53 (Int.toNat x1)) then (g 50 (Int.toNat x2)) else (g 53 (Int.toNat x1))))))) - ((w32 (((g 54 (Int.toNat x1))) - ((g 53 (Int.toNat x1)))))))))] (pushR r3.1 []) r3.2)
          else none)
          else none)
          else none)
          else none)
          else none)
        else
          (some ((0, 0), ((mk E c s (hh g))))))
      else
        (if cmpI .le 0 x3 = true then
          (if inb x1 4 = true then
            (if inb x1 4 = true then
            (if inb x1 4 = true then
            (if inb x1 4 = true then
            (if inb x2 10 = true then
            ((Call prog clsT X d 63 [(2, 48), (0, (w32 (x2 + 1))), (0, (w32 (x3 - 0)))] ((mk E c s (PU (PU (PU (PU (hh g) 53 (Int.toNat x1) ((if (g 50 (Int.toNat x2)) < (g 53 (Int.toNat x1)) then (g 50 (Int.toNat x2)) else (g 53 (Int.toNat x1))))) 54 (Int.toNat x1) ((g 50 (Int.toNat x2)))) 52 (Int.toNat x1) ((w32 (((g 52 (Int.toNat x1))) + 1)))) 51 (Int.toNat x2) x1)))).bind fun r4 => if r4.1.1 = 4 then none else
            Ev prog clsT X d mc64 95 [(2, 48), (0, x1), (0, x2), (0, x3), (0, (g 53 (Int.toNat x1))), (0, (g 54 (Int.toNat x1))), (0, 0), (0, (if (g 50 (Int.toNat x2)) < (g 53 (Int.toNat x1)) then (g 50 (Int.toNat x2)) else (g 53 (Int.toNat x1)))), (0, (g 50 (Int.toNat x2))), (0, 0)] (pushR r4.1 []) r4.2)
          else none)
          else none)
          else none)
          else none)
          else none)
        else
          (some ((0, 0), ((mk E c s (hh g)))))))
      else none))
    else none)
  else
    (if inb x2 10 = true then
      (if cmpI .eq 0 0 = true then
      (if inb x2 10 = true then
        (if cmpI .eq 0 0 = true then
        (if cmpI .le ((w32 (((w32 (((if (g 54 (Int.toNat x1)) < (g 50 (Int.toNat x2)) then (g 50 (Int.toNat x2)) else (g 54 (Int.toNat x1)))) - ((g 50 (Int.toNat x2)))))) - ((w32 (((g 54 (Int.toNat x1))) - ((g 53 (Int.toNat x1))))))))) x3 = true then
          (if inb x1 4 = true then
            (if inb x1 4 = true then
            (if inb x1 4 = true then
            (if inb x1 4 = true then
            (if inb x2 10 = true then
            ((Call prog clsT X d 63 [(2, 48), (0, (w32 (x2 + 1))), (0, (w32 (x3 - ((w32 (((w32 (((if (g 54 (Int.toNat x1)) < (g 50 (Int.toNat x2)) then (g 50 (Int.toNat x2)) else (g 54 (Int.toNat x1)))) - ((g 50 (Int.toNat x2)))))) - ((w32 (((g 54 (Int.toNat x1))) - ((g 53 (Int.toNat x1))))))))))))] ((mk E c s (PU (PU (PU (PU (hh g) 53 (Int.toNat x1) ((g 50 (Int.toNat x2)))) 54 (Int.toNat x1) ((if (g 54 (Int.toNat x1)) < (g 50 (Int.toNat x2)) then (g 50 (Int.toNat x2)) else (g 54 (Int.toNat x1))))) 52 (Int.toNat x1) ((w32 (((g 52 (Int.toNat x1))) + 1)))) 51 (Int.toNat x2) x1)))).bind fun r5 => if r5.1.1 = 4 then none else
            Ev prog clsT X d mc64 95 [(2, 48), (0, x1), (0, x2), (0, x3), (0, (g 53 (Int.toNat x1))), (0, (g 54 (Int.toNat x1))), (0, 0), (0, (g 50 (Int.toNat x2))), (0, (if (g 54 (Int.toNat x1)) < (g 50 (Int.toNat x2)) then (g 50 (Int.toNat x2)) else (g 54 (Int.toNat x1)))), (0, (w32 (((w32 (((if (g 54 (Int.toNat x1)) < (g 50 (Int.toNat x2)) then (g 50 (Int.toNat x2)) else (g 54 (Int.toNat x1)))) - ((g 50 (Int.toNat x2)))))) - ((w32 (((g 54 (Int.toNat x1))) - ((g 53 (Int.toNat x1)))))))))] (pushR r5.1 []) r5.2)
          else none)
          else none)
          else none)
          else none)
          else none)
        else
          (some ((0, 0), ((mk E c s (hh g))))))
      else
        (if cmpI .le 0 x3 = true then
          (if inb x1 4 = true then
            (if inb x1 4 = true then
            (if inb x1 4 = true then
            (if inb x1 4 = true then
            (if inb x2 10 = true then
            ((Call prog clsT X d 63 [(2, 48), (0, (w32 (x2 + 1))), (0, (w32 (x3 - 0)))] ((mk E c s (PU (PU (PU (PU (hh g) 53 (Int.toNat x1) ((g 50 (Int.toNat x2)))) 54 (Int.toNat x1) ((if (g 54 (Int.toNat x1)) < (g 50 (Int.toNat x2)) then (g 50 (Int.toNat x2)) else (g 54 (Int.toNat x1))))) 52 (Int.toNat x1) ((w32 (((g 52 (Int.toNat x1))) + 1)))) 51 (Int.toNat x2) x1)))).bind fun r6 => if r6.1.1 = 4 then none else
            Ev prog clsT X d mc64 95 [(2, 48), (0, x1), (0, x2), (0, x3), (0, (g 53 (Int.toNat x1))), (0, (g 54 (Int.toNat x1))), (0, 0), (0, (g 50 (Int.toNat x2))), (0, (if (g 54 (Int.toNat x1)) < (g 50 (Int.toNat x2)) then (g 50 (Int.toNat x2)) else (g 54 (Int.toNat x1)))), (0, 0)] (pushR r6.1 []) r6.2)
          else none)
          else none)
          else none)
          else none)
          else none)
        else
          (some ((0, 0), ((mk E c s (hh g)))))))
      else none)
    else
      (if inb x2 10 = true then
        (if cmpI .eq 0 0 = true then
        (if cmpI .le ((w32 (((w32 (((g 50 (Int.toNat x2))) - ((g 50 (Int.toNat x2)))))) - ((w32 (((g 54 (Int.toNat x1))) - ((g 53 (Int.toNat x1))))))))) x3 = true then
          (if inb x1 4 = true then
            (if inb x1 4 = true then
            (if inb x1 4 = true then
            (if inb x1 4 = true then
            (if inb x2 10 = true then
            ((Call prog clsT X d 63 [(2, 48), (0, (w32 (x2 + 1))), (0, (w32 (x3 - ((w32 (((w32 (((g 50 (Int.toNat x2))) - ((g 50 (Int.toNat x2)))))) - ((w32 (((g 54 (Int.toNat x1))) - ((g 53 (Int.toNat x1))))))))))))] ((mk E c s (PU (PU (PU (PU (hh g) 53 (Int.toNat x1) ((g 50 (Int.toNat x2)))) 54 (Int.toNat x1) ((g 50 (Int.toNat x2)))) 52 (Int.toNat x1) ((w32 (((g 52 (Int.toNat x1))) + 1)))) 51 (Int.toNat x2) x1)))).bind fun r7 => if r7.1.1 = 4 then none else
            Ev prog clsT X d mc64 95 [(2, 48), (0, x1), (0, x2), (0, x3), (0, (g 53 (Int.toNat x1))), (0, (g 54 (Int.toNat x1))), (0, 0), (0, (g 50 (Int.toNat x2))), (0, (g 50 (Int.toNat x2))), (0, (w32 (((w32 (((g 50 (Int.toNat x2))) - ((g 50 (Int.toNat x2)))))) - ((w32 (((g 54 (Int.toNat x1))) - ((g 53 (Int.toNat x1)))))))))] (pushR r7.1 []) r7.2)
          else none)
          else none)
          else none)
          else none)
          else none)
        else
          (some ((0, 0), ((mk E c s (hh g))))))
      else
        (if cmpI .le 0 x3 = true then
          (if inb x1 4 = true then
            (if inb x1 4 = true then
            (if inb x1 4 = true then
            (if inb x1 4 = true then
            (if inb x2 10 = true then
            ((Call prog clsT X d 63 [(2, 48), (0, (w32 (x2 + 1))), (0, (w32 (x3 - 0)))] ((mk E c s (PU (PU (PU (PU (hh g) 53 (Int.toNat x1) ((g 50 (Int.toNat x2)))) 54 (Int.toNat x1) ((g 50 (Int.toNat x2)))) 52 (Int.toNat x1) ((w32 (((g 52 (Int.toNat x1))) + 1)))) 51 (Int.toNat x2) x1)))).bind fun r8 => if r8.1.1 = 4 then none else
            Ev prog clsT X d mc64 95 [(2, 48), (0, x1), (0, x2), (0, x3), (0, (g 53 (Int.toNat x1))), (0, (g 54 (Int.toNat x1))), (0, 0), (0, (g 50 (Int.toNat x2))), (0, (g 50 (Int.toNat x2))), (0, 0)] (pushR r8.1 []) r8.2)
          else none)
          else none)
          else none)
          else none)
          else none)
        else
          (some ((0, 0), ((mk E c s (hh g)))))))
      else none))
    else none))
else
  (if cmpI .eq 1 0 = true then
    (if inb x2 10 = true then
      (if cmpI .eq 1 0 = true then
      (if inb x2 10 = true then
        (if cmpI .eq 1 0 = true then
        (if cmpI .le ((w32 (((w32 (((if (g 54 (Int.toNat x1)) < (g 50 (Int.toNat x2)) then (g 50 (Int.toNat x2)) else (g 54 (Int.toNat x1)))) - ((if (g 50 (Int.toNat x2)) < (g 53 (Int.toNat x1)) then (g 50 (Int.toNat x2)) else (g 53 (Int.toNat x1))))))) - ((w32 (((g 54 (Int.toNat x1))) - ((g 53 (Int.toNat x1))))))))) x3 = true then
          (if inb x1 4 = true then
            (if inb x1 4 = true then
            (if inb x1 4 = true then
            (if inb x1 4 = true then
            (if inb x2 10 = true then
            ((Call prog clsT X d 63 [(2, 48), (0, (w32 (x2 + 1))), (0, (w32 (x3 - ((w32 (((w32 (((if (g 54 (Int.toNat x1)) < (g 50 (Int.toNat x2)) then (g 50 (Int.toNat x2)) else (g 54 (Int.toNat x1)))) - ((if (g 50 (Int.toNat x2)) < (g 53 (Int.toNat x1)) then (g 50 (Int.toNat x2)) else (g 53 (Int.toNat x1))))))) - ((w32 (((g 54 (Int.toNat x1))) - ((g 53 (Int.toNat x1))))))))))))] ((mk E c s (PU (PU (PU (PU (hh g) 53 (Int.toNat x1) ((if (g 50 (Int.toNat x2)) < (g 53 (Int.toNat x1)) then (g 50 (Int.toNat x2)) else (g 53 (Int.toNat x1))))) 54 (Int.toNat x1) ((if (g 54 (Int.toNat x1)) < (g 50 (Int.toNat x2)) then (g 50 (Int.toNat x2)) else (g 54 (Int.toNat x1))))) 52 (Int.toNat x1) ((w32 (((g 52 (Int.toNat x1))) + 1)))) 51 (Int.toNat x2) x1)))).bind fun r9 => if r9.1.1 = 4 then none else
            Ev prog clsT X d mc64 95 [(2, 48), (0, x1), (0, x2), (0, x3), (0, (g 53 (Int.toNat x1))), (0, (g 54 (Int.toNat x1))), (0, 1), (0, (if (g 50 (Int.toNat x2)) < (g 53 (Int.toNat x1)) then (g 50 (Int.toNat x2)) else (g 53 (Int.toNat x1)))), (0, (if (g 54 (Int.toNat x1)) < (g 50 (Int.toNat x2)) then (g 50 (Int.toNat x2)) else (g 54 (Int.toNat x1)))), (0, (w32 (((w32 (((if (g 54 (Int.toNat x1)) < (g 50 (Int.toNat x2)) then (g 50 (Int.toNat x2)) else (g 54 (Int.toNat x1)))) - ((if (g 50 (Int.toNat x2)) < (g 53 (Int.toNat x1)) then (g 50 (Int.toNat x2)) else (g 53 (Int.toNat x1))))))) - ((w32 (((g 54 (Int.toNat x1))) - ((g 53 (Int.toNat x1)))))))))] (pushR r9.1 []) r9.2)
          else none)
          else none)
          else none)
          else none)
          else none)
        else
          (some ((0, 0), ((mk E c s (hh g))))))
      else
        (if cmpI .le 0 x3 = true then
          (if inb x1 4 = true then
            (if inb x1 4 = true then
            (if inb x1 4 = true then
            (if inb x1 4 = true then
            (if inb x2 10 = true then
            ((Call prog clsT X d 63 [(2, 48), (0, (w32 (x2 + 1))), (0, (w32 (x3 - 0)))] ((mk E c s (PU (PU (PU (PU (hh g) 53 (Int.toNat x1) ((if (g 50 (Int.toNat x2)) < (g 53 (Int.toNat x1)) then (g 50 (Int.toNat x2)) else (g 53 (Int.toNat x1))))) 54 (Int.toNat x1) ((if (g 54 (Int.toNat x1)) < (g 50 (Int.toNat x2)) then (g 50 (Int.toNat x2)) else (g 54 (Int.toNat x1))))) 52 (Int.toNat x1) ((w32 (((g 52 (Int.toNat x1))) + 1)))) 51 (Int.toNat x2) x1)))).bind fun r10 => if r10.1.1 = 4 then none else
            Ev prog clsT X d mc64 95 [(2, 48), (0, x1), (0, x2), (0, x3), (0, (g 53 (Int.toNat x1))), (0, (g 54 (Int.toNat x1))), (0, 1), (0, (if (g 50 (Int.toNat x2)) < (g 53 (Int.toNat x1)) then (g 50 (Int.toNat x2)) else (g 53 (Int.toNat x1)))), (0, (if (g 54 (Int.toNat x1)) < (g 50 (Int.toNat x2)) then (g 50 (Int.toNat x2)) else (g 54 (Int.toNat x1)))), (0, 0)] (pushR r10.1 []) r10.2)
          else none)
          else none)
          else none)
          else none)
          else none)
        else
          (some ((0, 0), ((mk E c s (hh g)))))))
      else none)
    else
      (if inb x2 10 = true then
        (if cmpI .eq 1 0 = true then
        (if cmpI .le ((w32 (((w32 (((g 50 (Int.toNat x2))) - ((if (g 50 (Int.toNat x2)) < (g 53 (Int.toNat x1)) then (g 50 (Int.toNat x2)) else (g 53 (Int.toNat x1))))))) - ((w32 (((g 54 (Int.toNat x1))) - ((g 53 (Int.toNat x1))))))))) x3 = true then
          (if inb x1 4 = true then
            (if inb x1 4 = true then
            (if inb x1 4 = true then
            (if inb x1 4 = true then
            (if inb x2 10 = true then
            ((Call prog clsT X d 63 [(2, 48), (0, (w32 (x2 + 1))), (0, (w32 (x3 - ((w32 (((w32 (((g 50 (Int.toNat x2))) - ((if (g 50 (Int.toNat x2)) < (g 53 (Int.toNat x1)) then (g 50 (Int.toNat x2)) else (g 53 (Int.toNat x1))))))) - ((w32 (((g 54 (Int.toNat x1))) - ((g 53 (Int.toNat x1))))))))))))] ((mk E c s (PU (PU (PU (PU (hh g) 53 (Int.toNat x1) ((if (g 50 (Int.toNat x2)) < (g 53 (Int.toNat x1)) then (g 50 (Int.toNat x2)) else (g 53 (Int.toNat x1))))) 54 (Int.toNat x1) ((g 50 (Int.toNat x2)))) 52 (Int.toNat x1) ((w32 (((g 52 (Int.toNat x1))) + 1)))) 51 (Int.toNat x2) x1)))).bind fun r11 => if r11.1.1 = 4 then none else
            Ev prog clsT X d mc64 95 [(2, 48), (0, x1), (0, x2), (0, x3), (0, (g 53 (Int.toNat x1))), (0, (g 54 (Int.toNat x1))), (0, 1), (0, (if (g 50 (Int.toNat x2)) < (g 53 (Int.toNat x1)) then (g 50 (Int.toNat x2)) else (g 53 (Int.toNat x1)))), (0, (g 50 (Int.toNat x2))), (0, (w32 (((w32 (((g 50 (Int.toNat x2))) - ((if (g 50 (Int.toNat x2)) < (g 53 (Int.toNat x1)) then (g 50 (Int.toNat x2)) else (g 53 (Int.toNat x1))))))) - ((w32 (((g 54 (Int.toNat x1))) - ((g 53 (Int.toNat x1)))))))))] (pushR r11.1 []) r11.2)
          else none)
          else none)
          else none)
          else none)
          else none)
        else
          (some ((0, 0), ((mk E c s (hh g))))))
      else
        (if cmpI .le 0 x3 = true then
          (if inb x1 4 = true then
            (if inb x1 4 = true then
            (if inb x1 4 = true then
            (if inb x1 4 = true then
            (if inb x2 10 = true then
            ((Call prog clsT X d 63 [(2, 48), (0, (w32 (x2 + 1))), (0, (w32 (x3 - 0)))] ((mk E c s (PU (PU (PU (PU (hh g) 53 (Int.toNat x1) ((if (g 50 (Int.toNat x2)) < (g 53 (Int.toNat x1)) then (g 50 (Int.toNat x2)) else (g 53 (Int.toNat x1))))) 54 (Int.toNat x1) ((g 50 (Int.toNat x2)))) 52 (Int.toNat x1) ((w32 (((g 52 (Int.toNat x1))) + 1)))) 51 (Int.toNat x2) x1)))).bind fun r12 => if r12.1.1 = 4 then none else
            Ev prog clsT X d mc64 95 [(2, 48), (0, x1), (0, x2), (0, x3), (0, (g 53 (Int.toNat x1))), (0, (g 54 (Int.toNat x1))), (0, 1), (0, (if (g 50 (Int.toNat x2)) < (g 53 (Int.toNat x1)) then (g 50 (Int.toNat x2)) else (g 53 (Int.toNat x1)))), (0, (g 50 (Int.toNat x2))), (0, 0)] (pushR r12.1 []) r12.2)
          else none)
          else none)
          else none)
          else none)
          else none)
        else
          (some ((0, 0), ((mk E c s (hh g)))))))
      else none))
    else none)
  else
    (if inb x2 10 = true then
      (if cmpI .eq 1 0 = true then
      (if inb x2 10 = true then
        (if cmpI .eq 1 0 = true then
        (if cmpI .le ((w32 (((w32 (((if (g 54 (Int.toNat x1)) < (g 50 (Int.toNat x2)) then (g 50 (Int.toNat x2)) else (g 54 (Int.toNat x1)))) - ((g 50 (Int.toNat x2)))))) - ((w32 (((g 54 (Int.toNat x1))) - ((g 53 (Int.toNat x1))))))))) x3 = true then
          (if inb x1 4 = true then
            (if inb x1 4 = true then
            (if inb x1 4 = true then
            (if inb x1 4 = true then
            (if inb x2 10 = true then
            ((Call prog clsT X d 63 [(2, 48), (0, (w32 (x2 + 1))), (0, (w32 (x3 - ((w32 (((w32 (((if (g 54 (Int.toNat x1)) < (g 50 (Int.toNat x2)) then (g 50 (Int.toNat x2)) else (g 54 (Int.toNat x1)))) - ((g 50 (Int.toNat x2)))))) - ((w32 (((g 54 (Int.toNat x1))) - ((g 53 (Int.toNat x1))))))))))))] ((mk E c s (PU (PU (PU (PU (hh g) 53 (Int.toNat x1) ((g 50 (Int.toNat x2)))) 54 (Int.toNat x1) ((if (g 54 (Int.toNat x1)) < (g 50 (Int.toNat x2)) then (g 50 (Int.toNat x2)) else (g 54 (Int.toNat x1))))) 52 (Int.toNat x1) ((w32 (((g 52 (Int.toNat x1))) + 1)))) 51 (Int.toNat x2) x1)))).bind fun r13 => if r13.1.1 = 4 then none else
            Ev prog clsT X d mc64 95 [(2, 48), (0, x1), (0, x2), (0, x3), (0, (g 53 (Int.toNat x1))), (0, (g 54 (Int.toNat x1))), (0, 1), (0, (g 50 (Int.toNat x2))), (0, (if (g 54 (Int.toNat x1)) < (g 50 (Int.toNat x2)) then (g 50 (Int.toNat x2)) else (g 54 (Int.toNat x1)))), (0, (w32 (((w32 (((if (g 54 (Int.toNat x1)) < (g 50 (Int.toNat x2)) then (g 50 (Int.toNat x2)) else (g 54 (Int.toNat x1)))) - ((g 50 (Int.toNat x2)))))) - ((w32 (((g 54 (Int.toNat x1))) - ((g 53 (Int.toNat x1)))))))))] (pushR r13.1 []) r13.2)
          else none)
          else none)
          else none)
          else none)
          else none)
        else
          (some ((0, 0), ((mk E c s (hh g))))))
      else
        (if cmpI .le 0 x3 = true then
          (if inb x1 4 = true then
            (if inb x1 4 = true then
            (if inb x1 4 = true then
            (if inb x1 4 = true then
            (if inb x2 10 = true then
            ((Call prog clsT X d 63 [(2, 48), (0, (w32 (x2 + 1))), (0, (w32 (x3 - 0)))] ((mk E c s (PU (PU (PU (PU (hh g) 53 (Int.toNat x1) ((g 50 (Int.toNat x2)))) 54 (Int.toNat x1) ((if (g 54 (Int.toNat x1)) < (g 50 (Int.toNat x2)) then (g 50 (Int.toNat x2)) else (g 54 (Int.toNat x1))))) 52 (Int.toNat x1) ((w32 (((g 52 (Int.toNat x1))) + 1)))) 51 (Int.toNat x2) x1)))).bind fun r14 => if r14.1.1 = 4 then none else
            Ev prog clsT X d mc64 95 [(2, 48), (0, x1), (0, x2), (0, x3), (0, (g 53 (Int.toNat x1))), (0, (g 54 (Int.toNat x1))), (0, 1), (0, (g 50 (Int.toNat x2))), (0, (if (g 54 (Int.toNat x1)) < (g 50 (Int.toNat x2)) then (g 50 (Int.toNat x2)) else (g 54 (Int.toNat x1)))), (0, 0)] (pushR r14.1 []) r14.2)
          else none)
          else none)
          else none)
          else none)
          else none)
        else
          (some ((0, 0), ((mk E c s (hh g)))))))
      else none)
    else
      (if inb x2 10 = true then
        (if cmpI .eq 1 0 = true then
        (if cmpI .le ((w32 (((w32 (((g 50 (Int.toNat x2))) - ((g 50 (Int.toNat x2)))))) - ((w32 (((g 54 (Int.toNat x1))) - ((g 53 (Int.toNat x1))))))))) x3 = true then
          (if inb x1 4 = true then
            (if inb x1 4 = true then
            (if inb x1 4 = true then
            (if inb x1 4 = true then
            (if inb x2 10 = true then
            ((Call prog clsT X d 63 [(2, 48), (0, (w32 (x2 + 1))), (0, (w32 (x3 - ((w32 (((w32 (((g 50 (Int.toNat x2))) - ((g 50 (Int.toNat x2)))))) - ((w32 (((g 54 (Int.toNat x1))) - ((g 53 (Int.toNat x1))))))))))))] ((mk E c s (PU (PU (PU (PU (hh g) 53 (Int.toNat x1) ((g 50 (Int.toNat x2)))) 54 (Int.toNat x1) ((g 50 (Int.toNat x2)))) 52 (Int.toNat x1) ((w32 (((g 52 (Int.toNat x1))) + 1)))) 51 (Int.toNat x2) x1)))).bind fun r15 => if r15.1.1 = 4 then none else
            Ev prog clsT X d mc64 95 [(2, 48), (0, x1), (0, x2), (0, x3), (0, (g 53 (Int.toNat x1))), (0, (g 54 (Int.toNat x1))), (0, 1), (0, (g 50 (Int.toNat x2))), (0, (g 50 (Int.toNat x2))), (0, (w32 (((w32 (((g 50 (Int.toNat x2))) - ((g 50 (Int.toNat x2)))))) - ((w32 (((g 54 (Int.toNat x1))) - ((g 53 (Int.toNat x1)))))))))] (pushR r15.1 []) r15.2)
          else none)
          else none)
          else none)
          else none)
          else none)
        else
          (some ((0, 0), ((mk E c s (hh g))))))
      else
        (if cmpI .le 0 x3 = true then
          (if inb x1 4 = true then
            (if inb x1 4 = true then
            (if inb x1 4 = true then
            (if inb x1 4 = true then
            (if inb x2 10 = true then
            ((Call prog clsT X d 63 [(2, 48), (0, (w32 (x2 + 1))), (0, (w32 (x3 - 0)))] ((mk E c s (PU (PU (PU (PU (hh g) 53 (Int.toNat x1) ((g 50 (Int.toNat x2)))) 54 (Int.toNat x1) ((g 50 (Int.toNat x2)))) 52 (Int.toNat x1) ((w32 (((g 52 (Int.toNat x1))) + 1)))) 51 (Int.toNat x2) x1)))).bind fun r16 => if r16.1.1 = 4 then none else
            Ev prog clsT X d mc64 95 [(2, 48), (0, x1), (0, x2), (0, x3), (0, (g 53 (Int.toNat x1))), (0, (g 54 (Int.toNat x1))), (0, 1), (0, (g 50 (Int.toNat x2))), (0, (g 50 (Int.toNat x2))), (0, 0)] (pushR r16.1 []) r16.2)
          else none)
          else none)
          else none)
          else none)
          else none)
        else
          (some ((0, 0), ((mk E c s (hh g)))))))
      else none))
    else none)))
else none)
else none)
else none))).trans (by simp only [hhP51, hhP52, hhP53, hhP54])
set_option maxRecDepth 100000 in
theorem rc64_ (d : Nat) (x1 x2 x3 : Int) : Call prog clsT X (d + 1) 64 [(2, 48), (0, x1), (0, x2), (0, x3)] (mk E c s (hh g)) =
  (if inb x1 4 = true then
  (if inb x1 4 = true then
  (if inb x1 4 = true then
  (if cmpI .ne ((g 52 (Int.toNat x1))) 0 = true then
  (if cmpI .eq 0 0 = true then
    (if inb x2 10 = true then
      (if cmpI .eq 0 0 = true then
      (if inb x2 10 = true then
        (if cmpI .eq 0 0 = true then
        (if cmpI .le ((w32 (((w32 (((if (g 54 (Int.toNat x1)) < (g 50 (Int.toNat x2)) then (g 50 (Int.toNat x2)) else (g 54 (Int.toNat x1)))) - ((if (g 50 (Int.toNat x2)) < (g 53 (Int.toNat x1)) then (g 50 (Int.toNat x2)) else (g 53 (Int.toNat x1))))))) - ((w32 (((g 54 (Int.toNat x1))) - ((g 53 (Int.toNat x1))))))))) x3 = true then
          (if inb x1 4 = true then
            (if inb x1 4 = true then
            (if inb x1 4 = true then
            (if inb x1 4 = true then
            (if inb x2 10 = true then
            ((Call prog clsT X d 63 [(2, 48), (0, (w32 (x2 + 1))), (0, (w32 (x3 - ((w32 (((w32 (((if (g 54 (Int.toNat x1)) < (g 50 (Int.toNat x2)) then (g 50 (Int.toNat x2)) else (g 54 (Int.toNat x1)))) - ((if (g 50 (Int.toNat x2)) < (g 53 (Int.toNat x1)) then (g 50 (Int.toNat x2)) else (g 53 (Int.toNat x1))))))) - ((w32 (((g 54 (Int.toNat x1))) - ((g 53 (Int.toNat x1))))))))))))] ((mk E c s (hh (up (up (up (up g 53 (Int.toNat x1) ((if (g 50 (Int.toNat x2)) < (g 53 (Int.toNat x1)) then (g 50 (Int.toNat x2)) else (g 53 (Int.toNat x1))))) 54 (Int.toNat x1) ((if (g 54 (Int.toNat x1)) < (g 50 (Int.toNat x2)) then (g 50 (Int.toNat x2)) else (g 54 (Int.toNat x1))))) 52 (Int.toNat x1) ((w32 (((g 52 (Int.toNat x1))) + 1)))) 51 (Int.toNat x2) x1))))).bind fun r1 => if r1.1.1 = 4 then none else
            Ev prog clsT X d mc64 95 [(2, 48), (0, x1), (0, x2), (0, x3), (0, (g 53 (Int.toNat x1))), (0, (g 54 (Int.toNat x1))), (0, 0), (0, (if (g 50 (Int.toNat x2)) < (g 53 (Int.toNat x1)) then (g 50 (Int.toNat x2)) else (g 53 (Int.toNat x1)))), (0, (if (g 54 (Int.toNat x1)) < (g 50 (Int.toNat x2)) then (g 50 (Int.toNat x2)) else (g 54 (Int.toNat x1)))), (0, (w32 (((w32 (((if (g 54 (Int.toNat x1)) < (g 50 (Int.toNat x2)) then (g 50 (Int.toNat x2)) else (g 54 (Int.toNat x1)))) - ((if (g 50 (Int.toNat x2)) < (g 53 (Int.toNat x1)) then (g 50 (Int.toNat x2)) else (g 53 (Int.toNat x1))))))) - ((w32 (((g 54 (Int.toNat x1))) - ((g 53 (Int.toNat x1)))))))))] (pushR r1.1 []) r1.2)
          else none)
          else none)
          else none)
          else none)
          else none)
        else
          (some ((0, 0), ((mk E c s (hh g))))))
      else
        (if cmpI .le 0 x3 = true then
          (if inb x1 4 = true then
            (if inb x1 4 = true then
            (if inb x1 4 = true then
            (if inb x1 4 = true then
            (if inb x2 10 = true then
            ((Call prog clsT X d 63 [(2, 48), (0, (w32 (x2 + 1))), (0, (w32 (x3 - 0)))] ((mk E c s (hh (up (up (up (up g 53 (Int.toNat x1) ((if (g 50 (Int.toNat x2)) < (g 53 (Int.toNat x1)) then (g 50 (Int.toNat x2)) else (g 53 (Int.toNat x1))))) 54 (Int.toNat x1) ((if (g 54 (Int.toNat x1)) < (g 50 (Int.toNat x2)) then (g 50 (Int.toNat x2)) else (g 54 (Int.toNat x1))))) 52 (Int.toNat x1) ((w32 (((g 52 (Int.toNat x1))) + 1)))) 51 (Int.toNat x2) x1))))).bind fun r2 => if r2.1.1 = 4 then none else
            Ev prog clsT X d mc64 95 [(2, 48), (0, x1), (0, x2), (0, x3), (0, (g 53 (Int.toNat x1))), (0, (g 54 (Int.toNat x1))), (0, 0), (0, (if (g 50 (Int.toNat x2)) < (g 53 (Int.toNat x1)) then (g 50 (Int.toNat x2)) else (g 53 (Int.toNat x1)))), (0, (if (g 54 (Int.toNat x1)) < (g 50 (Int.toNat x2)) then (g 50 (Int.toNat x2)) else (g 54 (Int.toNat x1)))), (0, 0)] (pushR r2.1 []) r2.2)
          else none)
          else none)
          else none)
          else none)
          else none)
        else
          (some ((0, 0), ((mk E c s (hh g)))))))
      else none)
    else
      (if inb x2 10 = true then
        (if cmpI .eq 0 0 = true then
        (if cmpI .le ((w32 (((w32 (((g 50 (Int.toNat x2))) - ((if (g 50 (Int.toNat x2)) < (g 53 (Int.toNat x1)) then (g 50 (Int.toNat x2)) else (g 53 (Int.toNat x1))))))) - ((w32 (((g 54 (Int.toNat x1))) - ((g 53 (Int.toNat x1))))))))) x3 = true then
          (if inb x1 4 = true then
            (if inb x1 4 = true then
            (if inb x1 4 = true then
            (if inb x1 4 = true then
            (if inb x2 10 = true then
            ((Call prog clsT X d 63 [(2, 48), (0, (w32 (x2 + 1))), (0, (w32 (x3 - ((w32 (((w32 (((g 50 (Int.toNat x2))) - ((if (g 50 (Int.toNat x2)) < (g 53 (Int.toNat x1)) then (g 50 (Int.toNat x2)) else (g 53 (Int.toNat x1))))))) - ((w32 (((g 54 (Int.toNat x1))) - ((g 53 (Int.toNat x1))))))))))))] ((mk E c s (hh (up (up (up (up g 53 (Int.toNat x1) ((if (g 50 (Int.toNat x2)) < (g 53 (Int.toNat x1)) then (g 50 (Int.toNat x2)) else (g 53 (Int.toNat x1))))) 54 (Int.toNat x1) ((g 50 (Int.toNat x2)))) 52 (Int.toNat x1) ((w32 (((g 52 (Int.toNat x1))) + 1)))) 51 (Int.toNat x2) x1))))).bind fun r3 => if r3.1.1 = 4 then none else
            Ev prog clsT X d mc64 95 [(2, 48), (0, x1), (0, x2), (0, x3), (0, (g 53 (Int.toNat x1))), (0, (g 54 (Int.toNat x1))), (0, 0), (0, (if (g 50 (Int.toNat x2)) < (g 53 (Int.toNat x1)) then (g 50 (Int.toNat x2)) else (g 53 (Int.toNat x1)))), (0, (g 50 (Int.toNat x2))), (0, (w32 (((w32 (((g 50 (Int.toNat x2))) - ((if (g 50 (Int.toNat x2)) < (g 53 (Int.toNat x1)) then (g 50 (Int.toNat x2)) else (g 53 (Int.toNat x1))))))) - ((w32 (((g 54 (Int.toNat x1))) - ((g 53 (Int.toNat x1)))))))))] (pushR r3.1 []) r3.2)
          else none)
          else none)
          else none)
          else none)
          else none)
        else
          (some ((0, 0), ((mk E c s (hh g))))))
      else
        (if cmpI .le 0 x3 = true then
          (if inb x1 4 = true then
            (if inb x1 4 = true then
            (if inb x1 4 = true then
            (if inb x1 4 = true then
            (if inb x2 10 = true then
            ((Call prog clsT X d 63 [(2, 48), (0, (w32 (x2 + 1))), (0, (w32 (x3 - 0)))] ((mk E c s (hh (up (up (up (up g 53 (Int.toNat x1) ((if (g 50 (Int.toNat x2)) < (g 53 (Int.toNat x1)) then (g 50 (Int.toNat x2)) else (g 53 (Int.toNat x1))))) 54 (Int.toNat x1) ((g 50 (Int.toNat x2)))) 52 (Int.toNat x1) ((w32 (((g 52 (Int.toNat x1))) + 1)))) 51 (Int.toNat x2) x1))))).bind fun r4 => if r4.1.1 = 4 then none else
            Ev prog clsT X d mc64 95 [(2, 48), (0, x1), (0, x2), (0, x3), (0, (g 53 (Int.toNat x1))), (0, (g 54 (Int.toNat x1))), (0, 0), (0, (if (g 50 (Int.toNat x2)) < (g 53 (Int.toNat x1)) then (g 50 (Int.toNat x2)) else (g 53 (Int.toNat x1)))), (0, (g 50 (Int.toNat x2))), (0, 0)] (pushR r4.1 []) r4.2)
          else none)
          else none)
          else none)
          else none)
          else none)
        else
          (some ((0, 0), ((mk E c s (hh g)))))))
      else none))
    else none)
  else
    (if inb x2 10 = true then
      (if cmpI .eq 0 0 = true then
      (if inb x2 10 = true then
        (if cmpI .eq 0 0 = true then
        (if cmpI .le ((w32 (((w32 (((if (g 54 (Int.toNat x1)) < (g 50 (Int.toNat x2)) then (g 50 (Int.toNat x2)) else (g 54 (Int.toNat x1)))) - ((g 50 (Int.toNat x2)))))) - ((w32 (((g 54 (Int.toNat x1))) - ((g 53 (Int.toNat x1))))))))) x3 = true then
          (if inb x1 4 = true then
            (if inb x1 4 = true then
            (if inb x1 4 = true then
            (if inb x1 4 = true then
            (if inb x2 10 = true then
            ((Call prog clsT X d 63 [(2, 48), (0, (w32 (x2 + 1))), (0, (w32 (x3 - ((w32 (((w32 (((if (g 54 (Int.toNat x1)) < (g 50 (Int.toNat x2)) then (g 50 (Int.toNat x2)) else (g 54 (Int.toNat x1)))) - ((g 50 (Int.toNat x2)))))) - ((w32 (((g 54 (Int.toNat x1))) - ((g 53 (Int.toNat x1))))))))))))] ((mk E c s (hh (up (up (up (up g 53 (Int.toNat x1) ((g 50 (Int.toNat x2)))) 54 (Int.toNat x1) ((if (g 54 (Int.toNat x1)) < (g 50 (Int.toNat x2)) then (g 50 (Int.toNat x2)) else (g 54 (Int.toNat x1))))) 52 (Int.toNat x1) ((w32 (((g 52 (Int.toNat x1))) + 1)))) 51 (Int.toNat x2) x1))))).bind fun r5 => if r5.1.1 = 4 then none else
            Ev prog clsT X d mc64 95 [(2, 48), (0, x1), (0, x2), (0, x3), (0, (g 53 (Int.toNat x1))), (0, (g 54 (Int.toNat x1))), (0, 0), (0, (g 50 (Int.toNat x2))), (0, (if (g 54 (Int.toNat x1)) < (g 50 (Int.toNat x2)) then (g 50 (Int.toNat x2)) else (g 54 (Int.toNat x1)))), (0, (w32 (((w32 (((if (g 54 (Int.toNat x1)) < (g 50 (Int.toNat x2)) then (g 50 (Int.toNat x2)) else (g 54 (Int.toNat x1)))) - ((g 50 (Int.toNat x2)))))) - ((w32 (((g 54 (Int.toNat x1))) - ((g 53 (Int.toNat x1)))))))))] (pushR r5.1 []) r5.2)
          else none)
          else none)
          else none)
          else none)
          else none)
        else
          (some ((0, 0), ((mk E c s (hh g))))))
      else
        (if cmpI .le 0 x3 = true then
          (if inb x1 4 = true then
            (if inb x1 4 = true then
            (if inb x1 4 = true then
            (if inb x1 4 = true then
            (if inb x2 10 = true then
            ((Call prog clsT X d 63 [(2, 48), (0, (w32 (x2 + 1))), (0, (w32 (x3 - 0)))] ((mk E c s (hh (up (up (up (up g 53 (Int.toNat x1) ((g 50 (Int.toNat x2)))) 54 (Int.toNat x1) ((if (g 54 (Int.toNat x1)) < (g 50 (Int.toNat x2)) then (g 50 (Int.toNat x2)) else (g 54 (Int.toNat x1))))) 52 (Int.toNat x1) ((w32 (((g 52 (Int.toNat x1))) + 1)))) 51 (Int.toNat x2) x1))))).bind fun r6 => if r6.1.1 = 4 then none else
            Ev prog clsT X d mc64 95 [(2, 48), (0, x1), (0, x2), (0, x3), (0, (g 53 (Int.toNat x1))), (0, (g 54 (Int.toNat x1))), (0, 0), (0, (g 50 (Int.toNat x2))), (0, (if (g 54 (Int.toNat x1)) < (g 50 (Int.toNat x2)) then (g 50 (Int.toNat x2)) else (g 54 (Int.toNat x1)))), (0, 0)] (pushR r6.1 []) r6.2)
          else none)
          else none)
          else none)
          else none)
          else none)
        else
          (some ((0, 0), ((mk E c s (hh g)))))))
      else none)
    else
      (if inb x2 10 = true then
        (if cmpI .eq 0 0 = true then
        (if cmpI .le ((w32 (((w32 (((g 50 (Int.toNat x2))) - ((g 50 (Int.toNat x2)))))) - ((w32 (((g 54 (Int.toNat x1))) - ((g 53 (Int.toNat x1))))))))) x3 = true then
          (if inb x1 4 = true then
            (if inb x1 4 = true then
            (if inb x1 4 = true then
            (if inb x1 4 = true then
            (if inb x2 10 = true then
            ((Call prog clsT X d 63 [(2, 48), (0, (w32 (x2 + 1))), (0, (w32 (x3 - ((w32 (((w32 (((g 50 (Int.toNat x2))) - ((g 50 (Int.toNat x2)))))) - ((w32 (((g 54 (Int.toNat x1))) - ((g 53 (Int.toNat x1))))))))))))] ((mk E c s (hh (up (up (up (up g 53 (Int.toNat x1) ((g 50 (Int.toNat x2)))) 54 (Int.toNat x1) ((g 50 (Int.toNat x2)))) 52 (Int.toNat x1) ((w32 (((g 52 (Int.toNat x1))) + 1)))) 51 (Int.toNat x2) x1))))).bind fun r7 => if r7.1.1 = 4 then none else
            Ev prog clsT X d mc64 95 [(2, 48), (0, x1), (0, x2), (0, x3), (0, (g 53 (Int.toNat x1))), (0, (g 54 (Int.toNat x1))), (0, 0), (0, (g 50 (Int.toNat x2))), (0, (g 50 (Int.toNat x2))), (0, (w32 (((w32 (((g 50 (Int.toNat x2))) - ((g 50 (Int.toNat x2)))))) - ((w32 (((g 54 (Int.toNat x1))) - ((g 53 (Int.toNat x1)))))))))] (pushR r7.1 []) r7.2)
          else none)
          else none)
          else none)
          else none)
          else none)
        else
          (some ((0, 0), ((mk E c s (hh g))))))
      else
        (if cmpI .le 0 x3 = true then
          (if inb x1 4 = true then
            (if inb x1 4 = true then
            (if inb x1 4 = true then
            (if inb x1 4 = true then
            (if inb x2 10 = true then
            ((Call prog clsT X d 63 [(2, 48), (0, (w32 (x2 + 1))), (0, (w32 (x3 - 0)))] ((mk E c s (hh (up (up (up (up g 53 (Int.toNat x1) ((g 50 (Int.toNat x2)))) 54 (Int.toNat x1) ((g 50 (Int.toNat x2)))) 52 (Int.toNat x1) ((w32 (((g 52 (Int.toNat x1))) + 1)))) 51 (Int.toNat x2) x1))))).bind fun r8 => if r8.1.1 = 4 then none else
            Ev prog clsT X d mc64 95 [(2, 48), (0, x1), (0, x2), (0, x3), (0, (g 53 (Int.toNat x1))), (0, (g 54 (Int.toNat x1))), (0, 0), (0, (g 50 (Int.toNat x2))), (0, (g 50 (Int.toNat x2))), (0, 0)] (pushR r8.1 []) r8.2)
          else none)
          else none)
          else none)
          else none)
          else none)
        else
          (some ((0, 0), ((mk E c s (hh g)))))))
      else none))
    else none))
else
  (if cmpI .eq 1 0 = true then
    (if inb x2 10 = true then
      (if cmpI .eq 1 0 = true then
      (if inb x2 10 = true then
        (if cmpI .eq 1 0 = true then
        (if cmpI .le ((w32 (((w32 (((if (g 54 (Int.toNat x1)) < (g 50 (Int.toNat x2)) then (g 50 (Int.toNat x2)) else (g 54 (Int.toNat x1)))) - ((if (g 50 (Int.toNat x2)) < (g 53 (Int.toNat x1)) then (g 50 (Int.toNat x2)) else (g 53 (Int.toNat x1))))))) - ((w32 (((g 54 (Int.toNat x1))) - ((g 53 (Int.toNat x1))))))))) x3 = true then
          (if inb x1 4 = true then
            (if inb x1 4 = true then
            (if inb x1 4 = true then
            (if inb x1 4 = true then
            (if inb x2 10 = true then
            ((Call prog clsT X d 63 [(2, 48), (0, (w32 (x2 + 1))), (0, (w32 (x3 - ((w32 (((w32 (((if (g 54 (Int.toNat x1)) < (g 50 (Int.toNat x2)) then (g 50 (Int.toNat x2)) else (g 54 (Int.toNat x1)))) - ((if (g 50 (Int.toNat x2)) < (g 53 (Int.toNat x1)) then (g 50 (Int.toNat x2)) else (g 53 (Int.toNat x1))))))) - ((w32 (((g 54 (Int.toNat x1))) - ((g 53 (Int.toNat x1))))))))))))] ((mk E c s (hh (up (up (up (up g 53 (Int.toNat x1) ((if (g 50 (Int.toNat x2)) < (g 53 (Int.toNat x1)) then (g 50 (Int.toNat x2)) else (g 53 (Int.toNat x1))))) 54 (Int.toNat x1) ((if (g 54 (Int.toNat x1)) < (g 50 (Int.toNat x2)) then (g 50 (Int.toNat x2)) else (g 54 (Int.toNat x1))))) 52 (Int.toNat x1) ((w32 (((g 52 (Int.toNat x1))) + 1)))) 51 (Int.toNat x2) x1))))).bind fun r9 => if r9.1.1 = 4 then none else
            Ev prog clsT X d mc64 95 [(2, 48), (0, x1), (0, x2), (0, x3), (0, (g 53 (Int.toNat x1))), (0, (g 54 (Int.toNat x1))), (0, 1), (0, (if (g 50 (Int.toNat x2)) < (g 53 (Int.toNat x1)) then (g 50 (Int.toNat x2)) else (g 53 (Int.toNat x1)))), (0, (if (g 54 (Int.toNat x1)) < (g 50 (Int.toNat x2)) then (g 50 (Int.toNat x2)) else (g 54 (Int.toNat x1)))), (0, (w32 (((w32 (((if (g 54 (Int.toNat x1)) < (g 50 (Int.toNat x2)) then (g 50 (Int.toNat x2)) else (g 54 (Int.toNat x1)))) - ((if (g 50 (Int.toNat x2)) < (g 53 (Int.toNat x1)) then (g 50 (Int.toNat x2)) else (g 53 (Int.toNat x1))))))) - ((w32 (((g 54 (Int.toNat x1))) - ((g 53 (Int.toNat x1)))))))))] (pushR r9.1 []) r9.2)
          else none)
          else none)
          else none)
          else none)
          else none)
        else
          (some ((0, 0), ((mk E c s (hh g))))))
      else
        (if cmpI .le 0 x3 = true then
          (if inb x1 4 = true then
            (if inb x1 4 = true then
            (if inb x1 4 = true then
            (if inb x1 4 = true then
            (if inb x2 10 = true then
            ((Call prog clsT X d 63 [(2, 48), (0, (w32 (x2 + 1))), (0, (w32 (x3 - 0)))] ((mk E c s (hh (up (up (up (up g 53 (Int.toNat x1) ((if (g 50 (Int.toNat x2)) < (g 53 (Int.toNat x1)) then (g 50 (Int.toNat x2)) else (g 53 (Int.toNat x1))))) 54 (Int.toNat x1) ((if (g 54 (Int.toNat x1)) < (g 50 (Int.toNat x2)) then (g 50 (Int.toNat x2)) else (g 54 (Int.toNat x1))))) 52 (Int.toNat x1) ((w32 (((g 52 (Int.toNat x1))) + 1)))) 51 (Int.toNat x2) x1))))).bind fun r10 => if r10.1.1 = 4 then none else
            Ev prog clsT X d mc64 95 [(2, 48), (0, x1), (0, x2), (0, x3), (0, (g 53 (Int.toNat x1))), (0, (g 54 (Int.toNat x1))), (0, 1), (0, (if (g 50 (Int.toNat x2)) < (g 53 (Int.toNat x1)) then (g 50 (Int.toNat x2)) else (g 53 (Int.toNat x1)))), (0, (if (g 54 (Int.toNat x1)) < (g 50 (Int.toNat x2)) then (g 50 (Int.toNat x2)) else (g 54 (Int.toNat x1)))), (0, 0)] (pushR r10.1 []) r10.2)
          else none)
          else none)
          else none)
          else none)
          else none)
        else
          (some ((0, 0), ((mk E c s (hh g)))))))
      else none)
    else
      (if inb x2 10 = true then
        (if cmpI .eq 1 0 = true then
        (if cmpI .le ((w32 (((w32 (((g 50 (Int.toNat x2))) - ((if (g 50 (Int.toNat x2)) < (g 53 (Int.toNat x1)) then (g 50 (Int.toNat x2)) else (g 53 (Int.toNat x1))))))) - ((w32 (((g 54 (Int.toNat x1))) - ((g 53 (Int.toNat x1))))))))) x3 = true then
          (if inb x1 4 = true then
            (if inb x1 4 = true then
            (if inb x1 4 = true then
            (if inb x1 4 = true then
            (if inb x2 10 = true then
            ((Call prog clsT X d 63 [(2, 48), (0, (w32 (x2 + 1))), (0, (w32 (x3 - ((w32 (((w32 (((g 50 (Int.toNat x2))) - ((if (g 50 (Int.toNat x2)) < (g 53 (Int.toNat x1)) then (g 50 (Int.toNat x2)) else (g 53 (Int.toNat x1))))))) - ((w32 (((g 54 (Int.toNat x1))) - ((g 53 (Int.toNat x1))))))))))))] ((mk E c s (hh (up (up (up (up g 53 (Int.toNat x1) ((if (g 50 (Int.toNat x2)) < (g 53 (Int.toNat x1)) then (g 50 (Int.toNat x2)) else (g 53 (Int.toNat x1))))) 54 (Int.toNat x1) ((g 50 (Int.toNat x2)))) 52 (Int.toNat x1) ((w32 (((g 52 (Int.toNat x1))) + 1)))) 51 (Int.toNat x2) x1))))).bind fun r11 => if r11.1.1 = 4 then none else
            Ev prog clsT X d mc64 95 [(2, 48), (0, x1), (0, x2), (0, x3), (0, (g 53 (Int.toNat x1))), (0, (g 54 (Int.toNat x1))), (0, 1), (0, (if (g 50 (Int.toNat x2)) < (g 53 (Int.toNat x1)) then (g 50 (Int.toNat x2)) else (g 53 (Int.toNat x1)))), (0, (g 50 (Int.toNat x2))), (0, (w32 (((w32 (((g 50 (Int.toNat x2))) - ((if (g 50 (Int.toNat x2)) < (g 53 (Int.toNat x1)) then (g 50 (Int.toNat x2)) else (g 53 (Int.toNat x1))))))) - ((w32 (((g 54 (Int.toNat x1))) - ((g 53 (Int.toNat x1)))))))))] (pushR r11.1 []) r11.2)
          else none)
          else none)
          else none)
          else none)
          else none)
        else
          (some ((0, 0), ((mk E c s (hh g))))))
      else
        (if cmpI .le 0 x3 = true then
          (if inb x1 4 = true then
            (if inb x1 4 = true then
            (if inb x1 4 = true then
            (if inb x1 4 = true then
            (if inb x2 10 = true then
            ((Call prog clsT X d 63 [(2, 48), (0, (w32 (x2 + 1))), (0, (w32 (x3 - 0)))] ((mk E c s (hh (up (up (up (up g 53 (Int.toNat x1) ((if (g 50 (Int.toNat x2)) < (g 53 (Int.toNat x1)) then (g 50 (Int.toNat x2)) else (g 53 (Int.toNat x1))))) 54 (Int.toNat x1) ((g 50 (Int.toNat x2)))) 52 (Int.toNat x1) ((w32 (((g 52 (Int.toNat x1))) + 1)))) 51 (Int.toNat x2) x1))))).bind fun r12 => if r12.1.1 = 4 then none else
            Ev prog clsT X d mc64 95 [(2, 48), (0, x1), (0, x2), (0, x3), (0, (g 53 (Int.toNat x1))), (0, (g 54 (Int.toNat x1))), (0, 1), (0, (if (g 50 (Int.toNat x2)) < (g 53 (Int.toNat x1)) then (g 50 (Int.toNat x2)) else (g 53 (Int.toNat x1)))), (0, (g 50 (Int.toNat x2))), (0, 0)] (pushR r12.1 []) r12.2)
          else none)
          else none)
          else none)
          else none)
          else none)
        else
          (some ((0, 0), ((mk E c s (hh g)))))))
      else none))
    else none)
  else
    (if inb x2 10 = true then
      (if cmpI .eq 1 0 = true then
      (if inb x2 10 = true then
        (if cmpI .eq 1 0 = true then
        (if cmpI .le ((w32 (((w32 (((if (g 54 (Int.toNat x1)) < (g 50 (Int.toNat x2)) then (g 50 (Int.toNat x2)) else (g 54 (Int.toNat x1)))) - ((g 50 (Int.toNat x2)))))) - ((w32 (((g 54 (Int.toNat x1))) - ((g 53 (Int.toNat x1))))))))) x3 = true then
          (if inb x1 4 = true then
            (if inb x1 4 = true then
            (if inb x1 4 = true then
            (if inb x1 4 = true then
            (if inb x2 10 = true then
            ((Call prog clsT X d 63 [(2, 48), (0, (w32 (x2 + 1))), (0, (w32 (x3 - ((w32 (((w32 (((if (g 54 (Int.toNat x1)) < (g 50 (Int.toNat x2)) then (g 50 (Int.toNat x2)) else (g 54 (Int.toNat x1)))) - ((g 50 (Int.toNat x2)))))) - ((w32 (((g 54 (Int.toNat x1))) - ((g 53 (Int.toNat x1))))))))))))] ((mk E c s (hh (up (up (up (up g 53 (Int.toNat x1) ((g 50 (Int.toNat x2)))) 54 (Int.toNat x1) ((if (g 54 (Int.toNat x1)) < (g 50 (Int.toNat x2)) then (g 50 (Int.toNat x2)) else (g 54 (Int.toNat x1))))) 52 (Int.toNat x1) ((w32 (((g 52 (Int.toNat x1))) + 1)))) 51 (Int.toNat x2) x1))))).bind fun r13 => if r13.1.1 = 4 then none else
            Ev prog clsT X d mc64 95 [(2, 48), (0, x1), (0, x2), (0, x3), (0, (g 53 (Int.toNat x1))), (0, (g 54 (Int.toNat x1))), (0, 1), (0, (g 50 (Int.toNat x2))), (0, (if (g 54 (Int.toNat x1)) < (g 50 (Int.toNat x2)) then (g 50 (Int.toNat x2)) else (g 54 (Int.toNat x1)))), (0, (w32 (((w32 (((if (g 54 (Int.toNat x1)) < (g 50 (Int.toNat x2)) then (g 50 (Int.toNat x2)) else (g 54 (Int.toNat x1)))) - ((g 50 (Int.toNat x2)))))) - ((w32 (((g 54 (Int.toNat x1))) - ((g 53 (Int.toNat x1)))))))))] (pushR r13.1 []) r13.2)
          else none)
          else none)
          else none)
          else none)
          else none)
        else
          (some ((0, 0), ((mk E c s (hh g))))))
      else
        (if cmpI .le 0 x3 = true then
          (if inb x1 4 = true then
            (if inb x1 4 = true then
            (if inb x1 4 = true then
            (if inb x1 4 = true then
            (if inb x2 10 = true then
            ((Call prog clsT X d 63 [(2, 48), (0, (w32 (x2 + 1))), (0, (w32 (x3 - 0)))] ((mk E c s (hh (up (up (up (up g 53 (Int.toNat x1) ((g 50 (Int.toNat x2)))) 54 (Int.toNat x1) ((if (g 54 (Int.toNat x1)) < (g 50 (Int.toNat x2)) then (g 50 (Int.toNat x2)) else (g 54 (Int.toNat x1))))) 52 (Int.toNat x1) ((w32 (((g 52 (Int.toNat x1))) + 1)))) 51 (Int.toNat x2) x1))))).bind fun r14 => if r14.1.1 = 4 then none else
            Ev prog clsT X d mc64 95 [(2, 48), (0, x1), (0, x2), (0, x3), (0, (g 53 (Int.toNat x1))), (0, (g 54 (Int.toNat x1))), (0, 1), (0, (g 50 (Int.toNat x2))), (0, (if (g 54 (Int.toNat x1)) < (g 50 (Int.toNat x2)) then (g 50 (Int.toNat x2)) else (g 54 (Int.toNat x1)))), (0, 0)] (pushR r14.1 []) r14.2)
          else none)
          else none)
          else none)
          else none)
          else none)
        else
          (some ((0, 0), ((mk E c s (hh g)))))))
      else none)
    else
      (if inb x2 10 = true then
        (if cmpI .eq 1 0 = true then
        (if cmpI .le ((w32 (((w32 (((g 50 (Int.toNat x2))) - ((g 50 (Int.toNat x2)))))) - ((w32 (((g 54 (Int.toNat x1))) - ((g 53 (Int.toNat x1))))))))) x3 = true then
          (if inb x1 4 = true then
            (if inb x1 4 = true then
            (if inb x1 4 = true then
            (if inb x1 4 = true then
            (if inb x2 10 = true then
            ((Call prog clsT X d 63 [(2, 48), (0, (w32 (x2 + 1))), (0, (w32 (x3 - ((w32 (((w32 (((g 50 (Int.toNat x2))) - ((g 50 (Int.toNat x2)))))) - ((w32 (((g 54 (Int.toNat x1))) - ((g 53 (Int.toNat x1))))))))))))] ((mk E c s (hh (up (up (up (up g 53 (Int.toNat x1) ((g 50 (Int.toNat x2)))) 54 (Int.toNat x1) ((g 50 (Int.toNat x2)))) 52 (Int.toNat x1) ((w32 (((g 52 (Int.toNat x1))) + 1)))) 51 (Int.toNat x2) x1))))).bind fun r15 => if r15.1.1 = 4 then none else
            Ev prog clsT X d mc64 95 [(2, 48), (0, x1), (0, x2), (0, x3), (0, (g 53 (Int.toNat x1))), (0, (g 54 (Int.toNat x1))), (0, 1), (0, (g 50 (Int.toNat x2))), (0, (g 50 (Int.toNat x2))), (0, (w32 (((w32 (((g 50 (Int.toNat x2))) - ((g 50 (Int.toNat x2)))))) - ((w32 (((g 54 (Int.toNat x1))) - ((g 53 (Int.toNat x1)))))))))] (pushR r15.1 []) r15.2)
          else none)
          else none)
          else none)
          else none)
          else none)
        else
          (some ((0, 0), ((mk E c s (hh g))))))
      else
        (if cmpI .le 0 x3 = true then
          (if inb x1 4 = true then
            (if inb x1 4 = true then
            (if inb x1 4 = true then
            (if inb x1 4 = true then
            (if inb x2 10 = true then
            ((Call prog clsT X d 63 [(2, 48), (0, (w32 (x2 + 1))), (0, (w32 (x3 - 0)))] ((mk E c s (hh (up (up (up (up g 53 (Int.toNat x1) ((g 50 (Int.toNat x2)))) 54 (Int.toNat x1) ((g 50 (Int.toNat x2)))) 52 (Int.toNat x1) ((w32 (((g 52 (Int.toNat x1))) + 1)))) 51 (Int.toNat x2) x1))))).bind fun r16 => if r16.1.1 = 4 then none else
            Ev prog clsT X d mc64 95 [(2, 48), (0, x1), (0, x2), (0, x3), (0, (g 53 (Int.toNat x1))), (0, (g 54 (Int.toNat x1))), (0, 1), (0, (g 50 (Int.toNat x2))), (0, (g 50 (Int.toNat x2))), (0, 0)] (pushR r16.1 []) r16.2)
          else none)
          else none)
          else none)
          else none)
          else none)
        else
          (some ((0, 0), ((mk E c s (hh g)))))))
      else none))
    else none)))
else none)
else none)
else none) :=
  (show Call prog clsT X (d + 1) 64 [(2, 48), (0, x1), (0, x2), (0, x3)] (mk E c s (hh g)) = Ev prog clsT X d mc64 0 [(2, 48), (0, x1), (0, x2), (0, x3), (3, 0), (3, 0), (3, 0), (3, 0), (3, 0), (3, 0)] [] (mk E c s (hh g)) from rfl).trans (r64_0 X E c s g d x1 x2 x3 )
theorem r64_95 (d : Nat) (x1 x2 x3 x4 x5 x6 x7 x8 x9 s0 : Int) : Ev prog clsT X d mc64 95 [(2, 48), (0, x1), (0, x2), (0, x3), (0, x4), (0, x5), (0, x6), (0, x7), (0, x8), (0, x9)] [(0, s0)] (mk E c s (hh g)) =
  (if cmpI .eq s0 0 = true then
  (if inb x1 4 = true then
    (if inb x1 4 = true then
    (if inb x1 4 = true then
    (if inb x1 4 = true then
    (some ((0, 0), ((mk E c s (hh (up (up (up g 53 (Int.toNat x1) x4) 54 (Int.toNat x1) x5) 52 (Int.toNat x1) ((w32 (((g 52 (Int.toNat x1))) - 1)))))))))
  else none)
  else none)
  else none)
  else none)
else
  (some ((0, 1), ((mk E c s (hh g)))))) :=
  (evk_at X [0, 95] 22 (rfl : _ = (if cmpI .eq s0 0 = true then
  (if inb x1 4 = true then
    (if inb x1 4 = true then
    (if inb x1 4 = true then
    (if inb x1 4 = true then
    (some ((0, 0), ((mk E c s (PU (PU (PU (hh g) 53 (Int.toNat x1) x4) 54 (Int.toNat x1) x5) 52 (Int.toNat x1) ((w32 (((g 52 (Int.toNat x1))) - 1))))))))
  else none)
  else none)
  else none)
  else none)
else
  (some ((0, 1), ((mk E c s (hh g)))))))).trans (by simp only [hhP52, hhP53, hhP54])
theorem r76_0 (d : Nat) (x2 x4 : Int) : Ev prog clsT X d mc76 0 [(2, 27), (2, 1), (1, x2), (3, 0), (2, x4), (3, 0), (3, 0), (3, 0), (3, 0), (3, 0)] [] (mk E c s (hh g)) =
  (if (2 : Nat) = 2 ∧ x4 ≠ -5 then (if (!decide (x4 = -1)) = true then
  ((fget 3588 ((mk E c s (hh g))) x4).bind fun v1 =>
    (Call prog clsT X d 248 [(2, 28), (0, 0)] ((mk E c s (hh g)))).bind fun r2 => if r2.1.1 = 4 then none else
    Ev prog clsT X d mc76 17 [(2, 27), (2, 1), (1, x2), (3, 0), (2, x4), (0, v1), (0, 0), (0, 99), (0, 1), (3, 0)] (pushR r2.1 []) r2.2)
else
  ((Call prog clsT X d 248 [(2, 28), (0, 0)] ((mk E c s (hh g)))).bind fun r3 => if r3.1.1 = 4 then none else
    Ev prog clsT X d mc76 17 [(2, 27), (2, 1), (1, x2), (3, 0), (2, x4), (0, 10), (0, 0), (0, 99), (0, 1), (3, 0)] (pushR r3.1 []) r3.2)) else none) :=
  evk_at X [0, 17, 24, 128] 16 rfl
theorem rc76_ (d : Nat) (x2 x4 : Int) : Call prog clsT X (d + 1) 76 [(2, 27), (2, 1), (1, x2), (2, x4)] (mk E c s (hh g)) =
  (if (2 : Nat) = 2 ∧ x4 ≠ -5 then (if (!decide (x4 = -1)) = true then
  ((fget 3588 ((mk E c s (hh g))) x4).bind fun v1 =>
    (Call prog clsT X d 248 [(2, 28), (0, 0)] ((mk E c s (hh g)))).bind fun r2 => if r2.1.1 = 4 then none else
    Ev prog clsT X d mc76 17 [(2, 27), (2, 1), (1, x2), (3, 0), (2, x4), (0, v1), (0, 0), (0, 99), (0, 1), (3, 0)] (pushR r2.1 []) r2.2)
else
  ((Call prog clsT X d 248 [(2, 28), (0, 0)] ((mk E c s (hh g)))).bind fun r3 => if r3.1.1 = 4 then none else
    Ev prog clsT X d mc76 17 [(2, 27), (2, 1), (1, x2), (3, 0), (2, x4), (0, 10), (0, 0), (0, 99), (0, 1), (3, 0)] (pushR r3.1 []) r3.2)) else none) :=
  (show Call prog clsT X (d + 1) 76 [(2, 27), (2, 1), (1, x2), (2, x4)] (mk E c s (hh g)) = Ev prog clsT X d mc76 0 [(2, 27), (2, 1), (1, x2), (3, 0), (2, x4), (3, 0), (3, 0), (3, 0), (3, 0), (3, 0)] [] (mk E c s (hh g)) from rfl).trans (r76_0 X E c s g d x2 x4 )
theorem r76_17 (d : Nat) (x2 x4 x5 x6 x7 x8 : Int) : Ev prog clsT X d mc76 17 [(2, 27), (2, 1), (1, x2), (3, 0), (2, x4), (0, x5), (0, x6), (0, x7), (0, x8), (3, 0)] [] (mk E c s (hh g)) =
  (Ev prog clsT X d mc76 24 [(2, 27), (2, 1), (1, x2), (3, 0), (2, x4), (0, x5), (0, x6), (0, x7), (0, x8), (0, 0)] [] (mk E c s (hh (up g 28 6 9)))) :=
  (evk_at X [0, 17, 24, 128] 9 (rfl : _ = (Ev prog clsT X d mc76 24 [(2, 27), (2, 1), (1, x2), (3, 0), (2, x4), (0, x5), (0, x6), (0, x7), (0, x8), (0, 0)] [] (mk E c s (PU (hh g) 28 6 9))))).trans (by simp only [hhP28])
set_option maxRecDepth 100000 in
theorem r76_24 (d : Nat) (x2 x5 x6 x7 x8 x9 : Int) (w3 w4 : MV) : Ev prog clsT X d mc76 24 [(2, 27), (2, 1), (1, x2), w3, w4, (0, x5), (0, x6), (0, x7), (0, x8), (0, x9)] [] (mk E c s (hh g)) =
  (if cmpI .ge x9 40 = true then
  ((Call prog clsT X d 262 [(0, x6)] ((mk E c s (hh g)))).bind fun r1 => if r1.1.1 = 4 then none else
    Ev prog clsT X d mc76 128 [(2, 27), (2, 1), (1, x2), (3, 0), (3, 0), (0, x5), (0, x6), (0, x7), (0, x8), (0, x9)] (pushR r1.1 [(0, 1), (2, 28)]) r1.2)
else
  (if cmpI .ne ((lcmpI ((land64 ((lshr64 x2 x9)) 1)) 0)) 0 = true then
    (if inb x9 40 = true then
      (if cmpI .eq x5 10 = true then
      (if inb x9 40 = true then
        (if inb x9 40 = true then
        (if inb x9 40 = true then
        (if inb x9 40 = true then
        (if inb x9 40 = true then
        (Ev prog clsT X d mc76 24 [(2, 27), (2, 1), (1, x2), (3, 0), (3, 0), (0, x5), (0, (ior32 x6 ((ishl32 1 ((g 6 (Int.toNat x9))))))), (0, (if (g 7 (Int.toNat x9)) < x7 then (g 7 (Int.toNat x9)) else x7)), (0, (if x8 < (g 7 (Int.toNat x9)) then (g 7 (Int.toNat x9)) else x8)), (0, (w32 (x9 + 1)))] [] (mk E c s (hh (up (up (up (up (up g 28 0 ((w32 (((g 28 0)) + 1)))) 28 2 ((w32 ((((up g 28 0 ((w32 (((g 28 0)) + 1)))) 28 2)) + 0)))) 28 3 ((w32 ((((up (up g 28 0 ((w32 (((g 28 0)) + 1)))) 28 2 ((w32 ((((up g 28 0 ((w32 (((g 28 0)) + 1)))) 28 2)) + 0)))) 28 3)) + ((g 7 (Int.toNat x9))))))) 28 5 ((w32 ((((up (up (up g 28 0 ((w32 (((g 28 0)) + 1)))) 28 2 ((w32 ((((up g 28 0 ((w32 (((g 28 0)) + 1)))) 28 2)) + 0)))) 28 3 ((w32 ((((up (up g 28 0 ((w32 (((g 28 0)) + 1)))) 28 2 ((w32 ((((up g 28 0 ((w32 (((g 28 0)) + 1)))) 28 2)) + 0)))) 28 3)) + ((g 7 (Int.toNat x9))))))) 28 5)) + ((g 8 (Int.toNat x9))))))) 28 6 ((if (g 8 (Int.toNat x9)) < ((up (up (up (up g 28 0 ((w32 (((g 28 0)) + 1)))) 28 2 ((w32 ((((up g 28 0 ((w32 (((g 28 0)) + 1)))) 28 2)) + 0)))) 28 3 ((w32 ((((up (up g 28 0 ((w32 (((g 28 0)) + 1)))) 28 2 ((w32 ((((up g 28 0 ((w32 (((g 28 0)) + 1)))) 28 2)) + 0)))) 28 3)) + ((g 7 (Int.toNat x9))))))) 28 5 ((w32 ((((up (up (up g 28 0 ((w32 (((g 28 0)) + 1)))) 28 2 ((w32 ((((up g 28 0 ((w32 (((g 28 0)) + 1)))) 28 2)) + 0)))) 28 3 ((w32 ((((up (up g 28 0 ((w32 (((g 28 0)) + 1)))) 28 2 ((w32 ((((up g 28 0 ((w32 (((g 28 0)) + 1)))) 28 2)) + 0)))) 28 3)) + ((g 7 (Int.toNat x9))))))) 28 5)) + ((g 8 (Int.toNat x9))))))) 28 6) then (g 8 (Int.toNat x9)) else ((up (up (up (up g 28 0 ((w32 (((g 28 0)) + 1)))) 28 2 ((w32 ((((up g 28 0 ((w32 (((g 28 0)) + 1)))) 28 2)) + 0)))) 28 3 ((w32 ((((up (up g 28 0 ((w32 (((g 28 0)) + 1)))) 28 2 ((w32 ((((up g 28 0 ((w32 (((g 28 0)) + 1)))) 28 2)) + 0)))) 28 3)) + ((g 7 (Int.toNat x9))))))) 28 5 ((w32 ((((up (up (up g 28 0 ((w32 (((g 28 0)) + 1)))) 28 2 ((w32 ((((up g 28 0 ((w32 (((g 28 0)) + 1)))) 28 2)) + 0)))) 28 3 ((w32 ((((up (up g 28 0 ((w32 (((g 28 0)) + 1)))) 28 2 ((w32 ((((up g 28 0 ((w32 (((g 28 0)) + 1)))) 28 2)) + 0)))) 28 3)) + ((g 7 (Int.toNat x9))))))) 28 5)) + ((g 8 (Int.toNat x9))))))) 28 6)))))))
      else none)
      else none)
      else none)
      else none)
      else none)
    else
      (if inb x9 40 = true then
        (if cmpI .eq ((g 6 (Int.toNat x9))) x5 = true then
        (if inb x9 40 = true then
          (if inb x9 40 = true then
          (if inb x9 40 = true then
          (if inb x9 40 = true then
          (if inb x9 40 = true then
          (Ev prog clsT X d mc76 24 [(2, 27), (2, 1), (1, x2), (3, 0), (3, 0), (0, x5), (0, (ior32 x6 ((ishl32 1 ((g 6 (Int.toNat x9))))))), (0, (if (g 7 (Int.toNat x9)) < x7 then (g 7 (Int.toNat x9)) else x7)), (0, (if x8 < (g 7 (Int.toNat x9)) then (g 7 (Int.toNat x9)) else x8)), (0, (w32 (x9 + 1)))] [] (mk E c s (hh (up (up (up (up (up g 28 0 ((w32 (((g 28 0)) + 1)))) 28 2 ((w32 ((((up g 28 0 ((w32 (((g 28 0)) + 1)))) 28 2)) + 0)))) 28 3 ((w32 ((((up (up g 28 0 ((w32 (((g 28 0)) + 1)))) 28 2 ((w32 ((((up g 28 0 ((w32 (((g 28 0)) + 1)))) 28 2)) + 0)))) 28 3)) + ((g 7 (Int.toNat x9))))))) 28 5 ((w32 ((((up (up (up g 28 0 ((w32 (((g 28 0)) + 1)))) 28 2 ((w32 ((((up g 28 0 ((w32 (((g 28 0)) + 1)))) 28 2)) + 0)))) 28 3 ((w32 ((((up (up g 28 0 ((w32 (((g 28 0)) + 1)))) 28 2 ((w32 ((((up g 28 0 ((w32 (((g 28 0)) + 1)))) 28 2)) + 0)))) 28 3)) + ((g 7 (Int.toNat x9))))))) 28 5)) + ((g 8 (Int.toNat x9))))))) 28 6 ((if (g 8 (Int.toNat x9)) < ((up (up (up (up g 28 0 ((w32 (((g 28 0)) + 1)))) 28 2 ((w32 ((((up g 28 0 ((w32 (((g 28 0)) + 1)))) 28 2)) + 0)))) 28 3 ((w32 ((((up (up g 28 0 ((w32 (((g 28 0)) + 1)))) 28 2 ((w32 ((((up g 28 0 ((w32 (((g 28 0)) + 1)))) 28 2)) + 0)))) 28 3)) + ((g 7 (Int.toNat x9))))))) 28 5 ((w32 ((((up (up (up g 28 0 ((w32 (((g 28 0)) + 1)))) 28 2 ((w32 ((((up g 28 0 ((w32 (((g 28 0)) + 1)))) 28 2)) + 0)))) 28 3 ((w32 ((((up (up g 28 0 ((w32 (((g 28 0)) + 1)))) 28 2 ((w32 ((((up g 28 0 ((w32 (((g 28 0)) + 1)))) 28 2)) + 0)))) 28 3)) + ((g 7 (Int.toNat x9))))))) 28 5)) + ((g 8 (Int.toNat x9))))))) 28 6) then (g 8 (Int.toNat x9)) else ((up (up (up (up g 28 0 ((w32 (((g 28 0)) + 1)))) 28 2 ((w32 ((((up g 28 0 ((w32 (((g 28 0)) + 1)))) 28 2)) + 0)))) 28 3 ((w32 ((((up (up g 28 0 ((w32 (((g 28 0)) + 1)))) 28 2 ((w32 ((((up g 28 0 ((w32 (((g 28 0)) + 1)))) 28 2)) + 0)))) 28 3)) + ((g 7 (Int.toNat x9))))))) 28 5 ((w32 ((((up (up (up g 28 0 ((w32 (((g 28 0)) + 1)))) 28 2 ((w32 ((((up g 28 0 ((w32 (((g 28 0)) + 1)))) 28 2)) + 0)))) 28 3 ((w32 ((((up (up g 28 0 ((w32 (((g 28 0)) + 1)))) 28 2 ((w32 ((((up g 28 0 ((w32 (((g 28 0)) + 1)))) 28 2)) + 0)))) 28 3)) + ((g 7 (Int.toNat x9))))))) 28 5)) + ((g 8 (Int.toNat x9))))))) 28 6)))))))
        else none)
        else none)
        else none)
        else none)
        else none)
      else
        (if inb x9 40 = true then
          (if inb x9 40 = true then
          (if inb x9 40 = true then
          (if inb x9 40 = true then
          (if inb x9 40 = true then
          (Ev prog clsT X d mc76 24 [(2, 27), (2, 1), (1, x2), (3, 0), (3, 0), (0, x5), (0, (ior32 x6 ((ishl32 1 ((g 6 (Int.toNat x9))))))), (0, (if (g 7 (Int.toNat x9)) < x7 then (g 7 (Int.toNat x9)) else x7)), (0, (if x8 < (g 7 (Int.toNat x9)) then (g 7 (Int.toNat x9)) else x8)), (0, (w32 (x9 + 1)))] [] (mk E c s (hh (up (up (up (up (up g 28 0 ((w32 (((g 28 0)) + 1)))) 28 2 ((w32 ((((up g 28 0 ((w32 (((g 28 0)) + 1)))) 28 2)) + 1)))) 28 3 ((w32 ((((up (up g 28 0 ((w32 (((g 28 0)) + 1)))) 28 2 ((w32 ((((up g 28 0 ((w32 (((g 28 0)) + 1)))) 28 2)) + 1)))) 28 3)) + ((g 7 (Int.toNat x9))))))) 28 5 ((w32 ((((up (up (up g 28 0 ((w32 (((g 28 0)) + 1)))) 28 2 ((w32 ((((up g 28 0 ((w32 (((g 28 0)) + 1)))) 28 2)) + 1)))) 28 3 ((w32 ((((up (up g 28 0 ((w32 (((g 28 0)) + 1)))) 28 2 ((w32 ((((up g 28 0 ((w32 (((g 28 0)) + 1)))) 28 2)) + 1)))) 28 3)) + ((g 7 (Int.toNat x9))))))) 28 5)) + ((g 8 (Int.toNat x9))))))) 28 6 ((if (g 8 (Int.toNat x9)) < ((up (up (up (up g 28 0 ((w32 (((g 28 0)) + 1)))) 28 2 ((w32 ((((up g 28 0 ((w32 (((g 28 0)) + 1)))) 28 2)) + 1)))) 28 3 ((w32 ((((up (up g 28 0 ((w32 (((g 28 0)) + 1)))) 28 2 ((w32 ((((up g 28 0 ((w32 (((g 28 0)) + 1)))) 28 2)) + 1)))) 28 3)) + ((g 7 (Int.toNat x9))))))) 28 5 ((w32 ((((up (up (up g 28 0 ((w32 (((g 28 0)) + 1)))) 28 2 ((w32 ((((up g 28 0 ((w32 (((g 28 0)) + 1)))) 28 2)) + 1)))) 28 3 ((w32 ((((up (up g 28 0 ((w32 (((g 28 0)) + 1)))) 28 2 ((w32 ((((up g 28 0 ((w32 (((g 28 0)) + 1)))) 28 2)) + 1)))) 28 3)) + ((g 7 (Int.toNat x9))))))) 28 5)) + ((g 8 (Int.toNat x9))))))) 28 6) then (g 8 (Int.toNat x9)) else ((up (up (up (up g 28 0 ((w32 (((g 28 0)) + 1)))) 28 2 ((w32 ((((up g 28 0 ((w32 (((g 28 0)) + 1)))) 28 2)) + 1)))) 28 3 ((w32 ((((up (up g 28 0 ((w32 (((g 28 0)) + 1)))) 28 2 ((w32 ((((up g 28 0 ((w32 (((g 28 0)) + 1)))) 28 2)) + 1)))) 28 3)) + ((g 7 (Int.toNat x9))))))) 28 5 ((w32 ((((up (up (up g 28 0 ((w32 (((g 28 0)) + 1)))) 28 2 ((w32 ((((up g 28 0 ((w32 (((g 28 0)) + 1)))) 28 2)) + 1)))) 28 3 ((w32 ((((up (up g 28 0 ((w32 (((g 28 0)) + 1)))) 28 2 ((w32 ((((up g 28 0 ((w32 (((g 28 0)) + 1)))) 28 2)) + 1)))) 28 3)) + ((g 7 (Int.toNat x9))))))) 28 5)) + ((g 8 (Int.toNat x9))))))) 28 6)))))))
        else none)
        else none)
        else none)
        else none)
        else none))
      else none))
    else none)
  else
    (Ev prog clsT X d mc76 24 [(2, 27), (2, 1), (1, x2), (3, 0), (3, 0), (0, x5), (0, x6), (0, x7), (0, x8), (0, (w32 (x9 + 1)))] [] (mk E c s (hh g))))) :=
  (evk_at X [0, 17, 24, 128] 99 (rfl : _ = (if cmpI .ge x9 40 = true then
  ((Call prog clsT X d 262 [(0, x6)] ((mk E c s (hh g)))).bind fun r1 => if r1.1.1 = 4 then none else
    Ev prog clsT X d mc76 128 [(2, 27), (2, 1), (1, x2), (3, 0), (3, 0), (0, x5), (0, x6), (0, x7), (0, x8), (0, x9)] (pushR r1.1 [(0, 1), (2, 28)]) r1.2)
else
  (if cmpI .ne ((lcmpI ((land64 ((lshr64 x2 x9)) 1)) 0)) 0 = true then
    (if inb x9 40 = true then
      (if cmpI .eq x5 10 = true then
      (if inb x9 40 = true then
        (if inb x9 40 = true then
        (if inb x9 40 = true then
        (if inb x9 40 = true then
        (if inb x9 40 = true then
        (Ev prog clsT X d mc76 24 [(2, 27), (2, 1), (1, x2), (3, 0), (3, 0), (0, x5), (0, (ior32 x6 ((ishl32 1 ((g 6 (Int.toNat x9))))))), (0, (if (g 7 (Int.toNat x9)) < x7 then (g 7 (Int.toNat x9)) else x7)), (0, (if x8 < (g 7 (Int.toNat x9)) then (g 7 (Int.toNat x9)) else x8)), (0, (w32 (x9 + 1)))] [] (mk E c s (PU (PU (PU (PU (PU (hh g) 28 0 ((w32 (((g 28 0)) + 1)))) 28 2 ((w32 ((((up g 28 0 ((w32 (((g 28 0)) + 1)))) 28 2)) + 0)))) 28 3 ((w32 ((((up (up g 28 0 ((w32 (((g 28 0)) + 1)))) 28 2 ((w32 ((((up g 28 0 ((w32 (((g 28 0)) + 1)))) 28 2)) + 0)))) 28 3)) + ((g 7 (Int.toNat x9))))))) 28 5 ((w32 ((((up (up (up g 28 0 ((w32 (((g 28 0)) + 1)))) 28 2 ((w32 ((((up g 28 0 ((w32 (((g 28 0)) + 1)))) 28 2)) + 0)))) 28 3 ((w32 ((((up (up g 28 0 ((w32 (((g 28 0)) + 1)))) 28 2 ((w32 ((((up g 28 0 ((w32 (((g 28 0)) + 1)))) 28 2)) + 0)))) 28 3)) + ((g 7 (Int.toNat x9))))))) 28 5)) + ((g 8 (Int.toNat x9))))))) 28 6 ((if (g 8 (Int.toNat x9)) < ((up (up (up (up g 28 0 ((w32 (((g 28 0)) + 1)))) 28 2 ((w32 ((((up g 28 0 ((w32 (((g 28 0)) + 1)))) 28 2)) + 0)))) 28 3 ((w32 ((((up (up g 28 0 ((w32 (((g 28 0)) + 1)))) 28 2 ((w32 ((((up g 28 0 ((w32 (((g 28 0)) + 1)))) 28 2)) + 0)))) 28 3)) + ((g 7 (Int.toNat x9))))))) 28 5 ((w32 ((((up (up (up g 28 0 ((w32 (((g 28 0)) + 1)))) 28 2 ((w32 ((((up g 28 0 ((w32 (((g 28 0)) + 1)))) 28 2)) + 0)))) 28 3 ((w32 ((((up (up g 28 0 ((w32 (((g 28 0)) + 1)))) 28 2 ((w32 ((((up g 28 0 ((w32 (((g 28 0)) + 1)))) 28 2)) + 0)))) 28 3)) + ((g 7 (Int.toNat x9))))))) 28 5)) + ((g 8 (Int.toNat x9))))))) 28 6) then (g 8 (Int.toNat x9)) else ((up (up (up (up g 28 0 ((w32 (((g 28 0)) + 1)))) 28 2 ((w32 ((((up g 28 0 ((w32 (((g 28 0)) + 1)))) 28 2)) + 0)))) 28 3 ((w32 ((((up (up g 28 0 ((w32 (((g 28 0)) + 1)))) 28 2 ((w32 ((((up g 28 0 ((w32 (((g 28 0)) + 1)))) 28 2)) + 0)))) 28 3)) + ((g 7 (Int.toNat x9))))))) 28 5 ((w32 ((((up (up (up g 28 0 ((w32 (((g 28 0)) + 1)))) 28 2 ((w32 ((((up g 28 0 ((w32 (((g 28 0)) + 1)))) 28 2)) + 0)))) 28 3 ((w32 ((((up (up g 28 0 ((w32 (((g 28 0)) + 1)))) 28 2 ((w32 ((((up g 28 0 ((w32 (((g 28 0)) + 1)))) 28 2)) + 0)))) 28 3)) + ((g 7 (Int.toNat x9))))))) 28 5)) + ((g 8 (Int.toNat x9))))))) 28 6))))))
      else none)
      else none)
      else none)
      else none)
      else none)
    else
      (if inb x9 40 = true then
        (if cmpI .eq ((g 6 (Int.toNat x9))) x5 = true then
        (if inb x9 40 = true then
          (if inb x9 40 = true then
          (if inb x9 40 = true then
          (if inb x9 40 = true then
          (if inb x9 40 = true then
          (Ev prog clsT X d mc76 24 [(2, 27), (2, 1), (1, x2), (3, 0), (3, 0), (0, x5), (0, (ior32 x6 ((ishl32 1 ((g 6 (Int.toNat x9))))))), (0, (if (g 7 (Int.toNat x9)) < x7 then (g 7 (Int.toNat x9)) else x7)), (0, (if x8 < (g 7 (Int.toNat x9)) then (g 7 (Int.toNat x9)) else x8)), (0, (w32 (x9 + 1)))] [] (mk E c s (PU (PU (PU (PU (PU (hh g) 28 0 ((w32 (((g 28 0)) + 1)))) 28 2 ((w32 ((((up g 28 0 ((w32 (((g 28 0)) + 1)))) 28 2)) + 0)))) 28 3 ((w32 ((((up (up g 28 0 ((w32 (((g 28 0)) + 1)))) 28 2 ((w32 ((((up g 28 0 ((w32 (((g 28 0)) + 1)))) 28 2)) + 0)))) 28 3)) + ((g 7 (Int.toNat x9))))))) 28 5 ((w32 ((((up (up (up g 28 0 ((w32 (((g 28 0)) + 1)))) 28 2 ((w32 ((((up g 28 0 ((w32 (((g 28 0)) + 1)))) 28 2)) + 0)))) 28 3 ((w32 ((((up (up g 28 0 ((w32 (((g 28 0)) + 1)))) 28 2 ((w32 ((((up g 28 0 ((w32 (((g 28 0)) + 1)))) 28 2)) + 0)))) 28 3)) + ((g 7 (Int.toNat x9))))))) 28 5)) + ((g 8 (Int.toNat x9))))))) 28 6 ((if (g 8 (Int.toNat x9)) < ((up (up (up (up g 28 0 ((w32 (((g 28 0)) + 1)))) 28 2 ((w32 ((((up g 28 0 ((w32 (((g 28 0)) + 1)))) 28 2)) + 0)))) 28 3 ((w32 ((((up (up g 28 0 ((w32 (((g 28 0)) + 1)))) 28 2 ((w32 ((((up g 28 0 ((w32 (((g 28 0)) + 1)))) 28 2)) + 0)))) 28 3)) + ((g 7 (Int.toNat x9))))))) 28 5 ((w32 ((((up (up (up g 28 0 ((w32 (((g 28 0)) + 1)))) 28 2 ((w32 ((((up g 28 0 ((w32 (((g 28 0)) + 1)))) 28 2)) + 0)))) 28 3 ((w32 ((((up (up g 28 0 ((w32 (((g 28 0)) + 1)))) 28 2 ((w32 ((((up g 28 0 ((w32 (((g 28 0)) + 1)))) 28 2)) + 0)))) 28 3)) + ((g 7 (Int.toNat x9))))))) 28 5)) + ((g 8 (Int.toNat x9))))))) 28 6) then (g 8 (Int.toNat x9)) else ((up (up (up (up g 28 0 ((w32 (((g 28 0)) + 1)))) 28 2 ((w32 ((((up g 28 0 ((w32 (((g 28 0)) + 1)))) 28 2)) + 0)))) 28 3 ((w32 ((((up (up g 28 0 ((w32 (((g 28 0)) + 1)))) 28 2 ((w32 ((((up g 28 0 ((w32 (((g 28 0)) + 1)))) 28 2)) + 0)))) 28 3)) + ((g 7 (Int.toNat x9))))))) 28 5 ((w32 ((((up (up (up g 28 0 ((w32 (((g 28 0)) + 1)))) 28 2 ((w32 ((((up g 28 0 ((w32 (((g 28 0)) + 1)))) 28 2)) + 0)))) 28 3 ((w32 ((((up (up g 28 0 ((w32 (((g 28 0)) + 1)))) 28 2 ((w32 ((((up g 28 0 ((w32 (((g 28 0)) + 1)))) 28 2)) + 0)))) 28 3)) + ((g 7 (Int.toNat x9))))))) 28 5)) + ((g 8 (Int.toNat x9))))))) 28 6))))))
        else none)
        else none)
        else none)
        else none)
        else none)
      else
        (if inb x9 40 = true then
          (if inb x9 40 = true then
          (if inb x9 40 = true then
          (if inb x9 40 = true then
          (if inb x9 40 = true then
          (Ev prog clsT X d mc76 24 [(2, 27), (2, 1), (1, x2), (3, 0), (3, 0), (0, x5), (0, (ior32 x6 ((ishl32 1 ((g 6 (Int.toNat x9))))))), (0, (if (g 7 (Int.toNat x9)) < x7 then (g 7 (Int.toNat x9)) else x7)), (0, (if x8 < (g 7 (Int.toNat x9)) then (g 7 (Int.toNat x9)) else x8)), (0, (w32 (x9 + 1)))] [] (mk E c s (PU (PU (PU (PU (PU (hh g) 28 0 ((w32 (((g 28 0)) + 1)))) 28 2 ((w32 ((((up g 28 0 ((w32 (((g 28 0)) + 1)))) 28 2)) + 1)))) 28 3 ((w32 ((((up (up g 28 0 ((w32 (((g 28 0)) + 1)))) 28 2 ((w32 ((((up g 28 0 ((w32 (((g 28 0)) + 1)))) 28 2)) + 1)))) 28 3)) + ((g 7 (Int.toNat x9))))))) 28 5 ((w32 ((((up (up (up g 28 0 ((w32 (((g 28 0)) + 1)))) 28 2 ((w32 ((((up g 28 0 ((w32 (((g 28 0)) + 1)))) 28 2)) + 1)))) 28 3 ((w32 ((((up (up g 28 0 ((w32 (((g 28 0)) + 1)))) 28 2 ((w32 ((((up g 28 0 ((w32 (((g 28 0)) + 1)))) 28 2)) + 1)))) 28 3)) + ((g 7 (Int.toNat x9))))))) 28 5)) + ((g 8 (Int.toNat x9))))))) 28 6 ((if (g 8 (Int.toNat x9)) < ((up (up (up (up g 28 0 ((w32 (((g 28 0)) + 1)))) 28 2 ((w32 ((((up g 28 0 ((w32 (((g 28 0)) + 1)))) 28 2)) + 1)))) 28 3 ((w32 ((((up (up g 28 0 ((w32 (((g 28 0)) + 1)))) 28 2 ((w32 ((((up g 28 0 ((w32 (((g 28 0)) + 1)))) 28 2)) + 1)))) 28 3)) + ((g 7 (Int.toNat x9))))))) 28 5 ((w32 ((((up (up (up g 28 0 ((w32 (((g 28 0)) + 1)))) 28 2 ((w32 ((((up g 28 0 ((w32 (((g 28 0)) + 1)))) 28 2)) + 1)))) 28 3 ((w32 ((((up (up g 28 0 ((w32 (((g 28 0)) + 1)))) 28 2 ((w32 ((((up g 28 0 ((w32 (((g 28 0)) + 1)))) 28 2)) + 1)))) 28 3)) + ((g 7 (Int.toNat x9))))))) 28 5)) + ((g 8 (Int.toNat x9))))))) 28 6) then (g 8 (Int.toNat x9)) else ((up (up (up (up g 28 0 ((w32 (((g 28 0)) + 1)))) 28 2 ((w32 ((((up g 28 0 ((w32 (((g 28 0)) + 1)))) 28 2)) + 1)))) 28 3 ((w32 ((((up (up g 28 0 ((w32 (((g 28 0)) + 1)))) 28 2 ((w32 ((((up g 28 0 ((w32 (((g 28 0)) + 1)))) 28 2)) + 1)))) 28 3)) + ((g 7 (Int.toNat x9))))))) 28 5 ((w32 ((((up (up (up g 28 0 ((w32 (((g 28 0)) + 1)))) 28 2 ((w32 ((((up g 28 0 ((w32 (((g 28 0)) + 1)))) 28 2)) + 1)))) 28 3 ((w32 ((((up (up g 28 0 ((w32 (((g 28 0)) + 1)))) 28 2 ((w32 ((((up g 28 0 ((w32 (((g 28 0)) + 1)))) 28 2)) + 1)))) 28 3)) + ((g 7 (Int.toNat x9))))))) 28 5)) + ((g 8 (Int.toNat x9))))))) 28 6))))))
        else none)
        else none)
        else none)
        else none)
        else none))
      else none))
    else none)
  else
    (Ev prog clsT X d mc76 24 [(2, 27), (2, 1), (1, x2), (3, 0), (3, 0), (0, x5), (0, x6), (0, x7), (0, x8), (0, (w32 (x9 + 1)))] [] (mk E c s (hh g))))))).trans (by simp only [hhP28])
theorem r76_128 (d : Nat) (x2 x5 x6 x7 x8 x9 s1 s2 : Int) : Ev prog clsT X d mc76 128 [(2, 27), (2, 1), (1, x2), (3, 0), (3, 0), (0, x5), (0, x6), (0, x7), (0, x8), (0, x9)] [(0, s2), (0, s1), (2, 28)] (mk E c s (hh g)) =
  (if inb s1 11 = true then
  (some ((3, 0), ((mk E c s (hh (up (up g 28 (Int.toNat s1) s2) 28 4 ((w32 (x8 - x7)))))))))
else none) :=
  (evk_at X [0, 17, 24, 128] 10 (rfl : _ = (if inb s1 11 = true then
  (some ((3, 0), ((mk E c s (PU (PU (hh g) 28 (Int.toNat s1) s2) 28 4 ((w32 (x8 - x7))))))))
else none))).trans (by simp only [hhP28])
theorem r194_0 (d : Nat) (x1 : Int) : Ev prog clsT X d mc194 0 [(2, 89), (0, x1), (3, 0), (3, 0), (3, 0), (3, 0)] [] (mk E c s (hh g)) =
  ((Call prog clsT X d 195 [(2, 89), (0, 0)] ((mk E c s (hh g)))).bind fun r1 => if r1.1.1 = 4 then none else
  Ev prog clsT X d mc194 5 [(2, 89), (0, x1), (0, 0), (3, 0), (3, 0), (3, 0)] (pushR r1.1 []) r1.2) :=
  evk_at X [0, 5, 10, 41, 51, 75, 108, 137, 143, 159, 181] 6 rfl
theorem rc194_ (d : Nat) (x1 : Int) : Call prog clsT X (d + 1) 194 [(2, 89), (0, x1)] (mk E c s (hh g)) =
  ((Call prog clsT X d 195 [(2, 89), (0, 0)] ((mk E c s (hh g)))).bind fun r1 => if r1.1.1 = 4 then none else
  Ev prog clsT X d mc194 5 [(2, 89), (0, x1), (0, 0), (3, 0), (3, 0), (3, 0)] (pushR r1.1 []) r1.2) :=
  (show Call prog clsT X (d + 1) 194 [(2, 89), (0, x1)] (mk E c s (hh g)) = Ev prog clsT X d mc194 0 [(2, 89), (0, x1), (3, 0), (3, 0), (3, 0), (3, 0)] [] (mk E c s (hh g)) from rfl).trans (r194_0 X E c s g d x1 )
theorem r194_5 (d : Nat) (x1 x2 : Int) : Ev prog clsT X d mc194 5 [(2, 89), (0, x1), (0, x2), (3, 0), (3, 0), (3, 0)] [] (mk E c s (hh g)) =
  (if inb x1 117 = true then
  (Ev prog clsT X d mc194 10 [(2, 89), (0, x1), (0, x2), (0, (g 112 (Int.toNat x1))), (3, 0), (3, 0)] [] (mk E c s (hh g)))
else none) :=
  evk_at X [0, 5, 10, 41, 51, 75, 108, 137, 143, 159, 181] 7 rfl
set_option maxRecDepth 100000 in
theorem r194_10 (d : Nat) (x1 x2 x3 : Int) (w4 w5 : MV) : Ev prog clsT X d mc194 10 [(2, 89), (0, x1), (0, x2), (0, x3), w4, w5] [] (mk E c s (hh g)) =
  (if inb x1 117 = true then
  (if cmpI .ge x3 ((g 113 (Int.toNat x1))) = true then
  ((Call prog clsT X d 197 [(2, 89), (0, 0)] ((mk E c s (hh g)))).bind fun r1 => if r1.1.1 = 4 then none else
    Ev prog clsT X d mc194 181 [(2, 89), (0, x1), (0, x2), (0, x3), (3, 0), (3, 0)] (pushR r1.1 []) r1.2)
else
  (if inb x3 13000 = true then
    (if cmpI .eq ((g 114 (Int.toNat x3))) 28 = true then
    (if cmpI .ne ((g 114 (Int.toNat x3))) 30 = true then
      (if inb ((w32 (x2 + 1))) 7 = true then
        ((Call prog clsT X d 195 [(2, 89), (0, (w32 (x2 + 1)))] ((mk E c s (hh (up g 125 (Int.toNat ((w32 (x2 + 1)))) 0))))).bind fun r2 => if r2.1.1 = 4 then none else
        Ev prog clsT X d mc194 41 [(2, 89), (0, x1), (0, (w32 (x2 + 1))), (0, x3), (0, (g 114 (Int.toNat x3))), (3, 0)] (pushR r2.1 []) r2.2)
      else none)
    else
      (if inb ((w32 (x2 + 1))) 7 = true then
        ((Call prog clsT X d 195 [(2, 89), (0, (w32 (x2 + 1)))] ((mk E c s (hh (up g 125 (Int.toNat ((w32 (x2 + 1)))) 1))))).bind fun r3 => if r3.1.1 = 4 then none else
        Ev prog clsT X d mc194 41 [(2, 89), (0, x1), (0, (w32 (x2 + 1))), (0, x3), (0, (g 114 (Int.toNat x3))), (3, 0)] (pushR r3.1 []) r3.2)
      else none))
  else
    (if cmpI .ne ((g 114 (Int.toNat x3))) 30 = true then
      (if cmpI .eq ((g 114 (Int.toNat x3))) 20 = true then
        ((Call prog clsT X d 196 [(2, 89), (0, x2)] ((mk E c s (hh g)))).bind fun r4 => if r4.1.1 = 4 then none else
          Ev prog clsT X d mc194 51 [(2, 89), (0, x1), (0, x2), (0, x3), (0, (g 114 (Int.toNat x3))), (3, 0)] (pushR r4.1 []) r4.2)
      else
        (if cmpI .ne ((g 114 (Int.toNat x3))) 21 = true then
          (if cmpI .ne ((g 114 (Int.toNat x3))) 22 = true then
            (if cmpI .eq ((g 114 (Int.toNat x3))) 24 = true then
              ((Call prog clsT X d 196 [(2, 89), (0, x2)] ((mk E c s (hh g)))).bind fun r5 => if r5.1.1 = 4 then none else
                Ev prog clsT X d mc194 75 [(2, 89), (0, x1), (0, x2), (0, x3), (0, (g 114 (Int.toNat x3))), (3, 0)] (pushR r5.1 []) r5.2)
            else
              (if cmpI .ne ((g 114 (Int.toNat x3))) 25 = true then
                (if cmpI .eq ((g 114 (Int.toNat x3))) 26 = true then
                  ((Call prog clsT X d 197 [(2, 89), (0, x2)] ((mk E c s (hh g)))).bind fun r6 => if r6.1.1 = 4 then none else
                    Ev prog clsT X d mc194 108 [(2, 89), (0, x1), (0, x2), (0, x3), (0, (g 114 (Int.toNat x3))), (3, 0)] (pushR r6.1 []) r6.2)
                else
                  (if cmpI .ne ((g 114 (Int.toNat x3))) 27 = true then
                    (if cmpI .lt ((g 114 (Int.toNat x3))) 100 = true then
                      (if cmpI .ge ((g 114 (Int.toNat x3))) 20 = true then
                        (if cmpI .ne ((g 114 (Int.toNat x3))) 29 = true then
                          (Ev prog clsT X d mc194 143 [(2, 89), (0, x1), (0, x2), (0, x3), (0, (g 114 (Int.toNat x3))), (0, 0)] [] (mk E c s (hh g)))
                        else
                          ((Call prog clsT X d 197 [(2, 89), (0, x2)] ((mk E c s (hh g)))).bind fun r7 => if r7.1.1 = 4 then none else
                            Ev prog clsT X d mc194 137 [(2, 89), (0, x1), (0, x2), (0, x3), (0, (g 114 (Int.toNat x3))), (0, 0)] (pushR r7.1 []) r7.2))
                      else
                        (if inb ((g 114 (Int.toNat x3))) 20 = true then
                          (if cmpI .ne ((g 114 (Int.toNat x3))) 29 = true then
                          (Ev prog clsT X d mc194 143 [(2, 89), (0, x1), (0, x2), (0, x3), (0, (g 114 (Int.toNat x3))), (0, (g 126 (Int.toNat ((g 114 (Int.toNat x3))))))] [] (mk E c s (hh g)))
                        else
                          ((Call prog clsT X d 197 [(2, 89), (0, x2)] ((mk E c s (hh g)))).bind fun r8 => if r8.1.1 = 4 then none else
                            Ev prog clsT X d mc194 137 [(2, 89), (0, x1), (0, x2), (0, x3), (0, (g 114 (Int.toNat x3))), (0, (g 126 (Int.toNat ((g 114 (Int.toNat x3))))))] (pushR r8.1 []) r8.2))
                        else none))
                    else
                      (if cmpI .ne ((g 114 (Int.toNat x3))) 29 = true then
                        (Ev prog clsT X d mc194 143 [(2, 89), (0, x1), (0, x2), (0, x3), (0, (g 114 (Int.toNat x3))), (0, (w32 (((g 114 (Int.toNat x3))) - 100)))] [] (mk E c s (hh g)))
                      else
                        ((Call prog clsT X d 197 [(2, 89), (0, x2)] ((mk E c s (hh g)))).bind fun r9 => if r9.1.1 = 4 then none else
                          Ev prog clsT X d mc194 137 [(2, 89), (0, x1), (0, x2), (0, x3), (0, (g 114 (Int.toNat x3))), (0, (w32 (((g 114 (Int.toNat x3))) - 100)))] (pushR r9.1 []) r9.2)))
                  else
                    ((Call prog clsT X d 197 [(2, 89), (0, x2)] ((mk E c s (hh g)))).bind fun r10 => if r10.1.1 = 4 then none else
                      Ev prog clsT X d mc194 108 [(2, 89), (0, x1), (0, x2), (0, x3), (0, (g 114 (Int.toNat x3))), (3, 0)] (pushR r10.1 []) r10.2)))
              else
                ((Call prog clsT X d 196 [(2, 89), (0, x2)] ((mk E c s (hh g)))).bind fun r11 => if r11.1.1 = 4 then none else
                  Ev prog clsT X d mc194 75 [(2, 89), (0, x1), (0, x2), (0, x3), (0, (g 114 (Int.toNat x3))), (3, 0)] (pushR r11.1 []) r11.2)))
          else
            (if inb x2 7 = true then
              (Ev prog clsT X d mc194 10 [(2, 89), (0, x1), (0, x2), (0, (w32 (x3 + 1))), (0, (g 114 (Int.toNat x3))), (3, 0)] [] (mk E c s (hh (up g 124 (Int.toNat x2) ((g 114 (Int.toNat x3)))))))
            else none))
        else
          ((Call prog clsT X d 196 [(2, 89), (0, x2)] ((mk E c s (hh g)))).bind fun r12 => if r12.1.1 = 4 then none else
            Ev prog clsT X d mc194 51 [(2, 89), (0, x1), (0, x2), (0, x3), (0, (g 114 (Int.toNat x3))), (3, 0)] (pushR r12.1 []) r12.2)))
    else
      (if cmpI .ne ((g 114 (Int.toNat x3))) 30 = true then
        (if inb ((w32 (x2 + 1))) 7 = true then
          ((Call prog clsT X d 195 [(2, 89), (0, (w32 (x2 + 1)))] ((mk E c s (hh (up g 125 (Int.toNat ((w32 (x2 + 1)))) 0))))).bind fun r13 => if r13.1.1 = 4 then none else
          Ev prog clsT X d mc194 41 [(2, 89), (0, x1), (0, (w32 (x2 + 1))), (0, x3), (0, (g 114 (Int.toNat x3))), (3, 0)] (pushR r13.1 []) r13.2)
        else none)
      else
        (if inb ((w32 (x2 + 1))) 7 = true then
          ((Call prog clsT X d 195 [(2, 89), (0, (w32 (x2 + 1)))] ((mk E c s (hh (up g 125 (Int.toNat ((w32 (x2 + 1)))) 1))))).bind fun r14 => if r14.1.1 = 4 then none else
          Ev prog clsT X d mc194 41 [(2, 89), (0, x1), (0, (w32 (x2 + 1))), (0, x3), (0, (g 114 (Int.toNat x3))), (3, 0)] (pushR r14.1 []) r14.2)
        else none))))
  else none))
else none) :=
  (evk_at X [0, 5, 10, 41, 51, 75, 108, 137, 143, 159, 181] 57 (rfl : _ = (if inb x1 117 = true then
  (if cmpI .ge x3 ((g 113 (Int.toNat x1))) = true then
  ((Call prog clsT X d 197 [(2, 89), (0, 0)] ((mk E c s (hh g)))).bind fun r1 => if r1.1.1 = 4 then none else
    Ev prog clsT X d mc194 181 [(2, 89), (0, x1), (0, x2), (0, x3), (3, 0), (3, 0)] (pushR r1.1 []) r1.2)
else
  (if inb x3 13000 = true then
    (if cmpI .eq ((g 114 (Int.toNat x3))) 28 = true then
    (if cmpI .ne ((g 114 (Int.toNat x3))) 30 = true then
      (if inb ((w32 (x2 + 1))) 7 = true then
        ((Call prog clsT X d 195 [(2, 89), (0, (w32 (x2 + 1)))] ((mk E c s (PU (hh g) 125 (Int.toNat ((w32 (x2 + 1)))) 0)))).bind fun r2 => if r2.1.1 = 4 then none else
        Ev prog clsT X d mc194 41 [(2, 89), (0, x1), (0, (w32 (x2 + 1))), (0, x3), (0, (g 114 (Int.toNat x3))), (3, 0)] (pushR r2.1 []) r2.2)
      else none)
    else
      (if inb ((w32 (x2 + 1))) 7 = true then
        ((Call prog clsT X d 195 [(2, 89), (0, (w32 (x2 + 1)))] ((mk E c s (PU (hh g) 125 (Int.toNat ((w32 (x2 + 1)))) 1)))).bind fun r3 => if r3.1.1 = 4 then none else
        Ev prog clsT X d mc194 41 [(2, 89), (0, x1), (0, (w32 (x2 + 1))), (0, x3), (0, (g 114 (Int.toNat x3))), (3, 0)] (pushR r3.1 []) r3.2)
      else none))
  else
    (if cmpI .ne ((g 114 (Int.toNat x3))) 30 = true then
      (if cmpI .eq ((g 114 (Int.toNat x3))) 20 = true then
        ((Call prog clsT X d 196 [(2, 89), (0, x2)] ((mk E c s (hh g)))).bind fun r4 => if r4.1.1 = 4 then none else
          Ev prog clsT X d mc194 51 [(2, 89), (0, x1), (0, x2), (0, x3), (0, (g 114 (Int.toNat x3))), (3, 0)] (pushR r4.1 []) r4.2)
      else
        (if cmpI .ne ((g 114 (Int.toNat x3))) 21 = true then
          (if cmpI .ne ((g 114 (Int.toNat x3))) 22 = true then
            (if cmpI .eq ((g 114 (Int.toNat x3))) 24 = true then
              ((Call prog clsT X d 196 [(2, 89), (0, x2)] ((mk E c s (hh g)))).bind fun r5 => if r5.1.1 = 4 then none else
                Ev prog clsT X d mc194 75 [(2, 89), (0, x1), (0, x2), (0, x3), (0, (g 114 (Int.toNat x3))), (3, 0)] (pushR r5.1 []) r5.2)
            else
              (if cmpI .ne ((g 114 (Int.toNat x3))) 25 = true then
                (if cmpI .eq ((g 114 (Int.toNat x3))) 26 = true then
                  ((Call prog clsT X d 197 [(2, 89), (0, x2)] ((mk E c s (hh g)))).bind fun r6 => if r6.1.1 = 4 then none else
                    Ev prog clsT X d mc194 108 [(2, 89), (0, x1), (0, x2), (0, x3), (0, (g 114 (Int.toNat x3))), (3, 0)] (pushR r6.1 []) r6.2)
                else
                  (if cmpI .ne ((g 114 (Int.toNat x3))) 27 = true then
                    (if cmpI .lt ((g 114 (Int.toNat x3))) 100 = true then
                      (if cmpI .ge ((g 114 (Int.toNat x3))) 20 = true then
                        (if cmpI .ne ((g 114 (Int.toNat x3))) 29 = true then
                          (Ev prog clsT X d mc194 143 [(2, 89), (0, x1), (0, x2), (0, x3), (0, (g 114 (Int.toNat x3))), (0, 0)] [] (mk E c s (hh g)))
                        else
                          ((Call prog clsT X d 197 [(2, 89), (0, x2)] ((mk E c s (hh g)))).bind fun r7 => if r7.1.1 = 4 then none else
                            Ev prog clsT X d mc194 137 [(2, 89), (0, x1), (0, x2), (0, x3), (0, (g 114 (Int.toNat x3))), (0, 0)] (pushR r7.1 []) r7.2))
                      else
                        (if inb ((g 114 (Int.toNat x3))) 20 = true then
                          (if cmpI .ne ((g 114 (Int.toNat x3))) 29 = true then
                          (Ev prog clsT X d mc194 143 [(2, 89), (0, x1), (0, x2), (0, x3), (0, (g 114 (Int.toNat x3))), (0, (g 126 (Int.toNat ((g 114 (Int.toNat x3))))))] [] (mk E c s (hh g)))
                        else
                          ((Call prog clsT X d 197 [(2, 89), (0, x2)] ((mk E c s (hh g)))).bind fun r8 => if r8.1.1 = 4 then none else
                            Ev prog clsT X d mc194 137 [(2, 89), (0, x1), (0, x2), (0, x3), (0, (g 114 (Int.toNat x3))), (0, (g 126 (Int.toNat ((g 114 (Int.toNat x3))))))] (pushR r8.1 []) r8.2))
                        else none))
                    else
                      (if cmpI .ne ((g 114 (Int.toNat x3))) 29 = true then
                        (Ev prog clsT X d mc194 143 [(2, 89), (0, x1), (0, x2), (0, x3), (0, (g 114 (Int.toNat x3))), (0, (w32 (((g 114 (Int.toNat x3))) - 100)))] [] (mk E c s (hh g)))
                      else
                        ((Call prog clsT X d 197 [(2, 89), (0, x2)] ((mk E c s (hh g)))).bind fun r9 => if r9.1.1 = 4 then none else
                          Ev prog clsT X d mc194 137 [(2, 89), (0, x1), (0, x2), (0, x3), (0, (g 114 (Int.toNat x3))), (0, (w32 (((g 114 (Int.toNat x3))) - 100)))] (pushR r9.1 []) r9.2)))
                  else
                    ((Call prog clsT X d 197 [(2, 89), (0, x2)] ((mk E c s (hh g)))).bind fun r10 => if r10.1.1 = 4 then none else
                      Ev prog clsT X d mc194 108 [(2, 89), (0, x1), (0, x2), (0, x3), (0, (g 114 (Int.toNat x3))), (3, 0)] (pushR r10.1 []) r10.2)))
              else
                ((Call prog clsT X d 196 [(2, 89), (0, x2)] ((mk E c s (hh g)))).bind fun r11 => if r11.1.1 = 4 then none else
                  Ev prog clsT X d mc194 75 [(2, 89), (0, x1), (0, x2), (0, x3), (0, (g 114 (Int.toNat x3))), (3, 0)] (pushR r11.1 []) r11.2)))
          else
            (if inb x2 7 = true then
              (Ev prog clsT X d mc194 10 [(2, 89), (0, x1), (0, x2), (0, (w32 (x3 + 1))), (0, (g 114 (Int.toNat x3))), (3, 0)] [] (mk E c s (PU (hh g) 124 (Int.toNat x2) ((g 114 (Int.toNat x3))))))
            else none))
        else
          ((Call prog clsT X d 196 [(2, 89), (0, x2)] ((mk E c s (hh g)))).bind fun r12 => if r12.1.1 = 4 then none else
            Ev prog clsT X d mc194 51 [(2, 89), (0, x1), (0, x2), (0, x3), (0, (g 114 (Int.toNat x3))), (3, 0)] (pushR r12.1 []) r12.2)))
    else
      (if cmpI .ne ((g 114 (Int.toNat x3))) 30 = true then
        (if inb ((w32 (x2 + 1))) 7 = true then
          ((Call prog clsT X d 195 [(2, 89), (0, (w32 (x2 + 1)))] ((mk E c s (PU (hh g) 125 (Int.toNat ((w32 (x2 + 1)))) 0)))).bind fun r13 => if r13.1.1 = 4 then none else
          Ev prog clsT X d mc194 41 [(2, 89), (0, x1), (0, (w32 (x2 + 1))), (0, x3), (0, (g 114 (Int.toNat x3))), (3, 0)] (pushR r13.1 []) r13.2)
        else none)
      else
        (if inb ((w32 (x2 + 1))) 7 = true then
          ((Call prog clsT X d 195 [(2, 89), (0, (w32 (x2 + 1)))] ((mk E c s (PU (hh g) 125 (Int.toNat ((w32 (x2 + 1)))) 1)))).bind fun r14 => if r14.1.1 = 4 then none else
          Ev prog clsT X d mc194 41 [(2, 89), (0, x1), (0, (w32 (x2 + 1))), (0, x3), (0, (g 114 (Int.toNat x3))), (3, 0)] (pushR r14.1 []) r14.2)
        else none))))
  else none))
else none))).trans (by simp only [hhP124, hhP125])
theorem r194_41 (d : Nat) (x1 x2 x3 x4 : Int) : Ev prog clsT X d mc194 41 [(2, 89), (0, x1), (0, x2), (0, x3), (0, x4), (3, 0)] [] (mk E c s (hh g)) =
  (Ev prog clsT X d mc194 10 [(2, 89), (0, x1), (0, x2), (0, (w32 (x3 + 1))), (0, x4), (3, 0)] [] (mk E c s (hh g))) :=
  evk_at X [0, 5, 10, 41, 51, 75, 108, 137, 143, 159, 181] 5 rfl
theorem r194_51 (d : Nat) (x1 x2 x3 x4 : Int) : Ev prog clsT X d mc194 51 [(2, 89), (0, x1), (0, x2), (0, x3), (0, x4), (3, 0)] [] (mk E c s (hh g)) =
  (if inb x2 7 = true then
  (Ev prog clsT X d mc194 10 [(2, 89), (0, x1), (0, x2), (0, (w32 (x3 + 1))), (0, x4), (3, 0)] [] (mk E c s (hh (up g 122 (Int.toNat x2) x4))))
else none) :=
  (evk_at X [0, 5, 10, 41, 51, 75, 108, 137, 143, 159, 181] 10 (rfl : _ = (if inb x2 7 = true then
  (Ev prog clsT X d mc194 10 [(2, 89), (0, x1), (0, x2), (0, (w32 (x3 + 1))), (0, x4), (3, 0)] [] (mk E c s (PU (hh g) 122 (Int.toNat x2) x4)))
else none))).trans (by simp only [hhP122])
theorem r194_75 (d : Nat) (x1 x2 x3 x4 : Int) : Ev prog clsT X d mc194 75 [(2, 89), (0, x1), (0, x2), (0, x3), (0, x4), (3, 0)] [] (mk E c s (hh g)) =
  (if inb x2 7 = true then
  (if inb x2 7 = true then
  (if inb x2 7 = true then
  (if inb x2 7 = true then
  (if inb x2 7 = true then
  (Ev prog clsT X d mc194 10 [(2, 89), (0, x1), (0, x2), (0, (w32 (x3 + 1))), (0, x4), (3, 0)] [] (mk E c s (hh (up (up (up (up g 119 (Int.toNat x2) ((g 121 (Int.toNat x2)))) 120 (Int.toNat x2) x4) 121 (Int.toNat x2) 0) 122 (Int.toNat x2) 20))))
else none)
else none)
else none)
else none)
else none) :=
  (evk_at X [0, 5, 10, 41, 51, 75, 108, 137, 143, 159, 181] 28 (rfl : _ = (if inb x2 7 = true then
  (if inb x2 7 = true then
  (if inb x2 7 = true then
  (if inb x2 7 = true then
  (if inb x2 7 = true then
  (Ev prog clsT X d mc194 10 [(2, 89), (0, x1), (0, x2), (0, (w32 (x3 + 1))), (0, x4), (3, 0)] [] (mk E c s (PU (PU (PU (PU (hh g) 119 (Int.toNat x2) ((g 121 (Int.toNat x2)))) 120 (Int.toNat x2) x4) 121 (Int.toNat x2) 0) 122 (Int.toNat x2) 20)))
else none)
else none)
else none)
else none)
else none))).trans (by simp only [hhP119, hhP120, hhP121, hhP122])
theorem r194_108 (d : Nat) (x1 x2 x3 x4 : Int) : Ev prog clsT X d mc194 108 [(2, 89), (0, x1), (0, x2), (0, x3), (0, x4), (3, 0)] [] (mk E c s (hh g)) =
  (if inb x2 7 = true then
  (Ev prog clsT X d mc194 10 [(2, 89), (0, x1), (0, x2), (0, (w32 (x3 + 1))), (0, x4), (3, 0)] [] (mk E c s (hh (up g 118 (Int.toNat x2) x4))))
else none) :=
  (evk_at X [0, 5, 10, 41, 51, 75, 108, 137, 143, 159, 181] 10 (rfl : _ = (if inb x2 7 = true then
  (Ev prog clsT X d mc194 10 [(2, 89), (0, x1), (0, x2), (0, (w32 (x3 + 1))), (0, x4), (3, 0)] [] (mk E c s (PU (hh g) 118 (Int.toNat x2) x4)))
else none))).trans (by simp only [hhP118])
theorem r194_137 (d : Nat) (x1 x2 x3 x4 x5 : Int) : Ev prog clsT X d mc194 137 [(2, 89), (0, x1), (0, x2), (0, x3), (0, x4), (0, x5)] [] (mk E c s (hh g)) =
  (if inb x2 7 = true then
  (Ev prog clsT X d mc194 143 [(2, 89), (0, x1), (0, (w32 (x2 + (-1)))), (0, x3), (0, x4), (0, (g 117 (Int.toNat x2)))] [] (mk E c s (hh g)))
else none) :=
  evk_at X [0, 5, 10, 41, 51, 75, 108, 137, 143, 159, 181] 8 rfl
theorem r194_143 (d : Nat) (x1 x2 x3 x5 : Int) (w4 : MV) : Ev prog clsT X d mc194 143 [(2, 89), (0, x1), (0, x2), (0, x3), w4, (0, x5)] [] (mk E c s (hh g)) =
  (if cmpI .le x2 0 = true then
  (Ev prog clsT X d mc194 159 [(2, 89), (0, x1), (0, x2), (0, x3), (3, 0), (0, x5)] [] (mk E c s (hh g)))
else
  (if inb x2 7 = true then
    (if cmpI .ne ((g 125 (Int.toNat x2))) 1 = true then
    (Ev prog clsT X d mc194 159 [(2, 89), (0, x1), (0, x2), (0, x3), (3, 0), (0, x5)] [] (mk E c s (hh g)))
  else
    (if cmpI .ne x5 0 = true then
      (Ev prog clsT X d mc194 143 [(2, 89), (0, x1), (0, (w32 (x2 + (-1)))), (0, x3), (3, 0), (0, 0)] [] (mk E c s (hh g)))
    else
      (Ev prog clsT X d mc194 143 [(2, 89), (0, x1), (0, (w32 (x2 + (-1)))), (0, x3), (3, 0), (0, 1)] [] (mk E c s (hh g)))))
  else none)) :=
  evk_at X [0, 5, 10, 41, 51, 75, 108, 137, 143, 159, 181] 17 rfl
theorem r194_159 (d : Nat) (x1 x2 x3 x5 : Int) : Ev prog clsT X d mc194 159 [(2, 89), (0, x1), (0, x2), (0, x3), (3, 0), (0, x5)] [] (mk E c s (hh g)) =
  (if inb x2 7 = true then
  (if cmpI .ne ((g 124 (Int.toNat x2))) 0 = true then
  (if inb x2 7 = true then
    (if inb x2 7 = true then
    (Ev prog clsT X d mc194 10 [(2, 89), (0, x1), (0, x2), (0, (w32 (x3 + 1))), (3, 0), (0, x5)] [] (mk E c s (hh (up g 123 (Int.toNat x2) ((w32 (((g 123 (Int.toNat x2))) * x5)))))))
  else none)
  else none)
else
  (if inb x2 7 = true then
    (Ev prog clsT X d mc194 10 [(2, 89), (0, x1), (0, x2), (0, (w32 (x3 + 1))), (3, 0), (0, x5)] [] (mk E c s (hh (up g 123 (Int.toNat x2) x5))))
  else none))
else none) :=
  (evk_at X [0, 5, 10, 41, 51, 75, 108, 137, 143, 159, 181] 19 (rfl : _ = (if inb x2 7 = true then
  (if cmpI .ne ((g 124 (Int.toNat x2))) 0 = true then
  (if inb x2 7 = true then
    (if inb x2 7 = true then
    (Ev prog clsT X d mc194 10 [(2, 89), (0, x1), (0, x2), (0, (w32 (x3 + 1))), (3, 0), (0, x5)] [] (mk E c s (PU (hh g) 123 (Int.toNat x2) ((w32 (((g 123 (Int.toNat x2))) * x5))))))
  else none)
  else none)
else
  (if inb x2 7 = true then
    (Ev prog clsT X d mc194 10 [(2, 89), (0, x1), (0, x2), (0, (w32 (x3 + 1))), (3, 0), (0, x5)] [] (mk E c s (PU (hh g) 123 (Int.toNat x2) x5)))
  else none))
else none))).trans (by simp only [hhP123])
theorem r194_181 (d : Nat) (x1 x2 x3 : Int) : Ev prog clsT X d mc194 181 [(2, 89), (0, x1), (0, x2), (0, x3), (3, 0), (3, 0)] [] (mk E c s (hh g)) =
  (some ((0, (g 117 0)), ((mk E c s (hh g))))) :=
  evk_at X [0, 5, 10, 41, 51, 75, 108, 137, 143, 159, 181] 6 rfl
theorem r7_0 (d : Nat) : Ev prog clsT X d mc7 0 [(2, 55)] [] (mk E c s (hh g)) =
  (some ((3, 0), ((mk E c s (hh (cpy g 56 57 40)))))) :=
  (evk_at X [0] 10 (rfl : _ = (some ((3, 0), ((mk E c s (CPU (hh g) 56 57 40))))))).trans (by simp only [hhC (x := 56) (y := 57) rfl rfl])
theorem rc7_ (d : Nat) : Call prog clsT X (d + 1) 7 [(2, 55)] (mk E c s (hh g)) =
  (some ((3, 0), ((mk E c s (hh (cpy g 56 57 40)))))) :=
  (show Call prog clsT X (d + 1) 7 [(2, 55)] (mk E c s (hh g)) = Ev prog clsT X d mc7 0 [(2, 55)] [] (mk E c s (hh g)) from rfl).trans (r7_0 X E c s g d  )
theorem r28_0 (d : Nat) : Ev prog clsT X d mc28 0 [(2, 40), (3, 0), (3, 0)] [] (mk E c s (hh g)) =
  (Ev prog clsT X d mc28 4 [(2, 40), (0, 0), (0, 0)] [] (mk E c s (hh g))) :=
  evk_at X [0, 4, 38, 53] 6 rfl
theorem rc28_ (d : Nat) : Call prog clsT X (d + 1) 28 [(2, 40)] (mk E c s (hh g)) =
  (Ev prog clsT X d mc28 4 [(2, 40), (0, 0), (0, 0)] [] (mk E c s (hh g))) :=
  (show Call prog clsT X (d + 1) 28 [(2, 40)] (mk E c s (hh g)) = Ev prog clsT X d mc28 0 [(2, 40), (3, 0), (3, 0)] [] (mk E c s (hh g)) from rfl).trans (r28_0 X E c s g d  )
theorem r28_4 (d : Nat) (x1 x2 : Int) : Ev prog clsT X d mc28 4 [(2, 40), (0, x1), (0, x2)] [] (mk E c s (hh g)) =
  (if cmpI .ge x2 10 = true then
  (if cmpI .le x1 ((w32 (((w32 (((g 41 0)) + ((g 41 1))))) + ((g 41 2))))) = true then
    (Ev prog clsT X d mc28 38 [(2, 40), (0, x1), (0, 0)] [] (mk E c s (hh g)))
  else
    (some ((0, (-1)), ((mk E c s (hh g))))))
else
  (if inb x2 10 = true then
    (Ev prog clsT X d mc28 4 [(2, 40), (0, (w32 (x1 + ((if (g 45 (Int.toNat x2)) < 0 then 0 else (g 45 (Int.toNat x2))))))), (0, (w32 (x2 + 1)))] [] (mk E c s (hh g)))
  else none)) :=
  evk_at X [0, 4, 38, 53] 23 rfl
theorem r28_38 (d : Nat) (x2 : Int) (w1 : MV) : Ev prog clsT X d mc28 38 [(2, 40), w1, (0, x2)] [] (mk E c s (hh g)) =
  (if cmpI .gt x2 10 = true then
  (some ((0, (-1)), ((mk E c s (hh g)))))
else
  ((Call prog clsT X d 29 [(2, 40), (0, 0), (0, x2)] ((mk E c s (hh (cpy g 41 47 3))))).bind fun r1 => if r1.1.1 = 4 then none else
    Ev prog clsT X d mc28 53 [(2, 40), (3, 0), (0, x2)] (pushR r1.1 []) r1.2)) :=
  (evk_at X [0, 4, 38, 53] 16 (rfl : _ = (if cmpI .gt x2 10 = true then
  (some ((0, (-1)), ((mk E c s (hh g)))))
else
  ((Call prog clsT X d 29 [(2, 40), (0, 0), (0, x2)] ((mk E c s (CPU (hh g) 41 47 3)))).bind fun r1 => if r1.1.1 = 4 then none else
    Ev prog clsT X d mc28 53 [(2, 40), (3, 0), (0, x2)] (pushR r1.1 []) r1.2)))).trans (by simp only [hhC (x := 41) (y := 47) rfl rfl])
theorem r28_53 (d : Nat) (x2 s0 : Int) : Ev prog clsT X d mc28 53 [(2, 40), (3, 0), (0, x2)] [(0, s0)] (mk E c s (hh g)) =
  (if cmpI .eq s0 0 = true then
  (Ev prog clsT X d mc28 38 [(2, 40), (3, 0), (0, (w32 (x2 + 1)))] [] (mk E c s (hh g)))
else
  (some ((0, x2), ((mk E c s (hh g)))))) :=
  evk_at X [0, 4, 38, 53] 5 rfl
end
