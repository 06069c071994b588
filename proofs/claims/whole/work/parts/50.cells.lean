/-! Part 50: printed by wip/whole/emit6.py: the fixed cells. -/
def LAY : List (Nat × Nat) := [(11, 16), (10, 7), (100, 10), (100, 10), (102, 10), (100, 40), (100, 40), (100, 40), (100, 40), (5, 9), (103, 1000), (7, 8), (100, 6), (100, 11), (100, 11), (100, 0), (104, 10), (7, 8), (100, 6), (100, 11), (100, 11), (100, 0), (7, 8), (100, 6), (100, 11), (100, 11), (100, 0), (8, 2), (100, 11), (100, 32), (2, 7), (100, 40), (100, 40), (101, 40), (100, 40), (100, 40), (4, 4), (100, 4), (100, 24), (100, 10), (3, 7), (100, 3), (100, 10), (100, 10), (100, 50), (100, 10), (100, 10), (100, 3), (6, 7), (100, 10), (100, 10), (100, 10), (100, 4), (100, 4), (100, 4), (0, 11), (100, 40), (100, 40), (100, 40), (100, 40), (100, 3), (100, 3), (100, 10), (100, 10), (100, 10), (1, 8), (100, 11), (100, 11), (100, 3), (100, 15), (100, 4), (100, 3), (9, 6), (100, 4), (100, 4), (101, 4), (105, 4), (100, 40), (100, 40), (100, 40), (100, 40), (105, 4), (100, 10), (100, 10), (100, 10), (100, 10), (100, 10), (101, 1024), (100, 1024), (12, 87), (102, 10), (100, 10), (100, 10), (102, 10), (102, 40), (100, 40), (100, 40), (100, 40), (100, 40), (100, 40), (100, 40), (101, 40), (100, 40), (100, 40), (102, 40), (100, 1000), (102, 10), (100, 13), (100, 13), (100, 13), (102, 117), (100, 117), (100, 117), (100, 117), (100, 13000), (100, 7), (102, 7), (100, 7), (100, 7), (100, 7), (100, 7), (100, 7), (100, 7), (100, 7), (100, 7), (100, 7), (100, 20), (102, 4), (100, 4), (100, 24), (100, 10), (100, 3), (100, 10), (100, 10), (100, 10), (100, 3), (100, 10), (100, 10), (100, 4), (100, 4), (100, 4), (100, 10), (100, 3), (100, 3), (100, 10), (100, 10), (100, 3), (100, 15), (100, 40), (100, 10), (102, 2048), (100, 2048), (100, 50), (100, 4), (100, 4), (102, 160), (100, 160), (100, 40), (101, 1)]
/-- the fixed references -/
def ptrs (a : Nat) : List (Option Int) := match a with
  | 0 => [some 1, some 9, some 16, none, none, some 27, some 30, some 36, some 40, some 48, some 55, some 65, some 72, some 86, some 87, some 88]
  | 1 => [some 2, some 3, some 4, some 5, some 6, some 7, some 8]
  | 9 => [some 10, none, none, none, none, none, none, none, none]
  | 27 => [some 28, some 29]
  | 30 => [none, none, some 31, some 32, some 33, some 34, some 35]
  | 36 => [some 37, some 38, some 39, none]
  | 40 => [some 41, some 42, some 43, some 44, some 45, some 46, some 47]
  | 48 => [some 49, some 50, some 51, some 52, some 53, some 54, none]
  | 55 => [some 56, some 57, some 58, some 59, some 60, some 61, none, none, some 62, some 63, some 64]
  | 65 => [some 66, some 67, none, some 68, some 69, some 70, some 71, none]
  | 72 => [some 73, some 74, some 75, some 76, some 81, none]
  | 76 => [some 77, some 78, some 79, some 80]
  | 81 => [some 82, some 83, some 84, some 85]
  | 89 => [none, some 90, some 91, some 92, some 93, some 94, some 95, some 96, some 97, some 98, none, some 99, some 100, some 101, some 102, some 103, some 104, none, some 105, none, none, none, none, none, none, none, some 106, some 107, some 108, some 109, some 110, some 111, some 112, some 113, some 114, none, none, some 115, some 116, some 117, some 118, some 119, some 120, some 121, some 122, some 123, some 124, some 125, some 126, some 127, some 128, some 129, some 130, some 131, some 132, some 133, some 134, some 135, some 136, some 137, none, none, some 138, some 139, some 140, some 141, some 142, some 143, none, none, some 144, some 145, none, some 146, some 147, some 148, none, some 149, some 150, some 151, some 152, none, some 153, some 154, some 155, some 156, some 157]
  | _ => []
def hh (g : Nat → Nat → Int) : Nat → Nat → Int := fun a i => match (ptrs a)[i]? with
  | some (some v) => v
  | _ => g a i
def mk (E : List (Nat × Nat)) (c s : Nat) (h : Nat → Nat → Int) : Mem := (LAY ++ E, h, c, s)
def up (g : Nat → Nat → Int) (x i : Nat) (v : Int) : Nat → Nat → Int := fun a j => if a = x ∧ j = i then v else g a j
def PU (g : Nat → Nat → Int) (x i : Nat) (v : Int) : Nat → Nat → Int := fun a j => if a = x ∧ j = i then v else g a j
def dat (x i : Nat) : Bool := match (ptrs x)[i]? with | some (some _) => false | _ => true
theorem hhP {g : Nat → Nat → Int} {x i : Nat} {v : Int} (h : dat x i = true) : PU (hh g) x i v = hh (up g x i v) := by
  funext a j
  unfold PU hh up
  by_cases hc : a = x ∧ j = i
  · obtain ⟨rfl, rfl⟩ := hc
    unfold dat at h
    simp only [and_self, if_true]
    split
    · rename_i h2; rw [h2] at h; cases h
    · rfl
  · simp only [if_neg hc]
def cpy (g : Nat → Nat → Int) (x y n : Nat) : Nat → Nat → Int := fun a j => if a = y ∧ 0 ≤ j ∧ j < 0 + n then g x (0 + (j - 0)) else g a j
def CPU (g : Nat → Nat → Int) (x y n : Nat) : Nat → Nat → Int := fun a j => if a = y ∧ 0 ≤ j ∧ j < 0 + n then g x (0 + (j - 0)) else g a j
theorem hhC {g : Nat → Nat → Int} {x y n : Nat} (h1 : ptrs x = []) (h2 : ptrs y = []) : CPU (hh g) x y n = hh (cpy g x y n) := by
  funext a j
  unfold CPU hh cpy
  by_cases hc : a = y ∧ 0 ≤ j ∧ j < 0 + n
  · obtain ⟨rfl, h3⟩ := hc
    simp [h1, h2, h3]
  · simp only [if_neg hc]
theorem bindI {α β : Type} {p : Prop} [Decidable p] {a : α} {f : α → Option β} : (if p then some a else none).bind f = if p then f a else none := by split <;> rfl
theorem if_true_ {α : Type} {a b : α} : (if True then a else b) = a := if_pos trivial
theorem inbL (i : Int) (n : Nat) (h : inb i n = true) : (inb i n = true) = True := eq_true h
theorem up_cell {g : Nat → Nat → Int} {x i : Nat} {v : Int} {y j : Nat} (h : y ≠ x) : up g x i v y j = g y j := by unfold up; simp [h]
theorem up_place {g : Nat → Nat → Int} {x i : Nat} {v : Int} {y j : Nat} (h : j ≠ i) : up g x i v y j = g y j := by unfold up; simp [h]
theorem up_same {g : Nat → Nat → Int} {x i : Nat} {v : Int} : up g x i v x i = v := by unfold up; simp
theorem cpy_cell {g : Nat → Nat → Int} {x y n z j : Nat} (h : z ≠ y) : cpy g x y n z j = g z j := by unfold cpy; simp [h]
theorem hh_put {g : Nat → Nat → Int} {E : List (Nat × Nat)} {c s : Nat} (x i : Nat) (v : Int) (h : dat x i = true) : put (mk E c s (hh g)) (x : Int) i v = mk E c s (hh (up g x i v)) := by
  have e := hhP (g := g) (v := v) h
  show (LAY ++ E, PU (hh g) x i v, c, s) = _
  rw [e]; rfl
theorem dat_arr {x : Nat} (h : ptrs x = []) (i : Nat) : dat x i = true := by unfold dat; rw [h]; rfl
theorem F2_55 {E : List (Nat × Nat)} {c s : Nat} {g : Nat → Nat → Int} {k : Int → Option MRes} : (fget 2 (mk E c s (hh g)) 55).bind k = k 56 := rfl
theorem F6_55 {E : List (Nat × Nat)} {c s : Nat} {g : Nat → Nat → Int} {k : Int → Option MRes} : (fget 6 (mk E c s (hh g)) 55).bind k = k 57 := rfl
theorem F10_55 {E : List (Nat × Nat)} {c s : Nat} {g : Nat → Nat → Int} {k : Int → Option MRes} : (fget 10 (mk E c s (hh g)) 55).bind k = k 58 := rfl
theorem F14_55 {E : List (Nat × Nat)} {c s : Nat} {g : Nat → Nat → Int} {k : Int → Option MRes} : (fget 14 (mk E c s (hh g)) 55).bind k = k 59 := rfl
theorem F18_55 {E : List (Nat × Nat)} {c s : Nat} {g : Nat → Nat → Int} {k : Int → Option MRes} : (fget 18 (mk E c s (hh g)) 55).bind k = k 60 := rfl
theorem F22_55 {E : List (Nat × Nat)} {c s : Nat} {g : Nat → Nat → Int} {k : Int → Option MRes} : (fget 22 (mk E c s (hh g)) 55).bind k = k 61 := rfl
theorem F24_55 {E : List (Nat × Nat)} {c s : Nat} {g : Nat → Nat → Int} {k : Int → Option MRes} : (fget 24 (mk E c s (hh g)) 55).bind k = k (g 55 6) := rfl
theorem W24_55 {E : List (Nat × Nat)} {c s : Nat} {g : Nat → Nat → Int} {v : Int} {k : Mem → Option MRes} : (fput 24 (mk E c s (hh g)) 55 v).bind k = k (mk E c s (hh (up g 55 6 v))) := congrArg k (hh_put 55 6 v rfl)
theorem F28_55 {E : List (Nat × Nat)} {c s : Nat} {g : Nat → Nat → Int} {k : Int → Option MRes} : (fget 28 (mk E c s (hh g)) 55).bind k = k (g 55 7) := rfl
theorem W28_55 {E : List (Nat × Nat)} {c s : Nat} {g : Nat → Nat → Int} {v : Int} {k : Mem → Option MRes} : (fput 28 (mk E c s (hh g)) 55 v).bind k = k (mk E c s (hh (up g 55 7 v))) := congrArg k (hh_put 55 7 v rfl)
theorem F34_55 {E : List (Nat × Nat)} {c s : Nat} {g : Nat → Nat → Int} {k : Int → Option MRes} : (fget 34 (mk E c s (hh g)) 55).bind k = k 62 := rfl
theorem F38_55 {E : List (Nat × Nat)} {c s : Nat} {g : Nat → Nat → Int} {k : Int → Option MRes} : (fget 38 (mk E c s (hh g)) 55).bind k = k 63 := rfl
theorem F42_55 {E : List (Nat × Nat)} {c s : Nat} {g : Nat → Nat → Int} {k : Int → Option MRes} : (fget 42 (mk E c s (hh g)) 55).bind k = k 64 := rfl
theorem F514_65 {E : List (Nat × Nat)} {c s : Nat} {g : Nat → Nat → Int} {k : Int → Option MRes} : (fget 514 (mk E c s (hh g)) 65).bind k = k 66 := rfl
theorem F518_65 {E : List (Nat × Nat)} {c s : Nat} {g : Nat → Nat → Int} {k : Int → Option MRes} : (fget 518 (mk E c s (hh g)) 65).bind k = k 67 := rfl
theorem F520_65 {E : List (Nat × Nat)} {c s : Nat} {g : Nat → Nat → Int} {k : Int → Option MRes} : (fget 520 (mk E c s (hh g)) 65).bind k = k (g 65 2) := rfl
theorem W520_65 {E : List (Nat × Nat)} {c s : Nat} {g : Nat → Nat → Int} {v : Int} {k : Mem → Option MRes} : (fput 520 (mk E c s (hh g)) 65 v).bind k = k (mk E c s (hh (up g 65 2 v))) := congrArg k (hh_put 65 2 v rfl)
theorem F526_65 {E : List (Nat × Nat)} {c s : Nat} {g : Nat → Nat → Int} {k : Int → Option MRes} : (fget 526 (mk E c s (hh g)) 65).bind k = k 68 := rfl
theorem F530_65 {E : List (Nat × Nat)} {c s : Nat} {g : Nat → Nat → Int} {k : Int → Option MRes} : (fget 530 (mk E c s (hh g)) 65).bind k = k 69 := rfl
theorem F534_65 {E : List (Nat × Nat)} {c s : Nat} {g : Nat → Nat → Int} {k : Int → Option MRes} : (fget 534 (mk E c s (hh g)) 65).bind k = k 70 := rfl
theorem F538_65 {E : List (Nat × Nat)} {c s : Nat} {g : Nat → Nat → Int} {k : Int → Option MRes} : (fget 538 (mk E c s (hh g)) 65).bind k = k 71 := rfl
theorem F540_65 {E : List (Nat × Nat)} {c s : Nat} {g : Nat → Nat → Int} {k : Int → Option MRes} : (fget 540 (mk E c s (hh g)) 65).bind k = k (g 65 7) := rfl
theorem W540_65 {E : List (Nat × Nat)} {c s : Nat} {g : Nat → Nat → Int} {v : Int} {k : Mem → Option MRes} : (fput 540 (mk E c s (hh g)) 65 v).bind k = k (mk E c s (hh (up g 65 7 v))) := congrArg k (hh_put 65 7 v rfl)
theorem F1024_30 {E : List (Nat × Nat)} {c s : Nat} {g : Nat → Nat → Int} {k : Int → Option MRes} : (fget 1024 (mk E c s (hh g)) 30).bind k = k (g 30 0) := rfl
theorem W1024_30 {E : List (Nat × Nat)} {c s : Nat} {g : Nat → Nat → Int} {v : Int} {k : Mem → Option MRes} : (fput 1024 (mk E c s (hh g)) 30 v).bind k = k (mk E c s (hh (up g 30 0 v))) := congrArg k (hh_put 30 0 v rfl)
theorem F1029_30 {E : List (Nat × Nat)} {c s : Nat} {g : Nat → Nat → Int} {k : Int → Option MRes} : (fget 1029 (mk E c s (hh g)) 30).bind k = k (g 30 1) := rfl
theorem W1029_30 {E : List (Nat × Nat)} {c s : Nat} {g : Nat → Nat → Int} {v : Int} {k : Mem → Option MRes} : (fput 1029 (mk E c s (hh g)) 30 v).bind k = k (mk E c s (hh (up g 30 1 v))) := congrArg k (hh_put 30 1 v rfl)
theorem F1034_30 {E : List (Nat × Nat)} {c s : Nat} {g : Nat → Nat → Int} {k : Int → Option MRes} : (fget 1034 (mk E c s (hh g)) 30).bind k = k 31 := rfl
theorem F1038_30 {E : List (Nat × Nat)} {c s : Nat} {g : Nat → Nat → Int} {k : Int → Option MRes} : (fget 1038 (mk E c s (hh g)) 30).bind k = k 32 := rfl
theorem F1042_30 {E : List (Nat × Nat)} {c s : Nat} {g : Nat → Nat → Int} {k : Int → Option MRes} : (fget 1042 (mk E c s (hh g)) 30).bind k = k 33 := rfl
theorem F1046_30 {E : List (Nat × Nat)} {c s : Nat} {g : Nat → Nat → Int} {k : Int → Option MRes} : (fget 1046 (mk E c s (hh g)) 30).bind k = k 34 := rfl
theorem F1050_30 {E : List (Nat × Nat)} {c s : Nat} {g : Nat → Nat → Int} {k : Int → Option MRes} : (fget 1050 (mk E c s (hh g)) 30).bind k = k 35 := rfl
theorem F1538_40 {E : List (Nat × Nat)} {c s : Nat} {g : Nat → Nat → Int} {k : Int → Option MRes} : (fget 1538 (mk E c s (hh g)) 40).bind k = k 41 := rfl
theorem F1542_40 {E : List (Nat × Nat)} {c s : Nat} {g : Nat → Nat → Int} {k : Int → Option MRes} : (fget 1542 (mk E c s (hh g)) 40).bind k = k 42 := rfl
theorem F1546_40 {E : List (Nat × Nat)} {c s : Nat} {g : Nat → Nat → Int} {k : Int → Option MRes} : (fget 1546 (mk E c s (hh g)) 40).bind k = k 43 := rfl
theorem F1550_40 {E : List (Nat × Nat)} {c s : Nat} {g : Nat → Nat → Int} {k : Int → Option MRes} : (fget 1550 (mk E c s (hh g)) 40).bind k = k 44 := rfl
theorem F1554_40 {E : List (Nat × Nat)} {c s : Nat} {g : Nat → Nat → Int} {k : Int → Option MRes} : (fget 1554 (mk E c s (hh g)) 40).bind k = k 45 := rfl
theorem F1558_40 {E : List (Nat × Nat)} {c s : Nat} {g : Nat → Nat → Int} {k : Int → Option MRes} : (fget 1558 (mk E c s (hh g)) 40).bind k = k 46 := rfl
theorem F1562_40 {E : List (Nat × Nat)} {c s : Nat} {g : Nat → Nat → Int} {k : Int → Option MRes} : (fget 1562 (mk E c s (hh g)) 40).bind k = k 47 := rfl
theorem F2050_36 {E : List (Nat × Nat)} {c s : Nat} {g : Nat → Nat → Int} {k : Int → Option MRes} : (fget 2050 (mk E c s (hh g)) 36).bind k = k 37 := rfl
theorem F2054_36 {E : List (Nat × Nat)} {c s : Nat} {g : Nat → Nat → Int} {k : Int → Option MRes} : (fget 2054 (mk E c s (hh g)) 36).bind k = k 38 := rfl
theorem F2058_36 {E : List (Nat × Nat)} {c s : Nat} {g : Nat → Nat → Int} {k : Int → Option MRes} : (fget 2058 (mk E c s (hh g)) 36).bind k = k 39 := rfl
theorem F2060_36 {E : List (Nat × Nat)} {c s : Nat} {g : Nat → Nat → Int} {k : Int → Option MRes} : (fget 2060 (mk E c s (hh g)) 36).bind k = k (g 36 3) := rfl
theorem W2060_36 {E : List (Nat × Nat)} {c s : Nat} {g : Nat → Nat → Int} {v : Int} {k : Mem → Option MRes} : (fput 2060 (mk E c s (hh g)) 36 v).bind k = k (mk E c s (hh (up g 36 3 v))) := congrArg k (hh_put 36 3 v rfl)
theorem F2562_9 {E : List (Nat × Nat)} {c s : Nat} {g : Nat → Nat → Int} {k : Int → Option MRes} : (fget 2562 (mk E c s (hh g)) 9).bind k = k 10 := rfl
theorem F2564_9 {E : List (Nat × Nat)} {c s : Nat} {g : Nat → Nat → Int} {k : Int → Option MRes} : (fget 2564 (mk E c s (hh g)) 9).bind k = k (g 9 1) := rfl
theorem W2564_9 {E : List (Nat × Nat)} {c s : Nat} {g : Nat → Nat → Int} {v : Int} {k : Mem → Option MRes} : (fput 2564 (mk E c s (hh g)) 9 v).bind k = k (mk E c s (hh (up g 9 1 v))) := congrArg k (hh_put 9 1 v rfl)
theorem F2570_9 {E : List (Nat × Nat)} {c s : Nat} {g : Nat → Nat → Int} {k : Int → Option MRes} : (fget 2570 (mk E c s (hh g)) 9).bind k = k (g 9 2) := rfl
theorem W2570_9 {E : List (Nat × Nat)} {c s : Nat} {g : Nat → Nat → Int} {v : Int} {k : Mem → Option MRes} : (fput 2570 (mk E c s (hh g)) 9 v).bind k = k (mk E c s (hh (up g 9 2 v))) := congrArg k (hh_put 9 2 v rfl)
theorem F2572_9 {E : List (Nat × Nat)} {c s : Nat} {g : Nat → Nat → Int} {k : Int → Option MRes} : (fget 2572 (mk E c s (hh g)) 9).bind k = k (g 9 3) := rfl
theorem W2572_9 {E : List (Nat × Nat)} {c s : Nat} {g : Nat → Nat → Int} {v : Int} {k : Mem → Option MRes} : (fput 2572 (mk E c s (hh g)) 9 v).bind k = k (mk E c s (hh (up g 9 3 v))) := congrArg k (hh_put 9 3 v rfl)
theorem F2576_9 {E : List (Nat × Nat)} {c s : Nat} {g : Nat → Nat → Int} {k : Int → Option MRes} : (fget 2576 (mk E c s (hh g)) 9).bind k = k (g 9 4) := rfl
theorem W2576_9 {E : List (Nat × Nat)} {c s : Nat} {g : Nat → Nat → Int} {v : Int} {k : Mem → Option MRes} : (fput 2576 (mk E c s (hh g)) 9 v).bind k = k (mk E c s (hh (up g 9 4 v))) := congrArg k (hh_put 9 4 v rfl)
theorem F2580_9 {E : List (Nat × Nat)} {c s : Nat} {g : Nat → Nat → Int} {k : Int → Option MRes} : (fget 2580 (mk E c s (hh g)) 9).bind k = k (g 9 5) := rfl
theorem W2580_9 {E : List (Nat × Nat)} {c s : Nat} {g : Nat → Nat → Int} {v : Int} {k : Mem → Option MRes} : (fput 2580 (mk E c s (hh g)) 9 v).bind k = k (mk E c s (hh (up g 9 5 v))) := congrArg k (hh_put 9 5 v rfl)
theorem F2584_9 {E : List (Nat × Nat)} {c s : Nat} {g : Nat → Nat → Int} {k : Int → Option MRes} : (fget 2584 (mk E c s (hh g)) 9).bind k = k (g 9 6) := rfl
theorem W2584_9 {E : List (Nat × Nat)} {c s : Nat} {g : Nat → Nat → Int} {v : Int} {k : Mem → Option MRes} : (fput 2584 (mk E c s (hh g)) 9 v).bind k = k (mk E c s (hh (up g 9 6 v))) := congrArg k (hh_put 9 6 v rfl)
theorem F2588_9 {E : List (Nat × Nat)} {c s : Nat} {g : Nat → Nat → Int} {k : Int → Option MRes} : (fget 2588 (mk E c s (hh g)) 9).bind k = k (g 9 7) := rfl
theorem W2588_9 {E : List (Nat × Nat)} {c s : Nat} {g : Nat → Nat → Int} {v : Int} {k : Mem → Option MRes} : (fput 2588 (mk E c s (hh g)) 9 v).bind k = k (mk E c s (hh (up g 9 7 v))) := congrArg k (hh_put 9 7 v rfl)
theorem F2594_9 {E : List (Nat × Nat)} {c s : Nat} {g : Nat → Nat → Int} {k : Int → Option MRes} : (fget 2594 (mk E c s (hh g)) 9).bind k = k (g 9 8) := rfl
theorem W2594_9 {E : List (Nat × Nat)} {c s : Nat} {g : Nat → Nat → Int} {v : Int} {k : Mem → Option MRes} : (fput 2594 (mk E c s (hh g)) 9 v).bind k = k (mk E c s (hh (up g 9 8 v))) := congrArg k (hh_put 9 8 v rfl)
theorem F3074_48 {E : List (Nat × Nat)} {c s : Nat} {g : Nat → Nat → Int} {k : Int → Option MRes} : (fget 3074 (mk E c s (hh g)) 48).bind k = k 49 := rfl
theorem F3078_48 {E : List (Nat × Nat)} {c s : Nat} {g : Nat → Nat → Int} {k : Int → Option MRes} : (fget 3078 (mk E c s (hh g)) 48).bind k = k 50 := rfl
theorem F3082_48 {E : List (Nat × Nat)} {c s : Nat} {g : Nat → Nat → Int} {k : Int → Option MRes} : (fget 3082 (mk E c s (hh g)) 48).bind k = k 51 := rfl
theorem F3086_48 {E : List (Nat × Nat)} {c s : Nat} {g : Nat → Nat → Int} {k : Int → Option MRes} : (fget 3086 (mk E c s (hh g)) 48).bind k = k 52 := rfl
theorem F3090_48 {E : List (Nat × Nat)} {c s : Nat} {g : Nat → Nat → Int} {k : Int → Option MRes} : (fget 3090 (mk E c s (hh g)) 48).bind k = k 53 := rfl
theorem F3094_48 {E : List (Nat × Nat)} {c s : Nat} {g : Nat → Nat → Int} {k : Int → Option MRes} : (fget 3094 (mk E c s (hh g)) 48).bind k = k 54 := rfl
theorem F3096_48 {E : List (Nat × Nat)} {c s : Nat} {g : Nat → Nat → Int} {k : Int → Option MRes} : (fget 3096 (mk E c s (hh g)) 48).bind k = k (g 48 6) := rfl
theorem W3096_48 {E : List (Nat × Nat)} {c s : Nat} {g : Nat → Nat → Int} {v : Int} {k : Mem → Option MRes} : (fput 3096 (mk E c s (hh g)) 48 v).bind k = k (mk E c s (hh (up g 48 6 v))) := congrArg k (hh_put 48 6 v rfl)
theorem F4098_27 {E : List (Nat × Nat)} {c s : Nat} {g : Nat → Nat → Int} {k : Int → Option MRes} : (fget 4098 (mk E c s (hh g)) 27).bind k = k 28 := rfl
theorem F4102_27 {E : List (Nat × Nat)} {c s : Nat} {g : Nat → Nat → Int} {k : Int → Option MRes} : (fget 4102 (mk E c s (hh g)) 27).bind k = k 29 := rfl
theorem F4610_72 {E : List (Nat × Nat)} {c s : Nat} {g : Nat → Nat → Int} {k : Int → Option MRes} : (fget 4610 (mk E c s (hh g)) 72).bind k = k 73 := rfl
theorem F4614_72 {E : List (Nat × Nat)} {c s : Nat} {g : Nat → Nat → Int} {k : Int → Option MRes} : (fget 4614 (mk E c s (hh g)) 72).bind k = k 74 := rfl
theorem F4618_72 {E : List (Nat × Nat)} {c s : Nat} {g : Nat → Nat → Int} {k : Int → Option MRes} : (fget 4618 (mk E c s (hh g)) 72).bind k = k 75 := rfl
theorem F4622_72 {E : List (Nat × Nat)} {c s : Nat} {g : Nat → Nat → Int} {k : Int → Option MRes} : (fget 4622 (mk E c s (hh g)) 72).bind k = k 76 := rfl
theorem F4626_72 {E : List (Nat × Nat)} {c s : Nat} {g : Nat → Nat → Int} {k : Int → Option MRes} : (fget 4626 (mk E c s (hh g)) 72).bind k = k 81 := rfl
theorem F4628_72 {E : List (Nat × Nat)} {c s : Nat} {g : Nat → Nat → Int} {k : Int → Option MRes} : (fget 4628 (mk E c s (hh g)) 72).bind k = k (g 72 5) := rfl
theorem W4628_72 {E : List (Nat × Nat)} {c s : Nat} {g : Nat → Nat → Int} {v : Int} {k : Mem → Option MRes} : (fput 4628 (mk E c s (hh g)) 72 v).bind k = k (mk E c s (hh (up g 72 5 v))) := congrArg k (hh_put 72 5 v rfl)
theorem F5122_1 {E : List (Nat × Nat)} {c s : Nat} {g : Nat → Nat → Int} {k : Int → Option MRes} : (fget 5122 (mk E c s (hh g)) 1).bind k = k 2 := rfl
theorem F5126_1 {E : List (Nat × Nat)} {c s : Nat} {g : Nat → Nat → Int} {k : Int → Option MRes} : (fget 5126 (mk E c s (hh g)) 1).bind k = k 3 := rfl
theorem F5130_1 {E : List (Nat × Nat)} {c s : Nat} {g : Nat → Nat → Int} {k : Int → Option MRes} : (fget 5130 (mk E c s (hh g)) 1).bind k = k 4 := rfl
theorem F5134_1 {E : List (Nat × Nat)} {c s : Nat} {g : Nat → Nat → Int} {k : Int → Option MRes} : (fget 5134 (mk E c s (hh g)) 1).bind k = k 5 := rfl
theorem F5138_1 {E : List (Nat × Nat)} {c s : Nat} {g : Nat → Nat → Int} {k : Int → Option MRes} : (fget 5138 (mk E c s (hh g)) 1).bind k = k 6 := rfl
theorem F5142_1 {E : List (Nat × Nat)} {c s : Nat} {g : Nat → Nat → Int} {k : Int → Option MRes} : (fget 5142 (mk E c s (hh g)) 1).bind k = k 7 := rfl
theorem F5146_1 {E : List (Nat × Nat)} {c s : Nat} {g : Nat → Nat → Int} {k : Int → Option MRes} : (fget 5146 (mk E c s (hh g)) 1).bind k = k 8 := rfl
theorem F5634_0 {E : List (Nat × Nat)} {c s : Nat} {g : Nat → Nat → Int} {k : Int → Option MRes} : (fget 5634 (mk E c s (hh g)) 0).bind k = k 1 := rfl
theorem F5638_0 {E : List (Nat × Nat)} {c s : Nat} {g : Nat → Nat → Int} {k : Int → Option MRes} : (fget 5638 (mk E c s (hh g)) 0).bind k = k 9 := rfl
theorem F5642_0 {E : List (Nat × Nat)} {c s : Nat} {g : Nat → Nat → Int} {k : Int → Option MRes} : (fget 5642 (mk E c s (hh g)) 0).bind k = k 16 := rfl
theorem F5646_0 {E : List (Nat × Nat)} {c s : Nat} {g : Nat → Nat → Int} {k : Int → Option MRes} : (fget 5646 (mk E c s (hh g)) 0).bind k = k (g 0 3) := rfl
theorem W5646_0 {E : List (Nat × Nat)} {c s : Nat} {g : Nat → Nat → Int} {v : Int} {k : Mem → Option MRes} : (fput 5646 (mk E c s (hh g)) 0 v).bind k = k (mk E c s (hh (up g 0 3 v))) := congrArg k (hh_put 0 3 v rfl)
theorem F5650_0 {E : List (Nat × Nat)} {c s : Nat} {g : Nat → Nat → Int} {k : Int → Option MRes} : (fget 5650 (mk E c s (hh g)) 0).bind k = k (g 0 4) := rfl
theorem W5650_0 {E : List (Nat × Nat)} {c s : Nat} {g : Nat → Nat → Int} {v : Int} {k : Mem → Option MRes} : (fput 5650 (mk E c s (hh g)) 0 v).bind k = k (mk E c s (hh (up g 0 4 v))) := congrArg k (hh_put 0 4 v rfl)
theorem F5654_0 {E : List (Nat × Nat)} {c s : Nat} {g : Nat → Nat → Int} {k : Int → Option MRes} : (fget 5654 (mk E c s (hh g)) 0).bind k = k 27 := rfl
theorem F5658_0 {E : List (Nat × Nat)} {c s : Nat} {g : Nat → Nat → Int} {k : Int → Option MRes} : (fget 5658 (mk E c s (hh g)) 0).bind k = k 30 := rfl
theorem F5662_0 {E : List (Nat × Nat)} {c s : Nat} {g : Nat → Nat → Int} {k : Int → Option MRes} : (fget 5662 (mk E c s (hh g)) 0).bind k = k 36 := rfl
theorem F5666_0 {E : List (Nat × Nat)} {c s : Nat} {g : Nat → Nat → Int} {k : Int → Option MRes} : (fget 5666 (mk E c s (hh g)) 0).bind k = k 40 := rfl
theorem F5670_0 {E : List (Nat × Nat)} {c s : Nat} {g : Nat → Nat → Int} {k : Int → Option MRes} : (fget 5670 (mk E c s (hh g)) 0).bind k = k 48 := rfl
theorem F5674_0 {E : List (Nat × Nat)} {c s : Nat} {g : Nat → Nat → Int} {k : Int → Option MRes} : (fget 5674 (mk E c s (hh g)) 0).bind k = k 55 := rfl
theorem F5678_0 {E : List (Nat × Nat)} {c s : Nat} {g : Nat → Nat → Int} {k : Int → Option MRes} : (fget 5678 (mk E c s (hh g)) 0).bind k = k 65 := rfl
theorem F5682_0 {E : List (Nat × Nat)} {c s : Nat} {g : Nat → Nat → Int} {k : Int → Option MRes} : (fget 5682 (mk E c s (hh g)) 0).bind k = k 72 := rfl
theorem F5686_0 {E : List (Nat × Nat)} {c s : Nat} {g : Nat → Nat → Int} {k : Int → Option MRes} : (fget 5686 (mk E c s (hh g)) 0).bind k = k 86 := rfl
theorem F5690_0 {E : List (Nat × Nat)} {c s : Nat} {g : Nat → Nat → Int} {k : Int → Option MRes} : (fget 5690 (mk E c s (hh g)) 0).bind k = k 87 := rfl
theorem F5694_0 {E : List (Nat × Nat)} {c s : Nat} {g : Nat → Nat → Int} {k : Int → Option MRes} : (fget 5694 (mk E c s (hh g)) 0).bind k = k 88 := rfl
theorem F6144_89 {E : List (Nat × Nat)} {c s : Nat} {g : Nat → Nat → Int} {k : Int → Option MRes} : (fget 6144 (mk E c s (hh g)) 89).bind k = k (g 89 0) := rfl
theorem W6144_89 {E : List (Nat × Nat)} {c s : Nat} {g : Nat → Nat → Int} {v : Int} {k : Mem → Option MRes} : (fput 6144 (mk E c s (hh g)) 89 v).bind k = k (mk E c s (hh (up g 89 0 v))) := congrArg k (hh_put 89 0 v rfl)
theorem F6150_89 {E : List (Nat × Nat)} {c s : Nat} {g : Nat → Nat → Int} {k : Int → Option MRes} : (fget 6150 (mk E c s (hh g)) 89).bind k = k 90 := rfl
theorem F6154_89 {E : List (Nat × Nat)} {c s : Nat} {g : Nat → Nat → Int} {k : Int → Option MRes} : (fget 6154 (mk E c s (hh g)) 89).bind k = k 91 := rfl
theorem F6158_89 {E : List (Nat × Nat)} {c s : Nat} {g : Nat → Nat → Int} {k : Int → Option MRes} : (fget 6158 (mk E c s (hh g)) 89).bind k = k 92 := rfl
theorem F6162_89 {E : List (Nat × Nat)} {c s : Nat} {g : Nat → Nat → Int} {k : Int → Option MRes} : (fget 6162 (mk E c s (hh g)) 89).bind k = k 93 := rfl
theorem F6166_89 {E : List (Nat × Nat)} {c s : Nat} {g : Nat → Nat → Int} {k : Int → Option MRes} : (fget 6166 (mk E c s (hh g)) 89).bind k = k 94 := rfl
theorem F6170_89 {E : List (Nat × Nat)} {c s : Nat} {g : Nat → Nat → Int} {k : Int → Option MRes} : (fget 6170 (mk E c s (hh g)) 89).bind k = k 95 := rfl
theorem F6174_89 {E : List (Nat × Nat)} {c s : Nat} {g : Nat → Nat → Int} {k : Int → Option MRes} : (fget 6174 (mk E c s (hh g)) 89).bind k = k 96 := rfl
theorem F6178_89 {E : List (Nat × Nat)} {c s : Nat} {g : Nat → Nat → Int} {k : Int → Option MRes} : (fget 6178 (mk E c s (hh g)) 89).bind k = k 97 := rfl
theorem F6182_89 {E : List (Nat × Nat)} {c s : Nat} {g : Nat → Nat → Int} {k : Int → Option MRes} : (fget 6182 (mk E c s (hh g)) 89).bind k = k 98 := rfl
theorem F6184_89 {E : List (Nat × Nat)} {c s : Nat} {g : Nat → Nat → Int} {k : Int → Option MRes} : (fget 6184 (mk E c s (hh g)) 89).bind k = k (g 89 10) := rfl
theorem W6184_89 {E : List (Nat × Nat)} {c s : Nat} {g : Nat → Nat → Int} {v : Int} {k : Mem → Option MRes} : (fput 6184 (mk E c s (hh g)) 89 v).bind k = k (mk E c s (hh (up g 89 10 v))) := congrArg k (hh_put 89 10 v rfl)
theorem F6190_89 {E : List (Nat × Nat)} {c s : Nat} {g : Nat → Nat → Int} {k : Int → Option MRes} : (fget 6190 (mk E c s (hh g)) 89).bind k = k 99 := rfl
theorem F6194_89 {E : List (Nat × Nat)} {c s : Nat} {g : Nat → Nat → Int} {k : Int → Option MRes} : (fget 6194 (mk E c s (hh g)) 89).bind k = k 100 := rfl
theorem F6198_89 {E : List (Nat × Nat)} {c s : Nat} {g : Nat → Nat → Int} {k : Int → Option MRes} : (fget 6198 (mk E c s (hh g)) 89).bind k = k 101 := rfl
theorem F6202_89 {E : List (Nat × Nat)} {c s : Nat} {g : Nat → Nat → Int} {k : Int → Option MRes} : (fget 6202 (mk E c s (hh g)) 89).bind k = k 102 := rfl
theorem F6206_89 {E : List (Nat × Nat)} {c s : Nat} {g : Nat → Nat → Int} {k : Int → Option MRes} : (fget 6206 (mk E c s (hh g)) 89).bind k = k 103 := rfl
theorem F6210_89 {E : List (Nat × Nat)} {c s : Nat} {g : Nat → Nat → Int} {k : Int → Option MRes} : (fget 6210 (mk E c s (hh g)) 89).bind k = k 104 := rfl
theorem F6212_89 {E : List (Nat × Nat)} {c s : Nat} {g : Nat → Nat → Int} {k : Int → Option MRes} : (fget 6212 (mk E c s (hh g)) 89).bind k = k (g 89 17) := rfl
theorem W6212_89 {E : List (Nat × Nat)} {c s : Nat} {g : Nat → Nat → Int} {v : Int} {k : Mem → Option MRes} : (fput 6212 (mk E c s (hh g)) 89 v).bind k = k (mk E c s (hh (up g 89 17 v))) := congrArg k (hh_put 89 17 v rfl)
theorem F6218_89 {E : List (Nat × Nat)} {c s : Nat} {g : Nat → Nat → Int} {k : Int → Option MRes} : (fget 6218 (mk E c s (hh g)) 89).bind k = k 105 := rfl
theorem F6220_89 {E : List (Nat × Nat)} {c s : Nat} {g : Nat → Nat → Int} {k : Int → Option MRes} : (fget 6220 (mk E c s (hh g)) 89).bind k = k (g 89 19) := rfl
theorem W6220_89 {E : List (Nat × Nat)} {c s : Nat} {g : Nat → Nat → Int} {v : Int} {k : Mem → Option MRes} : (fput 6220 (mk E c s (hh g)) 89 v).bind k = k (mk E c s (hh (up g 89 19 v))) := congrArg k (hh_put 89 19 v rfl)
theorem F6224_89 {E : List (Nat × Nat)} {c s : Nat} {g : Nat → Nat → Int} {k : Int → Option MRes} : (fget 6224 (mk E c s (hh g)) 89).bind k = k (g 89 20) := rfl
theorem W6224_89 {E : List (Nat × Nat)} {c s : Nat} {g : Nat → Nat → Int} {v : Int} {k : Mem → Option MRes} : (fput 6224 (mk E c s (hh g)) 89 v).bind k = k (mk E c s (hh (up g 89 20 v))) := congrArg k (hh_put 89 20 v rfl)
theorem F6228_89 {E : List (Nat × Nat)} {c s : Nat} {g : Nat → Nat → Int} {k : Int → Option MRes} : (fget 6228 (mk E c s (hh g)) 89).bind k = k (g 89 21) := rfl
theorem W6228_89 {E : List (Nat × Nat)} {c s : Nat} {g : Nat → Nat → Int} {v : Int} {k : Mem → Option MRes} : (fput 6228 (mk E c s (hh g)) 89 v).bind k = k (mk E c s (hh (up g 89 21 v))) := congrArg k (hh_put 89 21 v rfl)
theorem F6232_89 {E : List (Nat × Nat)} {c s : Nat} {g : Nat → Nat → Int} {k : Int → Option MRes} : (fget 6232 (mk E c s (hh g)) 89).bind k = k (g 89 22) := rfl
theorem W6232_89 {E : List (Nat × Nat)} {c s : Nat} {g : Nat → Nat → Int} {v : Int} {k : Mem → Option MRes} : (fput 6232 (mk E c s (hh g)) 89 v).bind k = k (mk E c s (hh (up g 89 22 v))) := congrArg k (hh_put 89 22 v rfl)
theorem F6237_89 {E : List (Nat × Nat)} {c s : Nat} {g : Nat → Nat → Int} {k : Int → Option MRes} : (fget 6237 (mk E c s (hh g)) 89).bind k = k (g 89 23) := rfl
theorem W6237_89 {E : List (Nat × Nat)} {c s : Nat} {g : Nat → Nat → Int} {v : Int} {k : Mem → Option MRes} : (fput 6237 (mk E c s (hh g)) 89 v).bind k = k (mk E c s (hh (up g 89 23 v))) := congrArg k (hh_put 89 23 v rfl)
theorem F6240_89 {E : List (Nat × Nat)} {c s : Nat} {g : Nat → Nat → Int} {k : Int → Option MRes} : (fget 6240 (mk E c s (hh g)) 89).bind k = k (g 89 24) := rfl
theorem W6240_89 {E : List (Nat × Nat)} {c s : Nat} {g : Nat → Nat → Int} {v : Int} {k : Mem → Option MRes} : (fput 6240 (mk E c s (hh g)) 89 v).bind k = k (mk E c s (hh (up g 89 24 v))) := congrArg k (hh_put 89 24 v rfl)
theorem F6244_89 {E : List (Nat × Nat)} {c s : Nat} {g : Nat → Nat → Int} {k : Int → Option MRes} : (fget 6244 (mk E c s (hh g)) 89).bind k = k (g 89 25) := rfl
theorem W6244_89 {E : List (Nat × Nat)} {c s : Nat} {g : Nat → Nat → Int} {v : Int} {k : Mem → Option MRes} : (fput 6244 (mk E c s (hh g)) 89 v).bind k = k (mk E c s (hh (up g 89 25 v))) := congrArg k (hh_put 89 25 v rfl)
theorem F6250_89 {E : List (Nat × Nat)} {c s : Nat} {g : Nat → Nat → Int} {k : Int → Option MRes} : (fget 6250 (mk E c s (hh g)) 89).bind k = k 106 := rfl
theorem F6254_89 {E : List (Nat × Nat)} {c s : Nat} {g : Nat → Nat → Int} {k : Int → Option MRes} : (fget 6254 (mk E c s (hh g)) 89).bind k = k 107 := rfl
theorem F6258_89 {E : List (Nat × Nat)} {c s : Nat} {g : Nat → Nat → Int} {k : Int → Option MRes} : (fget 6258 (mk E c s (hh g)) 89).bind k = k 108 := rfl
theorem F6262_89 {E : List (Nat × Nat)} {c s : Nat} {g : Nat → Nat → Int} {k : Int → Option MRes} : (fget 6262 (mk E c s (hh g)) 89).bind k = k 109 := rfl
theorem F6266_89 {E : List (Nat × Nat)} {c s : Nat} {g : Nat → Nat → Int} {k : Int → Option MRes} : (fget 6266 (mk E c s (hh g)) 89).bind k = k 110 := rfl
theorem F6270_89 {E : List (Nat × Nat)} {c s : Nat} {g : Nat → Nat → Int} {k : Int → Option MRes} : (fget 6270 (mk E c s (hh g)) 89).bind k = k 111 := rfl
theorem F6274_89 {E : List (Nat × Nat)} {c s : Nat} {g : Nat → Nat → Int} {k : Int → Option MRes} : (fget 6274 (mk E c s (hh g)) 89).bind k = k 112 := rfl
theorem F6278_89 {E : List (Nat × Nat)} {c s : Nat} {g : Nat → Nat → Int} {k : Int → Option MRes} : (fget 6278 (mk E c s (hh g)) 89).bind k = k 113 := rfl
theorem F6282_89 {E : List (Nat × Nat)} {c s : Nat} {g : Nat → Nat → Int} {k : Int → Option MRes} : (fget 6282 (mk E c s (hh g)) 89).bind k = k 114 := rfl
theorem F6284_89 {E : List (Nat × Nat)} {c s : Nat} {g : Nat → Nat → Int} {k : Int → Option MRes} : (fget 6284 (mk E c s (hh g)) 89).bind k = k (g 89 35) := rfl
theorem W6284_89 {E : List (Nat × Nat)} {c s : Nat} {g : Nat → Nat → Int} {v : Int} {k : Mem → Option MRes} : (fput 6284 (mk E c s (hh g)) 89 v).bind k = k (mk E c s (hh (up g 89 35 v))) := congrArg k (hh_put 89 35 v rfl)
theorem F6291_89 {E : List (Nat × Nat)} {c s : Nat} {g : Nat → Nat → Int} {k : Int → Option MRes} : (fget 6291 (mk E c s (hh g)) 89).bind k = k (g 89 36) := rfl
theorem W6291_89 {E : List (Nat × Nat)} {c s : Nat} {g : Nat → Nat → Int} {v : Int} {k : Mem → Option MRes} : (fput 6291 (mk E c s (hh g)) 89 v).bind k = k (mk E c s (hh (up g 89 36 v))) := congrArg k (hh_put 89 36 v rfl)
theorem F6294_89 {E : List (Nat × Nat)} {c s : Nat} {g : Nat → Nat → Int} {k : Int → Option MRes} : (fget 6294 (mk E c s (hh g)) 89).bind k = k 115 := rfl
theorem F6298_89 {E : List (Nat × Nat)} {c s : Nat} {g : Nat → Nat → Int} {k : Int → Option MRes} : (fget 6298 (mk E c s (hh g)) 89).bind k = k 116 := rfl
theorem F6302_89 {E : List (Nat × Nat)} {c s : Nat} {g : Nat → Nat → Int} {k : Int → Option MRes} : (fget 6302 (mk E c s (hh g)) 89).bind k = k 117 := rfl
theorem F6306_89 {E : List (Nat × Nat)} {c s : Nat} {g : Nat → Nat → Int} {k : Int → Option MRes} : (fget 6306 (mk E c s (hh g)) 89).bind k = k 118 := rfl
theorem F6310_89 {E : List (Nat × Nat)} {c s : Nat} {g : Nat → Nat → Int} {k : Int → Option MRes} : (fget 6310 (mk E c s (hh g)) 89).bind k = k 119 := rfl
theorem F6314_89 {E : List (Nat × Nat)} {c s : Nat} {g : Nat → Nat → Int} {k : Int → Option MRes} : (fget 6314 (mk E c s (hh g)) 89).bind k = k 120 := rfl
theorem F6318_89 {E : List (Nat × Nat)} {c s : Nat} {g : Nat → Nat → Int} {k : Int → Option MRes} : (fget 6318 (mk E c s (hh g)) 89).bind k = k 121 := rfl
theorem F6322_89 {E : List (Nat × Nat)} {c s : Nat} {g : Nat → Nat → Int} {k : Int → Option MRes} : (fget 6322 (mk E c s (hh g)) 89).bind k = k 122 := rfl
theorem F6326_89 {E : List (Nat × Nat)} {c s : Nat} {g : Nat → Nat → Int} {k : Int → Option MRes} : (fget 6326 (mk E c s (hh g)) 89).bind k = k 123 := rfl
theorem F6330_89 {E : List (Nat × Nat)} {c s : Nat} {g : Nat → Nat → Int} {k : Int → Option MRes} : (fget 6330 (mk E c s (hh g)) 89).bind k = k 124 := rfl
theorem F6334_89 {E : List (Nat × Nat)} {c s : Nat} {g : Nat → Nat → Int} {k : Int → Option MRes} : (fget 6334 (mk E c s (hh g)) 89).bind k = k 125 := rfl
theorem F6338_89 {E : List (Nat × Nat)} {c s : Nat} {g : Nat → Nat → Int} {k : Int → Option MRes} : (fget 6338 (mk E c s (hh g)) 89).bind k = k 126 := rfl
theorem F6342_89 {E : List (Nat × Nat)} {c s : Nat} {g : Nat → Nat → Int} {k : Int → Option MRes} : (fget 6342 (mk E c s (hh g)) 89).bind k = k 127 := rfl
theorem F6346_89 {E : List (Nat × Nat)} {c s : Nat} {g : Nat → Nat → Int} {k : Int → Option MRes} : (fget 6346 (mk E c s (hh g)) 89).bind k = k 128 := rfl
theorem F6350_89 {E : List (Nat × Nat)} {c s : Nat} {g : Nat → Nat → Int} {k : Int → Option MRes} : (fget 6350 (mk E c s (hh g)) 89).bind k = k 129 := rfl
theorem F6354_89 {E : List (Nat × Nat)} {c s : Nat} {g : Nat → Nat → Int} {k : Int → Option MRes} : (fget 6354 (mk E c s (hh g)) 89).bind k = k 130 := rfl
theorem F6358_89 {E : List (Nat × Nat)} {c s : Nat} {g : Nat → Nat → Int} {k : Int → Option MRes} : (fget 6358 (mk E c s (hh g)) 89).bind k = k 131 := rfl
theorem F6362_89 {E : List (Nat × Nat)} {c s : Nat} {g : Nat → Nat → Int} {k : Int → Option MRes} : (fget 6362 (mk E c s (hh g)) 89).bind k = k 132 := rfl
theorem F6366_89 {E : List (Nat × Nat)} {c s : Nat} {g : Nat → Nat → Int} {k : Int → Option MRes} : (fget 6366 (mk E c s (hh g)) 89).bind k = k 133 := rfl
theorem F6370_89 {E : List (Nat × Nat)} {c s : Nat} {g : Nat → Nat → Int} {k : Int → Option MRes} : (fget 6370 (mk E c s (hh g)) 89).bind k = k 134 := rfl
theorem F6374_89 {E : List (Nat × Nat)} {c s : Nat} {g : Nat → Nat → Int} {k : Int → Option MRes} : (fget 6374 (mk E c s (hh g)) 89).bind k = k 135 := rfl
theorem F6378_89 {E : List (Nat × Nat)} {c s : Nat} {g : Nat → Nat → Int} {k : Int → Option MRes} : (fget 6378 (mk E c s (hh g)) 89).bind k = k 136 := rfl
theorem F6382_89 {E : List (Nat × Nat)} {c s : Nat} {g : Nat → Nat → Int} {k : Int → Option MRes} : (fget 6382 (mk E c s (hh g)) 89).bind k = k 137 := rfl
theorem F6384_89 {E : List (Nat × Nat)} {c s : Nat} {g : Nat → Nat → Int} {k : Int → Option MRes} : (fget 6384 (mk E c s (hh g)) 89).bind k = k (g 89 60) := rfl
theorem W6384_89 {E : List (Nat × Nat)} {c s : Nat} {g : Nat → Nat → Int} {v : Int} {k : Mem → Option MRes} : (fput 6384 (mk E c s (hh g)) 89 v).bind k = k (mk E c s (hh (up g 89 60 v))) := congrArg k (hh_put 89 60 v rfl)
theorem F6388_89 {E : List (Nat × Nat)} {c s : Nat} {g : Nat → Nat → Int} {k : Int → Option MRes} : (fget 6388 (mk E c s (hh g)) 89).bind k = k (g 89 61) := rfl
theorem W6388_89 {E : List (Nat × Nat)} {c s : Nat} {g : Nat → Nat → Int} {v : Int} {k : Mem → Option MRes} : (fput 6388 (mk E c s (hh g)) 89 v).bind k = k (mk E c s (hh (up g 89 61 v))) := congrArg k (hh_put 89 61 v rfl)
theorem F6394_89 {E : List (Nat × Nat)} {c s : Nat} {g : Nat → Nat → Int} {k : Int → Option MRes} : (fget 6394 (mk E c s (hh g)) 89).bind k = k 138 := rfl
theorem F6398_89 {E : List (Nat × Nat)} {c s : Nat} {g : Nat → Nat → Int} {k : Int → Option MRes} : (fget 6398 (mk E c s (hh g)) 89).bind k = k 139 := rfl
theorem F6402_89 {E : List (Nat × Nat)} {c s : Nat} {g : Nat → Nat → Int} {k : Int → Option MRes} : (fget 6402 (mk E c s (hh g)) 89).bind k = k 140 := rfl
theorem F6406_89 {E : List (Nat × Nat)} {c s : Nat} {g : Nat → Nat → Int} {k : Int → Option MRes} : (fget 6406 (mk E c s (hh g)) 89).bind k = k 141 := rfl
theorem F6410_89 {E : List (Nat × Nat)} {c s : Nat} {g : Nat → Nat → Int} {k : Int → Option MRes} : (fget 6410 (mk E c s (hh g)) 89).bind k = k 142 := rfl
theorem F6414_89 {E : List (Nat × Nat)} {c s : Nat} {g : Nat → Nat → Int} {k : Int → Option MRes} : (fget 6414 (mk E c s (hh g)) 89).bind k = k 143 := rfl
theorem F6416_89 {E : List (Nat × Nat)} {c s : Nat} {g : Nat → Nat → Int} {k : Int → Option MRes} : (fget 6416 (mk E c s (hh g)) 89).bind k = k (g 89 68) := rfl
theorem W6416_89 {E : List (Nat × Nat)} {c s : Nat} {g : Nat → Nat → Int} {v : Int} {k : Mem → Option MRes} : (fput 6416 (mk E c s (hh g)) 89 v).bind k = k (mk E c s (hh (up g 89 68 v))) := congrArg k (hh_put 89 68 v rfl)
theorem F6420_89 {E : List (Nat × Nat)} {c s : Nat} {g : Nat → Nat → Int} {k : Int → Option MRes} : (fget 6420 (mk E c s (hh g)) 89).bind k = k (g 89 69) := rfl
theorem W6420_89 {E : List (Nat × Nat)} {c s : Nat} {g : Nat → Nat → Int} {v : Int} {k : Mem → Option MRes} : (fput 6420 (mk E c s (hh g)) 89 v).bind k = k (mk E c s (hh (up g 89 69 v))) := congrArg k (hh_put 89 69 v rfl)
theorem F6426_89 {E : List (Nat × Nat)} {c s : Nat} {g : Nat → Nat → Int} {k : Int → Option MRes} : (fget 6426 (mk E c s (hh g)) 89).bind k = k 144 := rfl
theorem F6430_89 {E : List (Nat × Nat)} {c s : Nat} {g : Nat → Nat → Int} {k : Int → Option MRes} : (fget 6430 (mk E c s (hh g)) 89).bind k = k 145 := rfl
theorem F6432_89 {E : List (Nat × Nat)} {c s : Nat} {g : Nat → Nat → Int} {k : Int → Option MRes} : (fget 6432 (mk E c s (hh g)) 89).bind k = k (g 89 72) := rfl
theorem W6432_89 {E : List (Nat × Nat)} {c s : Nat} {g : Nat → Nat → Int} {v : Int} {k : Mem → Option MRes} : (fput 6432 (mk E c s (hh g)) 89 v).bind k = k (mk E c s (hh (up g 89 72 v))) := congrArg k (hh_put 89 72 v rfl)
theorem F6438_89 {E : List (Nat × Nat)} {c s : Nat} {g : Nat → Nat → Int} {k : Int → Option MRes} : (fget 6438 (mk E c s (hh g)) 89).bind k = k 146 := rfl
theorem F6442_89 {E : List (Nat × Nat)} {c s : Nat} {g : Nat → Nat → Int} {k : Int → Option MRes} : (fget 6442 (mk E c s (hh g)) 89).bind k = k 147 := rfl
theorem F6446_89 {E : List (Nat × Nat)} {c s : Nat} {g : Nat → Nat → Int} {k : Int → Option MRes} : (fget 6446 (mk E c s (hh g)) 89).bind k = k 148 := rfl
theorem F6448_89 {E : List (Nat × Nat)} {c s : Nat} {g : Nat → Nat → Int} {k : Int → Option MRes} : (fget 6448 (mk E c s (hh g)) 89).bind k = k (g 89 76) := rfl
theorem W6448_89 {E : List (Nat × Nat)} {c s : Nat} {g : Nat → Nat → Int} {v : Int} {k : Mem → Option MRes} : (fput 6448 (mk E c s (hh g)) 89 v).bind k = k (mk E c s (hh (up g 89 76 v))) := congrArg k (hh_put 89 76 v rfl)
theorem F6454_89 {E : List (Nat × Nat)} {c s : Nat} {g : Nat → Nat → Int} {k : Int → Option MRes} : (fget 6454 (mk E c s (hh g)) 89).bind k = k 149 := rfl
theorem F6458_89 {E : List (Nat × Nat)} {c s : Nat} {g : Nat → Nat → Int} {k : Int → Option MRes} : (fget 6458 (mk E c s (hh g)) 89).bind k = k 150 := rfl
theorem F6462_89 {E : List (Nat × Nat)} {c s : Nat} {g : Nat → Nat → Int} {k : Int → Option MRes} : (fget 6462 (mk E c s (hh g)) 89).bind k = k 151 := rfl
theorem F6466_89 {E : List (Nat × Nat)} {c s : Nat} {g : Nat → Nat → Int} {k : Int → Option MRes} : (fget 6466 (mk E c s (hh g)) 89).bind k = k 152 := rfl
theorem F6468_89 {E : List (Nat × Nat)} {c s : Nat} {g : Nat → Nat → Int} {k : Int → Option MRes} : (fget 6468 (mk E c s (hh g)) 89).bind k = k (g 89 81) := rfl
theorem W6468_89 {E : List (Nat × Nat)} {c s : Nat} {g : Nat → Nat → Int} {v : Int} {k : Mem → Option MRes} : (fput 6468 (mk E c s (hh g)) 89 v).bind k = k (mk E c s (hh (up g 89 81 v))) := congrArg k (hh_put 89 81 v rfl)
theorem F6474_89 {E : List (Nat × Nat)} {c s : Nat} {g : Nat → Nat → Int} {k : Int → Option MRes} : (fget 6474 (mk E c s (hh g)) 89).bind k = k 153 := rfl
theorem F6478_89 {E : List (Nat × Nat)} {c s : Nat} {g : Nat → Nat → Int} {k : Int → Option MRes} : (fget 6478 (mk E c s (hh g)) 89).bind k = k 154 := rfl
theorem F6482_89 {E : List (Nat × Nat)} {c s : Nat} {g : Nat → Nat → Int} {k : Int → Option MRes} : (fget 6482 (mk E c s (hh g)) 89).bind k = k 155 := rfl
theorem F6486_89 {E : List (Nat × Nat)} {c s : Nat} {g : Nat → Nat → Int} {k : Int → Option MRes} : (fget 6486 (mk E c s (hh g)) 89).bind k = k 156 := rfl
theorem F6490_89 {E : List (Nat × Nat)} {c s : Nat} {g : Nat → Nat → Int} {k : Int → Option MRes} : (fget 6490 (mk E c s (hh g)) 89).bind k = k 157 := rfl
theorem R0_12 {E : List (Nat × Nat)} {c s : Nat} {g : Nat → Nat → Int} : rcv (mk E c s (hh g)) 0 12 = true := rfl
theorem R1_11 {E : List (Nat × Nat)} {c s : Nat} {g : Nat → Nat → Int} : rcv (mk E c s (hh g)) 1 11 = true := rfl
theorem lay_2 {E : List (Nat × Nat)} {c s : Nat} {g : Nat → Nat → Int} : lay? (mk E c s (hh g)) 2 = (100, 10) := rfl
theorem L2 {X : MExt} {E : List (Nat × Nat)} {c s : Nat} {g : Nat → Nat → Int} {k : Int → Option MRes} : (alen X (mk E c s (hh g)) 2).bind k = k 10 := rfl
theorem A2 {X : MExt} {E : List (Nat × Nat)} {c s : Nat} {g : Nat → Nat → Int} {i : Int} {κ : Int → Option MRes} : (aget X 100 (mk E c s (hh g)) 2 i).bind κ = if inb i 10 = true then κ (g 2 (Int.toNat i)) else none := bindI
theorem S2 {E : List (Nat × Nat)} {c s : Nat} {g : Nat → Nat → Int} {i v : Int} {κ : Mem → Option MRes} : (aput 100 (mk E c s (hh g)) 2 i v).bind κ = if inb i 10 = true then κ (mk E c s (hh (up g 2 (Int.toNat i) v))) else none := by
  show (if inb i 10 = true then some (put (mk E c s (hh g)) (2 : Nat) (Int.toNat i) v) else none).bind κ = _
  rw [hh_put _ _ _ (dat_arr rfl _)]
  exact bindI
theorem lay_3 {E : List (Nat × Nat)} {c s : Nat} {g : Nat → Nat → Int} : lay? (mk E c s (hh g)) 3 = (100, 10) := rfl
theorem L3 {X : MExt} {E : List (Nat × Nat)} {c s : Nat} {g : Nat → Nat → Int} {k : Int → Option MRes} : (alen X (mk E c s (hh g)) 3).bind k = k 10 := rfl
theorem A3 {X : MExt} {E : List (Nat × Nat)} {c s : Nat} {g : Nat → Nat → Int} {i : Int} {κ : Int → Option MRes} : (aget X 100 (mk E c s (hh g)) 3 i).bind κ = if inb i 10 = true then κ (g 3 (Int.toNat i)) else none := bindI
theorem S3 {E : List (Nat × Nat)} {c s : Nat} {g : Nat → Nat → Int} {i v : Int} {κ : Mem → Option MRes} : (aput 100 (mk E c s (hh g)) 3 i v).bind κ = if inb i 10 = true then κ (mk E c s (hh (up g 3 (Int.toNat i) v))) else none := by
  show (if inb i 10 = true then some (put (mk E c s (hh g)) (3 : Nat) (Int.toNat i) v) else none).bind κ = _
  rw [hh_put _ _ _ (dat_arr rfl _)]
  exact bindI
theorem lay_4 {E : List (Nat × Nat)} {c s : Nat} {g : Nat → Nat → Int} : lay? (mk E c s (hh g)) 4 = (102, 10) := rfl
theorem L4 {X : MExt} {E : List (Nat × Nat)} {c s : Nat} {g : Nat → Nat → Int} {k : Int → Option MRes} : (alen X (mk E c s (hh g)) 4).bind k = k 10 := rfl
theorem A4 {X : MExt} {E : List (Nat × Nat)} {c s : Nat} {g : Nat → Nat → Int} {i : Int} {κ : Int → Option MRes} : (aget X 102 (mk E c s (hh g)) 4 i).bind κ = if inb i 10 = true then κ (g 4 (Int.toNat i)) else none := bindI
theorem S4 {E : List (Nat × Nat)} {c s : Nat} {g : Nat → Nat → Int} {i v : Int} {κ : Mem → Option MRes} : (aput 102 (mk E c s (hh g)) 4 i v).bind κ = if inb i 10 = true then κ (mk E c s (hh (up g 4 (Int.toNat i) v))) else none := by
  show (if inb i 10 = true then some (put (mk E c s (hh g)) (4 : Nat) (Int.toNat i) v) else none).bind κ = _
  rw [hh_put _ _ _ (dat_arr rfl _)]
  exact bindI
theorem lay_5 {E : List (Nat × Nat)} {c s : Nat} {g : Nat → Nat → Int} : lay? (mk E c s (hh g)) 5 = (100, 40) := rfl
theorem L5 {X : MExt} {E : List (Nat × Nat)} {c s : Nat} {g : Nat → Nat → Int} {k : Int → Option MRes} : (alen X (mk E c s (hh g)) 5).bind k = k 40 := rfl
theorem A5 {X : MExt} {E : List (Nat × Nat)} {c s : Nat} {g : Nat → Nat → Int} {i : Int} {κ : Int → Option MRes} : (aget X 100 (mk E c s (hh g)) 5 i).bind κ = if inb i 40 = true then κ (g 5 (Int.toNat i)) else none := bindI
theorem S5 {E : List (Nat × Nat)} {c s : Nat} {g : Nat → Nat → Int} {i v : Int} {κ : Mem → Option MRes} : (aput 100 (mk E c s (hh g)) 5 i v).bind κ = if inb i 40 = true then κ (mk E c s (hh (up g 5 (Int.toNat i) v))) else none := by
  show (if inb i 40 = true then some (put (mk E c s (hh g)) (5 : Nat) (Int.toNat i) v) else none).bind κ = _
  rw [hh_put _ _ _ (dat_arr rfl _)]
  exact bindI
theorem lay_6 {E : List (Nat × Nat)} {c s : Nat} {g : Nat → Nat → Int} : lay? (mk E c s (hh g)) 6 = (100, 40) := rfl
theorem L6 {X : MExt} {E : List (Nat × Nat)} {c s : Nat} {g : Nat → Nat → Int} {k : Int → Option MRes} : (alen X (mk E c s (hh g)) 6).bind k = k 40 := rfl
theorem A6 {X : MExt} {E : List (Nat × Nat)} {c s : Nat} {g : Nat → Nat → Int} {i : Int} {κ : Int → Option MRes} : (aget X 100 (mk E c s (hh g)) 6 i).bind κ = if inb i 40 = true then κ (g 6 (Int.toNat i)) else none := bindI
theorem S6 {E : List (Nat × Nat)} {c s : Nat} {g : Nat → Nat → Int} {i v : Int} {κ : Mem → Option MRes} : (aput 100 (mk E c s (hh g)) 6 i v).bind κ = if inb i 40 = true then κ (mk E c s (hh (up g 6 (Int.toNat i) v))) else none := by
  show (if inb i 40 = true then some (put (mk E c s (hh g)) (6 : Nat) (Int.toNat i) v) else none).bind κ = _
  rw [hh_put _ _ _ (dat_arr rfl _)]
  exact bindI
theorem lay_7 {E : List (Nat × Nat)} {c s : Nat} {g : Nat → Nat → Int} : lay? (mk E c s (hh g)) 7 = (100, 40) := rfl
theorem L7 {X : MExt} {E : List (Nat × Nat)} {c s : Nat} {g : Nat → Nat → Int} {k : Int → Option MRes} : (alen X (mk E c s (hh g)) 7).bind k = k 40 := rfl
theorem A7 {X : MExt} {E : List (Nat × Nat)} {c s : Nat} {g : Nat → Nat → Int} {i : Int} {κ : Int → Option MRes} : (aget X 100 (mk E c s (hh g)) 7 i).bind κ = if inb i 40 = true then κ (g 7 (Int.toNat i)) else none := bindI
theorem S7 {E : List (Nat × Nat)} {c s : Nat} {g : Nat → Nat → Int} {i v : Int} {κ : Mem → Option MRes} : (aput 100 (mk E c s (hh g)) 7 i v).bind κ = if inb i 40 = true then κ (mk E c s (hh (up g 7 (Int.toNat i) v))) else none := by
  show (if inb i 40 = true then some (put (mk E c s (hh g)) (7 : Nat) (Int.toNat i) v) else none).bind κ = _
  rw [hh_put _ _ _ (dat_arr rfl _)]
  exact bindI
theorem lay_8 {E : List (Nat × Nat)} {c s : Nat} {g : Nat → Nat → Int} : lay? (mk E c s (hh g)) 8 = (100, 40) := rfl
theorem L8 {X : MExt} {E : List (Nat × Nat)} {c s : Nat} {g : Nat → Nat → Int} {k : Int → Option MRes} : (alen X (mk E c s (hh g)) 8).bind k = k 40 := rfl
theorem A8 {X : MExt} {E : List (Nat × Nat)} {c s : Nat} {g : Nat → Nat → Int} {i : Int} {κ : Int → Option MRes} : (aget X 100 (mk E c s (hh g)) 8 i).bind κ = if inb i 40 = true then κ (g 8 (Int.toNat i)) else none := bindI
theorem S8 {E : List (Nat × Nat)} {c s : Nat} {g : Nat → Nat → Int} {i v : Int} {κ : Mem → Option MRes} : (aput 100 (mk E c s (hh g)) 8 i v).bind κ = if inb i 40 = true then κ (mk E c s (hh (up g 8 (Int.toNat i) v))) else none := by
  show (if inb i 40 = true then some (put (mk E c s (hh g)) (8 : Nat) (Int.toNat i) v) else none).bind κ = _
  rw [hh_put _ _ _ (dat_arr rfl _)]
  exact bindI
theorem R9_6 {E : List (Nat × Nat)} {c s : Nat} {g : Nat → Nat → Int} : rcv (mk E c s (hh g)) 9 6 = true := rfl
theorem lay_10 {E : List (Nat × Nat)} {c s : Nat} {g : Nat → Nat → Int} : lay? (mk E c s (hh g)) 10 = (103, 1000) := rfl
theorem L10 {X : MExt} {E : List (Nat × Nat)} {c s : Nat} {g : Nat → Nat → Int} {k : Int → Option MRes} : (alen X (mk E c s (hh g)) 10).bind k = k 1000 := rfl
theorem A10 {X : MExt} {E : List (Nat × Nat)} {c s : Nat} {g : Nat → Nat → Int} {i : Int} {κ : Int → Option MRes} : (aget X 103 (mk E c s (hh g)) 10 i).bind κ = if inb i 1000 = true then κ (g 10 (Int.toNat i)) else none := bindI
theorem S10 {E : List (Nat × Nat)} {c s : Nat} {g : Nat → Nat → Int} {i v : Int} {κ : Mem → Option MRes} : (aput 103 (mk E c s (hh g)) 10 i v).bind κ = if inb i 1000 = true then κ (mk E c s (hh (up g 10 (Int.toNat i) v))) else none := by
  show (if inb i 1000 = true then some (put (mk E c s (hh g)) (10 : Nat) (Int.toNat i) v) else none).bind κ = _
  rw [hh_put _ _ _ (dat_arr rfl _)]
  exact bindI
theorem lay_12 {E : List (Nat × Nat)} {c s : Nat} {g : Nat → Nat → Int} : lay? (mk E c s (hh g)) 12 = (100, 6) := rfl
theorem lay_13 {E : List (Nat × Nat)} {c s : Nat} {g : Nat → Nat → Int} : lay? (mk E c s (hh g)) 13 = (100, 11) := rfl
theorem lay_14 {E : List (Nat × Nat)} {c s : Nat} {g : Nat → Nat → Int} : lay? (mk E c s (hh g)) 14 = (100, 11) := rfl
theorem lay_15 {E : List (Nat × Nat)} {c s : Nat} {g : Nat → Nat → Int} : lay? (mk E c s (hh g)) 15 = (100, 0) := rfl
theorem lay_16 {E : List (Nat × Nat)} {c s : Nat} {g : Nat → Nat → Int} : lay? (mk E c s (hh g)) 16 = (104, 10) := rfl
theorem L16 {X : MExt} {E : List (Nat × Nat)} {c s : Nat} {g : Nat → Nat → Int} {k : Int → Option MRes} : (alen X (mk E c s (hh g)) 16).bind k = k 10 := rfl
theorem A16 {X : MExt} {E : List (Nat × Nat)} {c s : Nat} {g : Nat → Nat → Int} {i : Int} {κ : Int → Option MRes} : (aget X 104 (mk E c s (hh g)) 16 i).bind κ = if inb i 10 = true then κ (g 16 (Int.toNat i)) else none := bindI
theorem S16 {E : List (Nat × Nat)} {c s : Nat} {g : Nat → Nat → Int} {i v : Int} {κ : Mem → Option MRes} : (aput 104 (mk E c s (hh g)) 16 i v).bind κ = if inb i 10 = true then κ (mk E c s (hh (up g 16 (Int.toNat i) v))) else none := by
  show (if inb i 10 = true then some (put (mk E c s (hh g)) (16 : Nat) (Int.toNat i) v) else none).bind κ = _
  rw [hh_put _ _ _ (dat_arr rfl _)]
  exact bindI
theorem lay_18 {E : List (Nat × Nat)} {c s : Nat} {g : Nat → Nat → Int} : lay? (mk E c s (hh g)) 18 = (100, 6) := rfl
theorem lay_19 {E : List (Nat × Nat)} {c s : Nat} {g : Nat → Nat → Int} : lay? (mk E c s (hh g)) 19 = (100, 11) := rfl
theorem lay_20 {E : List (Nat × Nat)} {c s : Nat} {g : Nat → Nat → Int} : lay? (mk E c s (hh g)) 20 = (100, 11) := rfl
theorem lay_21 {E : List (Nat × Nat)} {c s : Nat} {g : Nat → Nat → Int} : lay? (mk E c s (hh g)) 21 = (100, 0) := rfl
theorem lay_23 {E : List (Nat × Nat)} {c s : Nat} {g : Nat → Nat → Int} : lay? (mk E c s (hh g)) 23 = (100, 6) := rfl
theorem lay_24 {E : List (Nat × Nat)} {c s : Nat} {g : Nat → Nat → Int} : lay? (mk E c s (hh g)) 24 = (100, 11) := rfl
theorem lay_25 {E : List (Nat × Nat)} {c s : Nat} {g : Nat → Nat → Int} : lay? (mk E c s (hh g)) 25 = (100, 11) := rfl
theorem lay_26 {E : List (Nat × Nat)} {c s : Nat} {g : Nat → Nat → Int} : lay? (mk E c s (hh g)) 26 = (100, 0) := rfl
theorem R27_9 {E : List (Nat × Nat)} {c s : Nat} {g : Nat → Nat → Int} : rcv (mk E c s (hh g)) 27 9 = true := rfl
theorem lay_28 {E : List (Nat × Nat)} {c s : Nat} {g : Nat → Nat → Int} : lay? (mk E c s (hh g)) 28 = (100, 11) := rfl
theorem L28 {X : MExt} {E : List (Nat × Nat)} {c s : Nat} {g : Nat → Nat → Int} {k : Int → Option MRes} : (alen X (mk E c s (hh g)) 28).bind k = k 11 := rfl
theorem A28 {X : MExt} {E : List (Nat × Nat)} {c s : Nat} {g : Nat → Nat → Int} {i : Int} {κ : Int → Option MRes} : (aget X 100 (mk E c s (hh g)) 28 i).bind κ = if inb i 11 = true then κ (g 28 (Int.toNat i)) else none := bindI
theorem S28 {E : List (Nat × Nat)} {c s : Nat} {g : Nat → Nat → Int} {i v : Int} {κ : Mem → Option MRes} : (aput 100 (mk E c s (hh g)) 28 i v).bind κ = if inb i 11 = true then κ (mk E c s (hh (up g 28 (Int.toNat i) v))) else none := by
  show (if inb i 11 = true then some (put (mk E c s (hh g)) (28 : Nat) (Int.toNat i) v) else none).bind κ = _
  rw [hh_put _ _ _ (dat_arr rfl _)]
  exact bindI
theorem lay_29 {E : List (Nat × Nat)} {c s : Nat} {g : Nat → Nat → Int} : lay? (mk E c s (hh g)) 29 = (100, 32) := rfl
theorem L29 {X : MExt} {E : List (Nat × Nat)} {c s : Nat} {g : Nat → Nat → Int} {k : Int → Option MRes} : (alen X (mk E c s (hh g)) 29).bind k = k 32 := rfl
theorem A29 {X : MExt} {E : List (Nat × Nat)} {c s : Nat} {g : Nat → Nat → Int} {i : Int} {κ : Int → Option MRes} : (aget X 100 (mk E c s (hh g)) 29 i).bind κ = if inb i 32 = true then κ (g 29 (Int.toNat i)) else none := bindI
theorem S29 {E : List (Nat × Nat)} {c s : Nat} {g : Nat → Nat → Int} {i v : Int} {κ : Mem → Option MRes} : (aput 100 (mk E c s (hh g)) 29 i v).bind κ = if inb i 32 = true then κ (mk E c s (hh (up g 29 (Int.toNat i) v))) else none := by
  show (if inb i 32 = true then some (put (mk E c s (hh g)) (29 : Nat) (Int.toNat i) v) else none).bind κ = _
  rw [hh_put _ _ _ (dat_arr rfl _)]
  exact bindI
theorem R30_3 {E : List (Nat × Nat)} {c s : Nat} {g : Nat → Nat → Int} : rcv (mk E c s (hh g)) 30 3 = true := rfl
theorem lay_31 {E : List (Nat × Nat)} {c s : Nat} {g : Nat → Nat → Int} : lay? (mk E c s (hh g)) 31 = (100, 40) := rfl
theorem L31 {X : MExt} {E : List (Nat × Nat)} {c s : Nat} {g : Nat → Nat → Int} {k : Int → Option MRes} : (alen X (mk E c s (hh g)) 31).bind k = k 40 := rfl
theorem A31 {X : MExt} {E : List (Nat × Nat)} {c s : Nat} {g : Nat → Nat → Int} {i : Int} {κ : Int → Option MRes} : (aget X 100 (mk E c s (hh g)) 31 i).bind κ = if inb i 40 = true then κ (g 31 (Int.toNat i)) else none := bindI
theorem S31 {E : List (Nat × Nat)} {c s : Nat} {g : Nat → Nat → Int} {i v : Int} {κ : Mem → Option MRes} : (aput 100 (mk E c s (hh g)) 31 i v).bind κ = if inb i 40 = true then κ (mk E c s (hh (up g 31 (Int.toNat i) v))) else none := by
  show (if inb i 40 = true then some (put (mk E c s (hh g)) (31 : Nat) (Int.toNat i) v) else none).bind κ = _
  rw [hh_put _ _ _ (dat_arr rfl _)]
  exact bindI
theorem lay_32 {E : List (Nat × Nat)} {c s : Nat} {g : Nat → Nat → Int} : lay? (mk E c s (hh g)) 32 = (100, 40) := rfl
theorem L32 {X : MExt} {E : List (Nat × Nat)} {c s : Nat} {g : Nat → Nat → Int} {k : Int → Option MRes} : (alen X (mk E c s (hh g)) 32).bind k = k 40 := rfl
theorem A32 {X : MExt} {E : List (Nat × Nat)} {c s : Nat} {g : Nat → Nat → Int} {i : Int} {κ : Int → Option MRes} : (aget X 100 (mk E c s (hh g)) 32 i).bind κ = if inb i 40 = true then κ (g 32 (Int.toNat i)) else none := bindI
theorem S32 {E : List (Nat × Nat)} {c s : Nat} {g : Nat → Nat → Int} {i v : Int} {κ : Mem → Option MRes} : (aput 100 (mk E c s (hh g)) 32 i v).bind κ = if inb i 40 = true then κ (mk E c s (hh (up g 32 (Int.toNat i) v))) else none := by
  show (if inb i 40 = true then some (put (mk E c s (hh g)) (32 : Nat) (Int.toNat i) v) else none).bind κ = _
  rw [hh_put _ _ _ (dat_arr rfl _)]
  exact bindI
theorem lay_33 {E : List (Nat × Nat)} {c s : Nat} {g : Nat → Nat → Int} : lay? (mk E c s (hh g)) 33 = (101, 40) := rfl
theorem L33 {X : MExt} {E : List (Nat × Nat)} {c s : Nat} {g : Nat → Nat → Int} {k : Int → Option MRes} : (alen X (mk E c s (hh g)) 33).bind k = k 40 := rfl
theorem A33 {X : MExt} {E : List (Nat × Nat)} {c s : Nat} {g : Nat → Nat → Int} {i : Int} {κ : Int → Option MRes} : (aget X 101 (mk E c s (hh g)) 33 i).bind κ = if inb i 40 = true then κ (g 33 (Int.toNat i)) else none := bindI
theorem S33 {E : List (Nat × Nat)} {c s : Nat} {g : Nat → Nat → Int} {i v : Int} {κ : Mem → Option MRes} : (aput 101 (mk E c s (hh g)) 33 i v).bind κ = if inb i 40 = true then κ (mk E c s (hh (up g 33 (Int.toNat i) v))) else none := by
  show (if inb i 40 = true then some (put (mk E c s (hh g)) (33 : Nat) (Int.toNat i) v) else none).bind κ = _
  rw [hh_put _ _ _ (dat_arr rfl _)]
  exact bindI
theorem lay_34 {E : List (Nat × Nat)} {c s : Nat} {g : Nat → Nat → Int} : lay? (mk E c s (hh g)) 34 = (100, 40) := rfl
theorem L34 {X : MExt} {E : List (Nat × Nat)} {c s : Nat} {g : Nat → Nat → Int} {k : Int → Option MRes} : (alen X (mk E c s (hh g)) 34).bind k = k 40 := rfl
theorem A34 {X : MExt} {E : List (Nat × Nat)} {c s : Nat} {g : Nat → Nat → Int} {i : Int} {κ : Int → Option MRes} : (aget X 100 (mk E c s (hh g)) 34 i).bind κ = if inb i 40 = true then κ (g 34 (Int.toNat i)) else none := bindI
theorem S34 {E : List (Nat × Nat)} {c s : Nat} {g : Nat → Nat → Int} {i v : Int} {κ : Mem → Option MRes} : (aput 100 (mk E c s (hh g)) 34 i v).bind κ = if inb i 40 = true then κ (mk E c s (hh (up g 34 (Int.toNat i) v))) else none := by
  show (if inb i 40 = true then some (put (mk E c s (hh g)) (34 : Nat) (Int.toNat i) v) else none).bind κ = _
  rw [hh_put _ _ _ (dat_arr rfl _)]
  exact bindI
theorem lay_35 {E : List (Nat × Nat)} {c s : Nat} {g : Nat → Nat → Int} : lay? (mk E c s (hh g)) 35 = (100, 40) := rfl
theorem L35 {X : MExt} {E : List (Nat × Nat)} {c s : Nat} {g : Nat → Nat → Int} {k : Int → Option MRes} : (alen X (mk E c s (hh g)) 35).bind k = k 40 := rfl
theorem A35 {X : MExt} {E : List (Nat × Nat)} {c s : Nat} {g : Nat → Nat → Int} {i : Int} {κ : Int → Option MRes} : (aget X 100 (mk E c s (hh g)) 35 i).bind κ = if inb i 40 = true then κ (g 35 (Int.toNat i)) else none := bindI
theorem S35 {E : List (Nat × Nat)} {c s : Nat} {g : Nat → Nat → Int} {i v : Int} {κ : Mem → Option MRes} : (aput 100 (mk E c s (hh g)) 35 i v).bind κ = if inb i 40 = true then κ (mk E c s (hh (up g 35 (Int.toNat i) v))) else none := by
  show (if inb i 40 = true then some (put (mk E c s (hh g)) (35 : Nat) (Int.toNat i) v) else none).bind κ = _
  rw [hh_put _ _ _ (dat_arr rfl _)]
  exact bindI
theorem R36_5 {E : List (Nat × Nat)} {c s : Nat} {g : Nat → Nat → Int} : rcv (mk E c s (hh g)) 36 5 = true := rfl
theorem lay_37 {E : List (Nat × Nat)} {c s : Nat} {g : Nat → Nat → Int} : lay? (mk E c s (hh g)) 37 = (100, 4) := rfl
theorem L37 {X : MExt} {E : List (Nat × Nat)} {c s : Nat} {g : Nat → Nat → Int} {k : Int → Option MRes} : (alen X (mk E c s (hh g)) 37).bind k = k 4 := rfl
theorem A37 {X : MExt} {E : List (Nat × Nat)} {c s : Nat} {g : Nat → Nat → Int} {i : Int} {κ : Int → Option MRes} : (aget X 100 (mk E c s (hh g)) 37 i).bind κ = if inb i 4 = true then κ (g 37 (Int.toNat i)) else none := bindI
theorem S37 {E : List (Nat × Nat)} {c s : Nat} {g : Nat → Nat → Int} {i v : Int} {κ : Mem → Option MRes} : (aput 100 (mk E c s (hh g)) 37 i v).bind κ = if inb i 4 = true then κ (mk E c s (hh (up g 37 (Int.toNat i) v))) else none := by
  show (if inb i 4 = true then some (put (mk E c s (hh g)) (37 : Nat) (Int.toNat i) v) else none).bind κ = _
  rw [hh_put _ _ _ (dat_arr rfl _)]
  exact bindI
theorem lay_38 {E : List (Nat × Nat)} {c s : Nat} {g : Nat → Nat → Int} : lay? (mk E c s (hh g)) 38 = (100, 24) := rfl
theorem L38 {X : MExt} {E : List (Nat × Nat)} {c s : Nat} {g : Nat → Nat → Int} {k : Int → Option MRes} : (alen X (mk E c s (hh g)) 38).bind k = k 24 := rfl
theorem A38 {X : MExt} {E : List (Nat × Nat)} {c s : Nat} {g : Nat → Nat → Int} {i : Int} {κ : Int → Option MRes} : (aget X 100 (mk E c s (hh g)) 38 i).bind κ = if inb i 24 = true then κ (g 38 (Int.toNat i)) else none := bindI
theorem S38 {E : List (Nat × Nat)} {c s : Nat} {g : Nat → Nat → Int} {i v : Int} {κ : Mem → Option MRes} : (aput 100 (mk E c s (hh g)) 38 i v).bind κ = if inb i 24 = true then κ (mk E c s (hh (up g 38 (Int.toNat i) v))) else none := by
  show (if inb i 24 = true then some (put (mk E c s (hh g)) (38 : Nat) (Int.toNat i) v) else none).bind κ = _
  rw [hh_put _ _ _ (dat_arr rfl _)]
  exact bindI
theorem lay_39 {E : List (Nat × Nat)} {c s : Nat} {g : Nat → Nat → Int} : lay? (mk E c s (hh g)) 39 = (100, 10) := rfl
theorem L39 {X : MExt} {E : List (Nat × Nat)} {c s : Nat} {g : Nat → Nat → Int} {k : Int → Option MRes} : (alen X (mk E c s (hh g)) 39).bind k = k 10 := rfl
theorem A39 {X : MExt} {E : List (Nat × Nat)} {c s : Nat} {g : Nat → Nat → Int} {i : Int} {κ : Int → Option MRes} : (aget X 100 (mk E c s (hh g)) 39 i).bind κ = if inb i 10 = true then κ (g 39 (Int.toNat i)) else none := bindI
theorem S39 {E : List (Nat × Nat)} {c s : Nat} {g : Nat → Nat → Int} {i v : Int} {κ : Mem → Option MRes} : (aput 100 (mk E c s (hh g)) 39 i v).bind κ = if inb i 10 = true then κ (mk E c s (hh (up g 39 (Int.toNat i) v))) else none := by
  show (if inb i 10 = true then some (put (mk E c s (hh g)) (39 : Nat) (Int.toNat i) v) else none).bind κ = _
  rw [hh_put _ _ _ (dat_arr rfl _)]
  exact bindI
theorem R40_4 {E : List (Nat × Nat)} {c s : Nat} {g : Nat → Nat → Int} : rcv (mk E c s (hh g)) 40 4 = true := rfl
theorem lay_41 {E : List (Nat × Nat)} {c s : Nat} {g : Nat → Nat → Int} : lay? (mk E c s (hh g)) 41 = (100, 3) := rfl
theorem L41 {X : MExt} {E : List (Nat × Nat)} {c s : Nat} {g : Nat → Nat → Int} {k : Int → Option MRes} : (alen X (mk E c s (hh g)) 41).bind k = k 3 := rfl
theorem A41 {X : MExt} {E : List (Nat × Nat)} {c s : Nat} {g : Nat → Nat → Int} {i : Int} {κ : Int → Option MRes} : (aget X 100 (mk E c s (hh g)) 41 i).bind κ = if inb i 3 = true then κ (g 41 (Int.toNat i)) else none := bindI
theorem S41 {E : List (Nat × Nat)} {c s : Nat} {g : Nat → Nat → Int} {i v : Int} {κ : Mem → Option MRes} : (aput 100 (mk E c s (hh g)) 41 i v).bind κ = if inb i 3 = true then κ (mk E c s (hh (up g 41 (Int.toNat i) v))) else none := by
  show (if inb i 3 = true then some (put (mk E c s (hh g)) (41 : Nat) (Int.toNat i) v) else none).bind κ = _
  rw [hh_put _ _ _ (dat_arr rfl _)]
  exact bindI
theorem lay_42 {E : List (Nat × Nat)} {c s : Nat} {g : Nat → Nat → Int} : lay? (mk E c s (hh g)) 42 = (100, 10) := rfl
theorem L42 {X : MExt} {E : List (Nat × Nat)} {c s : Nat} {g : Nat → Nat → Int} {k : Int → Option MRes} : (alen X (mk E c s (hh g)) 42).bind k = k 10 := rfl
theorem A42 {X : MExt} {E : List (Nat × Nat)} {c s : Nat} {g : Nat → Nat → Int} {i : Int} {κ : Int → Option MRes} : (aget X 100 (mk E c s (hh g)) 42 i).bind κ = if inb i 10 = true then κ (g 42 (Int.toNat i)) else none := bindI
theorem S42 {E : List (Nat × Nat)} {c s : Nat} {g : Nat → Nat → Int} {i v : Int} {κ : Mem → Option MRes} : (aput 100 (mk E c s (hh g)) 42 i v).bind κ = if inb i 10 = true then κ (mk E c s (hh (up g 42 (Int.toNat i) v))) else none := by
  show (if inb i 10 = true then some (put (mk E c s (hh g)) (42 : Nat) (Int.toNat i) v) else none).bind κ = _
  rw [hh_put _ _ _ (dat_arr rfl _)]
  exact bindI
theorem lay_43 {E : List (Nat × Nat)} {c s : Nat} {g : Nat → Nat → Int} : lay? (mk E c s (hh g)) 43 = (100, 10) := rfl
theorem L43 {X : MExt} {E : List (Nat × Nat)} {c s : Nat} {g : Nat → Nat → Int} {k : Int → Option MRes} : (alen X (mk E c s (hh g)) 43).bind k = k 10 := rfl
theorem A43 {X : MExt} {E : List (Nat × Nat)} {c s : Nat} {g : Nat → Nat → Int} {i : Int} {κ : Int → Option MRes} : (aget X 100 (mk E c s (hh g)) 43 i).bind κ = if inb i 10 = true then κ (g 43 (Int.toNat i)) else none := bindI
theorem S43 {E : List (Nat × Nat)} {c s : Nat} {g : Nat → Nat → Int} {i v : Int} {κ : Mem → Option MRes} : (aput 100 (mk E c s (hh g)) 43 i v).bind κ = if inb i 10 = true then κ (mk E c s (hh (up g 43 (Int.toNat i) v))) else none := by
  show (if inb i 10 = true then some (put (mk E c s (hh g)) (43 : Nat) (Int.toNat i) v) else none).bind κ = _
  rw [hh_put _ _ _ (dat_arr rfl _)]
  exact bindI
theorem lay_44 {E : List (Nat × Nat)} {c s : Nat} {g : Nat → Nat → Int} : lay? (mk E c s (hh g)) 44 = (100, 50) := rfl
theorem L44 {X : MExt} {E : List (Nat × Nat)} {c s : Nat} {g : Nat → Nat → Int} {k : Int → Option MRes} : (alen X (mk E c s (hh g)) 44).bind k = k 50 := rfl
theorem A44 {X : MExt} {E : List (Nat × Nat)} {c s : Nat} {g : Nat → Nat → Int} {i : Int} {κ : Int → Option MRes} : (aget X 100 (mk E c s (hh g)) 44 i).bind κ = if inb i 50 = true then κ (g 44 (Int.toNat i)) else none := bindI
theorem S44 {E : List (Nat × Nat)} {c s : Nat} {g : Nat → Nat → Int} {i v : Int} {κ : Mem → Option MRes} : (aput 100 (mk E c s (hh g)) 44 i v).bind κ = if inb i 50 = true then κ (mk E c s (hh (up g 44 (Int.toNat i) v))) else none := by
  show (if inb i 50 = true then some (put (mk E c s (hh g)) (44 : Nat) (Int.toNat i) v) else none).bind κ = _
  rw [hh_put _ _ _ (dat_arr rfl _)]
  exact bindI
theorem lay_45 {E : List (Nat × Nat)} {c s : Nat} {g : Nat → Nat → Int} : lay? (mk E c s (hh g)) 45 = (100, 10) := rfl
theorem L45 {X : MExt} {E : List (Nat × Nat)} {c s : Nat} {g : Nat → Nat → Int} {k : Int → Option MRes} : (alen X (mk E c s (hh g)) 45).bind k = k 10 := rfl
theorem A45 {X : MExt} {E : List (Nat × Nat)} {c s : Nat} {g : Nat → Nat → Int} {i : Int} {κ : Int → Option MRes} : (aget X 100 (mk E c s (hh g)) 45 i).bind κ = if inb i 10 = true then κ (g 45 (Int.toNat i)) else none := bindI
theorem S45 {E : List (Nat × Nat)} {c s : Nat} {g : Nat → Nat → Int} {i v : Int} {κ : Mem → Option MRes} : (aput 100 (mk E c s (hh g)) 45 i v).bind κ = if inb i 10 = true then κ (mk E c s (hh (up g 45 (Int.toNat i) v))) else none := by
  show (if inb i 10 = true then some (put (mk E c s (hh g)) (45 : Nat) (Int.toNat i) v) else none).bind κ = _
  rw [hh_put _ _ _ (dat_arr rfl _)]
  exact bindI
theorem lay_46 {E : List (Nat × Nat)} {c s : Nat} {g : Nat → Nat → Int} : lay? (mk E c s (hh g)) 46 = (100, 10) := rfl
theorem L46 {X : MExt} {E : List (Nat × Nat)} {c s : Nat} {g : Nat → Nat → Int} {k : Int → Option MRes} : (alen X (mk E c s (hh g)) 46).bind k = k 10 := rfl
theorem A46 {X : MExt} {E : List (Nat × Nat)} {c s : Nat} {g : Nat → Nat → Int} {i : Int} {κ : Int → Option MRes} : (aget X 100 (mk E c s (hh g)) 46 i).bind κ = if inb i 10 = true then κ (g 46 (Int.toNat i)) else none := bindI
theorem S46 {E : List (Nat × Nat)} {c s : Nat} {g : Nat → Nat → Int} {i v : Int} {κ : Mem → Option MRes} : (aput 100 (mk E c s (hh g)) 46 i v).bind κ = if inb i 10 = true then κ (mk E c s (hh (up g 46 (Int.toNat i) v))) else none := by
  show (if inb i 10 = true then some (put (mk E c s (hh g)) (46 : Nat) (Int.toNat i) v) else none).bind κ = _
  rw [hh_put _ _ _ (dat_arr rfl _)]
  exact bindI
theorem lay_47 {E : List (Nat × Nat)} {c s : Nat} {g : Nat → Nat → Int} : lay? (mk E c s (hh g)) 47 = (100, 3) := rfl
theorem L47 {X : MExt} {E : List (Nat × Nat)} {c s : Nat} {g : Nat → Nat → Int} {k : Int → Option MRes} : (alen X (mk E c s (hh g)) 47).bind k = k 3 := rfl
theorem A47 {X : MExt} {E : List (Nat × Nat)} {c s : Nat} {g : Nat → Nat → Int} {i : Int} {κ : Int → Option MRes} : (aget X 100 (mk E c s (hh g)) 47 i).bind κ = if inb i 3 = true then κ (g 47 (Int.toNat i)) else none := bindI
theorem S47 {E : List (Nat × Nat)} {c s : Nat} {g : Nat → Nat → Int} {i v : Int} {κ : Mem → Option MRes} : (aput 100 (mk E c s (hh g)) 47 i v).bind κ = if inb i 3 = true then κ (mk E c s (hh (up g 47 (Int.toNat i) v))) else none := by
  show (if inb i 3 = true then some (put (mk E c s (hh g)) (47 : Nat) (Int.toNat i) v) else none).bind κ = _
  rw [hh_put _ _ _ (dat_arr rfl _)]
  exact bindI
theorem R48_7 {E : List (Nat × Nat)} {c s : Nat} {g : Nat → Nat → Int} : rcv (mk E c s (hh g)) 48 7 = true := rfl
theorem lay_49 {E : List (Nat × Nat)} {c s : Nat} {g : Nat → Nat → Int} : lay? (mk E c s (hh g)) 49 = (100, 10) := rfl
theorem L49 {X : MExt} {E : List (Nat × Nat)} {c s : Nat} {g : Nat → Nat → Int} {k : Int → Option MRes} : (alen X (mk E c s (hh g)) 49).bind k = k 10 := rfl
theorem A49 {X : MExt} {E : List (Nat × Nat)} {c s : Nat} {g : Nat → Nat → Int} {i : Int} {κ : Int → Option MRes} : (aget X 100 (mk E c s (hh g)) 49 i).bind κ = if inb i 10 = true then κ (g 49 (Int.toNat i)) else none := bindI
theorem S49 {E : List (Nat × Nat)} {c s : Nat} {g : Nat → Nat → Int} {i v : Int} {κ : Mem → Option MRes} : (aput 100 (mk E c s (hh g)) 49 i v).bind κ = if inb i 10 = true then κ (mk E c s (hh (up g 49 (Int.toNat i) v))) else none := by
  show (if inb i 10 = true then some (put (mk E c s (hh g)) (49 : Nat) (Int.toNat i) v) else none).bind κ = _
  rw [hh_put _ _ _ (dat_arr rfl _)]
  exact bindI
theorem lay_50 {E : List (Nat × Nat)} {c s : Nat} {g : Nat → Nat → Int} : lay? (mk E c s (hh g)) 50 = (100, 10) := rfl
theorem L50 {X : MExt} {E : List (Nat × Nat)} {c s : Nat} {g : Nat → Nat → Int} {k : Int → Option MRes} : (alen X (mk E c s (hh g)) 50).bind k = k 10 := rfl
theorem A50 {X : MExt} {E : List (Nat × Nat)} {c s : Nat} {g : Nat → Nat → Int} {i : Int} {κ : Int → Option MRes} : (aget X 100 (mk E c s (hh g)) 50 i).bind κ = if inb i 10 = true then κ (g 50 (Int.toNat i)) else none := bindI
theorem S50 {E : List (Nat × Nat)} {c s : Nat} {g : Nat → Nat → Int} {i v : Int} {κ : Mem → Option MRes} : (aput 100 (mk E c s (hh g)) 50 i v).bind κ = if inb i 10 = true then κ (mk E c s (hh (up g 50 (Int.toNat i) v))) else none := by
  show (if inb i 10 = true then some (put (mk E c s (hh g)) (50 : Nat) (Int.toNat i) v) else none).bind κ = _
  rw [hh_put _ _ _ (dat_arr rfl _)]
  exact bindI
theorem lay_51 {E : List (Nat × Nat)} {c s : Nat} {g : Nat → Nat → Int} : lay? (mk E c s (hh g)) 51 = (100, 10) := rfl
theorem L51 {X : MExt} {E : List (Nat × Nat)} {c s : Nat} {g : Nat → Nat → Int} {k : Int → Option MRes} : (alen X (mk E c s (hh g)) 51).bind k = k 10 := rfl
theorem A51 {X : MExt} {E : List (Nat × Nat)} {c s : Nat} {g : Nat → Nat → Int} {i : Int} {κ : Int → Option MRes} : (aget X 100 (mk E c s (hh g)) 51 i).bind κ = if inb i 10 = true then κ (g 51 (Int.toNat i)) else none := bindI
theorem S51 {E : List (Nat × Nat)} {c s : Nat} {g : Nat → Nat → Int} {i v : Int} {κ : Mem → Option MRes} : (aput 100 (mk E c s (hh g)) 51 i v).bind κ = if inb i 10 = true then κ (mk E c s (hh (up g 51 (Int.toNat i) v))) else none := by
  show (if inb i 10 = true then some (put (mk E c s (hh g)) (51 : Nat) (Int.toNat i) v) else none).bind κ = _
  rw [hh_put _ _ _ (dat_arr rfl _)]
  exact bindI
theorem lay_52 {E : List (Nat × Nat)} {c s : Nat} {g : Nat → Nat → Int} : lay? (mk E c s (hh g)) 52 = (100, 4) := rfl
theorem L52 {X : MExt} {E : List (Nat × Nat)} {c s : Nat} {g : Nat → Nat → Int} {k : Int → Option MRes} : (alen X (mk E c s (hh g)) 52).bind k = k 4 := rfl
theorem A52 {X : MExt} {E : List (Nat × Nat)} {c s : Nat} {g : Nat → Nat → Int} {i : Int} {κ : Int → Option MRes} : (aget X 100 (mk E c s (hh g)) 52 i).bind κ = if inb i 4 = true then κ (g 52 (Int.toNat i)) else none := bindI
theorem S52 {E : List (Nat × Nat)} {c s : Nat} {g : Nat → Nat → Int} {i v : Int} {κ : Mem → Option MRes} : (aput 100 (mk E c s (hh g)) 52 i v).bind κ = if inb i 4 = true then κ (mk E c s (hh (up g 52 (Int.toNat i) v))) else none := by
  show (if inb i 4 = true then some (put (mk E c s (hh g)) (52 : Nat) (Int.toNat i) v) else none).bind κ = _
  rw [hh_put _ _ _ (dat_arr rfl _)]
  exact bindI
theorem lay_53 {E : List (Nat × Nat)} {c s : Nat} {g : Nat → Nat → Int} : lay? (mk E c s (hh g)) 53 = (100, 4) := rfl
theorem L53 {X : MExt} {E : List (Nat × Nat)} {c s : Nat} {g : Nat → Nat → Int} {k : Int → Option MRes} : (alen X (mk E c s (hh g)) 53).bind k = k 4 := rfl
theorem A53 {X : MExt} {E : List (Nat × Nat)} {c s : Nat} {g : Nat → Nat → Int} {i : Int} {κ : Int → Option MRes} : (aget X 100 (mk E c s (hh g)) 53 i).bind κ = if inb i 4 = true then κ (g 53 (Int.toNat i)) else none := bindI
theorem S53 {E : List (Nat × Nat)} {c s : Nat} {g : Nat → Nat → Int} {i v : Int} {κ : Mem → Option MRes} : (aput 100 (mk E c s (hh g)) 53 i v).bind κ = if inb i 4 = true then κ (mk E c s (hh (up g 53 (Int.toNat i) v))) else none := by
  show (if inb i 4 = true then some (put (mk E c s (hh g)) (53 : Nat) (Int.toNat i) v) else none).bind κ = _
  rw [hh_put _ _ _ (dat_arr rfl _)]
  exact bindI
theorem lay_54 {E : List (Nat × Nat)} {c s : Nat} {g : Nat → Nat → Int} : lay? (mk E c s (hh g)) 54 = (100, 4) := rfl
theorem L54 {X : MExt} {E : List (Nat × Nat)} {c s : Nat} {g : Nat → Nat → Int} {k : Int → Option MRes} : (alen X (mk E c s (hh g)) 54).bind k = k 4 := rfl
theorem A54 {X : MExt} {E : List (Nat × Nat)} {c s : Nat} {g : Nat → Nat → Int} {i : Int} {κ : Int → Option MRes} : (aget X 100 (mk E c s (hh g)) 54 i).bind κ = if inb i 4 = true then κ (g 54 (Int.toNat i)) else none := bindI
theorem S54 {E : List (Nat × Nat)} {c s : Nat} {g : Nat → Nat → Int} {i v : Int} {κ : Mem → Option MRes} : (aput 100 (mk E c s (hh g)) 54 i v).bind κ = if inb i 4 = true then κ (mk E c s (hh (up g 54 (Int.toNat i) v))) else none := by
  show (if inb i 4 = true then some (put (mk E c s (hh g)) (54 : Nat) (Int.toNat i) v) else none).bind κ = _
  rw [hh_put _ _ _ (dat_arr rfl _)]
  exact bindI
theorem R55_1 {E : List (Nat × Nat)} {c s : Nat} {g : Nat → Nat → Int} : rcv (mk E c s (hh g)) 55 1 = true := rfl
theorem lay_56 {E : List (Nat × Nat)} {c s : Nat} {g : Nat → Nat → Int} : lay? (mk E c s (hh g)) 56 = (100, 40) := rfl
theorem L56 {X : MExt} {E : List (Nat × Nat)} {c s : Nat} {g : Nat → Nat → Int} {k : Int → Option MRes} : (alen X (mk E c s (hh g)) 56).bind k = k 40 := rfl
theorem A56 {X : MExt} {E : List (Nat × Nat)} {c s : Nat} {g : Nat → Nat → Int} {i : Int} {κ : Int → Option MRes} : (aget X 100 (mk E c s (hh g)) 56 i).bind κ = if inb i 40 = true then κ (g 56 (Int.toNat i)) else none := bindI
theorem S56 {E : List (Nat × Nat)} {c s : Nat} {g : Nat → Nat → Int} {i v : Int} {κ : Mem → Option MRes} : (aput 100 (mk E c s (hh g)) 56 i v).bind κ = if inb i 40 = true then κ (mk E c s (hh (up g 56 (Int.toNat i) v))) else none := by
  show (if inb i 40 = true then some (put (mk E c s (hh g)) (56 : Nat) (Int.toNat i) v) else none).bind κ = _
  rw [hh_put _ _ _ (dat_arr rfl _)]
  exact bindI
theorem lay_57 {E : List (Nat × Nat)} {c s : Nat} {g : Nat → Nat → Int} : lay? (mk E c s (hh g)) 57 = (100, 40) := rfl
theorem L57 {X : MExt} {E : List (Nat × Nat)} {c s : Nat} {g : Nat → Nat → Int} {k : Int → Option MRes} : (alen X (mk E c s (hh g)) 57).bind k = k 40 := rfl
theorem A57 {X : MExt} {E : List (Nat × Nat)} {c s : Nat} {g : Nat → Nat → Int} {i : Int} {κ : Int → Option MRes} : (aget X 100 (mk E c s (hh g)) 57 i).bind κ = if inb i 40 = true then κ (g 57 (Int.toNat i)) else none := bindI
theorem S57 {E : List (Nat × Nat)} {c s : Nat} {g : Nat → Nat → Int} {i v : Int} {κ : Mem → Option MRes} : (aput 100 (mk E c s (hh g)) 57 i v).bind κ = if inb i 40 = true then κ (mk E c s (hh (up g 57 (Int.toNat i) v))) else none := by
  show (if inb i 40 = true then some (put (mk E c s (hh g)) (57 : Nat) (Int.toNat i) v) else none).bind κ = _
  rw [hh_put _ _ _ (dat_arr rfl _)]
  exact bindI
theorem lay_58 {E : List (Nat × Nat)} {c s : Nat} {g : Nat → Nat → Int} : lay? (mk E c s (hh g)) 58 = (100, 40) := rfl
theorem L58 {X : MExt} {E : List (Nat × Nat)} {c s : Nat} {g : Nat → Nat → Int} {k : Int → Option MRes} : (alen X (mk E c s (hh g)) 58).bind k = k 40 := rfl
theorem A58 {X : MExt} {E : List (Nat × Nat)} {c s : Nat} {g : Nat → Nat → Int} {i : Int} {κ : Int → Option MRes} : (aget X 100 (mk E c s (hh g)) 58 i).bind κ = if inb i 40 = true then κ (g 58 (Int.toNat i)) else none := bindI
theorem S58 {E : List (Nat × Nat)} {c s : Nat} {g : Nat → Nat → Int} {i v : Int} {κ : Mem → Option MRes} : (aput 100 (mk E c s (hh g)) 58 i v).bind κ = if inb i 40 = true then κ (mk E c s (hh (up g 58 (Int.toNat i) v))) else none := by
  show (if inb i 40 = true then some (put (mk E c s (hh g)) (58 : Nat) (Int.toNat i) v) else none).bind κ = _
  rw [hh_put _ _ _ (dat_arr rfl _)]
  exact bindI
theorem lay_59 {E : List (Nat × Nat)} {c s : Nat} {g : Nat → Nat → Int} : lay? (mk E c s (hh g)) 59 = (100, 40) := rfl
theorem L59 {X : MExt} {E : List (Nat × Nat)} {c s : Nat} {g : Nat → Nat → Int} {k : Int → Option MRes} : (alen X (mk E c s (hh g)) 59).bind k = k 40 := rfl
theorem A59 {X : MExt} {E : List (Nat × Nat)} {c s : Nat} {g : Nat → Nat → Int} {i : Int} {κ : Int → Option MRes} : (aget X 100 (mk E c s (hh g)) 59 i).bind κ = if inb i 40 = true then κ (g 59 (Int.toNat i)) else none := bindI
theorem S59 {E : List (Nat × Nat)} {c s : Nat} {g : Nat → Nat → Int} {i v : Int} {κ : Mem → Option MRes} : (aput 100 (mk E c s (hh g)) 59 i v).bind κ = if inb i 40 = true then κ (mk E c s (hh (up g 59 (Int.toNat i) v))) else none := by
  show (if inb i 40 = true then some (put (mk E c s (hh g)) (59 : Nat) (Int.toNat i) v) else none).bind κ = _
  rw [hh_put _ _ _ (dat_arr rfl _)]
  exact bindI
theorem lay_60 {E : List (Nat × Nat)} {c s : Nat} {g : Nat → Nat → Int} : lay? (mk E c s (hh g)) 60 = (100, 3) := rfl
theorem L60 {X : MExt} {E : List (Nat × Nat)} {c s : Nat} {g : Nat → Nat → Int} {k : Int → Option MRes} : (alen X (mk E c s (hh g)) 60).bind k = k 3 := rfl
theorem A60 {X : MExt} {E : List (Nat × Nat)} {c s : Nat} {g : Nat → Nat → Int} {i : Int} {κ : Int → Option MRes} : (aget X 100 (mk E c s (hh g)) 60 i).bind κ = if inb i 3 = true then κ (g 60 (Int.toNat i)) else none := bindI
theorem S60 {E : List (Nat × Nat)} {c s : Nat} {g : Nat → Nat → Int} {i v : Int} {κ : Mem → Option MRes} : (aput 100 (mk E c s (hh g)) 60 i v).bind κ = if inb i 3 = true then κ (mk E c s (hh (up g 60 (Int.toNat i) v))) else none := by
  show (if inb i 3 = true then some (put (mk E c s (hh g)) (60 : Nat) (Int.toNat i) v) else none).bind κ = _
  rw [hh_put _ _ _ (dat_arr rfl _)]
  exact bindI
theorem lay_61 {E : List (Nat × Nat)} {c s : Nat} {g : Nat → Nat → Int} : lay? (mk E c s (hh g)) 61 = (100, 3) := rfl
theorem L61 {X : MExt} {E : List (Nat × Nat)} {c s : Nat} {g : Nat → Nat → Int} {k : Int → Option MRes} : (alen X (mk E c s (hh g)) 61).bind k = k 3 := rfl
theorem A61 {X : MExt} {E : List (Nat × Nat)} {c s : Nat} {g : Nat → Nat → Int} {i : Int} {κ : Int → Option MRes} : (aget X 100 (mk E c s (hh g)) 61 i).bind κ = if inb i 3 = true then κ (g 61 (Int.toNat i)) else none := bindI
theorem S61 {E : List (Nat × Nat)} {c s : Nat} {g : Nat → Nat → Int} {i v : Int} {κ : Mem → Option MRes} : (aput 100 (mk E c s (hh g)) 61 i v).bind κ = if inb i 3 = true then κ (mk E c s (hh (up g 61 (Int.toNat i) v))) else none := by
  show (if inb i 3 = true then some (put (mk E c s (hh g)) (61 : Nat) (Int.toNat i) v) else none).bind κ = _
  rw [hh_put _ _ _ (dat_arr rfl _)]
  exact bindI
theorem lay_62 {E : List (Nat × Nat)} {c s : Nat} {g : Nat → Nat → Int} : lay? (mk E c s (hh g)) 62 = (100, 10) := rfl
theorem L62 {X : MExt} {E : List (Nat × Nat)} {c s : Nat} {g : Nat → Nat → Int} {k : Int → Option MRes} : (alen X (mk E c s (hh g)) 62).bind k = k 10 := rfl
theorem A62 {X : MExt} {E : List (Nat × Nat)} {c s : Nat} {g : Nat → Nat → Int} {i : Int} {κ : Int → Option MRes} : (aget X 100 (mk E c s (hh g)) 62 i).bind κ = if inb i 10 = true then κ (g 62 (Int.toNat i)) else none := bindI
theorem S62 {E : List (Nat × Nat)} {c s : Nat} {g : Nat → Nat → Int} {i v : Int} {κ : Mem → Option MRes} : (aput 100 (mk E c s (hh g)) 62 i v).bind κ = if inb i 10 = true then κ (mk E c s (hh (up g 62 (Int.toNat i) v))) else none := by
  show (if inb i 10 = true then some (put (mk E c s (hh g)) (62 : Nat) (Int.toNat i) v) else none).bind κ = _
  rw [hh_put _ _ _ (dat_arr rfl _)]
  exact bindI
theorem lay_63 {E : List (Nat × Nat)} {c s : Nat} {g : Nat → Nat → Int} : lay? (mk E c s (hh g)) 63 = (100, 10) := rfl
theorem L63 {X : MExt} {E : List (Nat × Nat)} {c s : Nat} {g : Nat → Nat → Int} {k : Int → Option MRes} : (alen X (mk E c s (hh g)) 63).bind k = k 10 := rfl
theorem A63 {X : MExt} {E : List (Nat × Nat)} {c s : Nat} {g : Nat → Nat → Int} {i : Int} {κ : Int → Option MRes} : (aget X 100 (mk E c s (hh g)) 63 i).bind κ = if inb i 10 = true then κ (g 63 (Int.toNat i)) else none := bindI
theorem S63 {E : List (Nat × Nat)} {c s : Nat} {g : Nat → Nat → Int} {i v : Int} {κ : Mem → Option MRes} : (aput 100 (mk E c s (hh g)) 63 i v).bind κ = if inb i 10 = true then κ (mk E c s (hh (up g 63 (Int.toNat i) v))) else none := by
  show (if inb i 10 = true then some (put (mk E c s (hh g)) (63 : Nat) (Int.toNat i) v) else none).bind κ = _
  rw [hh_put _ _ _ (dat_arr rfl _)]
  exact bindI
theorem lay_64 {E : List (Nat × Nat)} {c s : Nat} {g : Nat → Nat → Int} : lay? (mk E c s (hh g)) 64 = (100, 10) := rfl
theorem L64 {X : MExt} {E : List (Nat × Nat)} {c s : Nat} {g : Nat → Nat → Int} {k : Int → Option MRes} : (alen X (mk E c s (hh g)) 64).bind k = k 10 := rfl
theorem A64 {X : MExt} {E : List (Nat × Nat)} {c s : Nat} {g : Nat → Nat → Int} {i : Int} {κ : Int → Option MRes} : (aget X 100 (mk E c s (hh g)) 64 i).bind κ = if inb i 10 = true then κ (g 64 (Int.toNat i)) else none := bindI
theorem S64 {E : List (Nat × Nat)} {c s : Nat} {g : Nat → Nat → Int} {i v : Int} {κ : Mem → Option MRes} : (aput 100 (mk E c s (hh g)) 64 i v).bind κ = if inb i 10 = true then κ (mk E c s (hh (up g 64 (Int.toNat i) v))) else none := by
  show (if inb i 10 = true then some (put (mk E c s (hh g)) (64 : Nat) (Int.toNat i) v) else none).bind κ = _
  rw [hh_put _ _ _ (dat_arr rfl _)]
  exact bindI
theorem R65_2 {E : List (Nat × Nat)} {c s : Nat} {g : Nat → Nat → Int} : rcv (mk E c s (hh g)) 65 2 = true := rfl
theorem lay_66 {E : List (Nat × Nat)} {c s : Nat} {g : Nat → Nat → Int} : lay? (mk E c s (hh g)) 66 = (100, 11) := rfl
theorem L66 {X : MExt} {E : List (Nat × Nat)} {c s : Nat} {g : Nat → Nat → Int} {k : Int → Option MRes} : (alen X (mk E c s (hh g)) 66).bind k = k 11 := rfl
theorem A66 {X : MExt} {E : List (Nat × Nat)} {c s : Nat} {g : Nat → Nat → Int} {i : Int} {κ : Int → Option MRes} : (aget X 100 (mk E c s (hh g)) 66 i).bind κ = if inb i 11 = true then κ (g 66 (Int.toNat i)) else none := bindI
theorem S66 {E : List (Nat × Nat)} {c s : Nat} {g : Nat → Nat → Int} {i v : Int} {κ : Mem → Option MRes} : (aput 100 (mk E c s (hh g)) 66 i v).bind κ = if inb i 11 = true then κ (mk E c s (hh (up g 66 (Int.toNat i) v))) else none := by
  show (if inb i 11 = true then some (put (mk E c s (hh g)) (66 : Nat) (Int.toNat i) v) else none).bind κ = _
  rw [hh_put _ _ _ (dat_arr rfl _)]
  exact bindI
theorem lay_67 {E : List (Nat × Nat)} {c s : Nat} {g : Nat → Nat → Int} : lay? (mk E c s (hh g)) 67 = (100, 11) := rfl
theorem L67 {X : MExt} {E : List (Nat × Nat)} {c s : Nat} {g : Nat → Nat → Int} {k : Int → Option MRes} : (alen X (mk E c s (hh g)) 67).bind k = k 11 := rfl
theorem A67 {X : MExt} {E : List (Nat × Nat)} {c s : Nat} {g : Nat → Nat → Int} {i : Int} {κ : Int → Option MRes} : (aget X 100 (mk E c s (hh g)) 67 i).bind κ = if inb i 11 = true then κ (g 67 (Int.toNat i)) else none := bindI
theorem S67 {E : List (Nat × Nat)} {c s : Nat} {g : Nat → Nat → Int} {i v : Int} {κ : Mem → Option MRes} : (aput 100 (mk E c s (hh g)) 67 i v).bind κ = if inb i 11 = true then κ (mk E c s (hh (up g 67 (Int.toNat i) v))) else none := by
  show (if inb i 11 = true then some (put (mk E c s (hh g)) (67 : Nat) (Int.toNat i) v) else none).bind κ = _
  rw [hh_put _ _ _ (dat_arr rfl _)]
  exact bindI
theorem lay_68 {E : List (Nat × Nat)} {c s : Nat} {g : Nat → Nat → Int} : lay? (mk E c s (hh g)) 68 = (100, 3) := rfl
theorem L68 {X : MExt} {E : List (Nat × Nat)} {c s : Nat} {g : Nat → Nat → Int} {k : Int → Option MRes} : (alen X (mk E c s (hh g)) 68).bind k = k 3 := rfl
theorem A68 {X : MExt} {E : List (Nat × Nat)} {c s : Nat} {g : Nat → Nat → Int} {i : Int} {κ : Int → Option MRes} : (aget X 100 (mk E c s (hh g)) 68 i).bind κ = if inb i 3 = true then κ (g 68 (Int.toNat i)) else none := bindI
theorem S68 {E : List (Nat × Nat)} {c s : Nat} {g : Nat → Nat → Int} {i v : Int} {κ : Mem → Option MRes} : (aput 100 (mk E c s (hh g)) 68 i v).bind κ = if inb i 3 = true then κ (mk E c s (hh (up g 68 (Int.toNat i) v))) else none := by
  show (if inb i 3 = true then some (put (mk E c s (hh g)) (68 : Nat) (Int.toNat i) v) else none).bind κ = _
  rw [hh_put _ _ _ (dat_arr rfl _)]
  exact bindI
theorem lay_69 {E : List (Nat × Nat)} {c s : Nat} {g : Nat → Nat → Int} : lay? (mk E c s (hh g)) 69 = (100, 15) := rfl
theorem L69 {X : MExt} {E : List (Nat × Nat)} {c s : Nat} {g : Nat → Nat → Int} {k : Int → Option MRes} : (alen X (mk E c s (hh g)) 69).bind k = k 15 := rfl
theorem A69 {X : MExt} {E : List (Nat × Nat)} {c s : Nat} {g : Nat → Nat → Int} {i : Int} {κ : Int → Option MRes} : (aget X 100 (mk E c s (hh g)) 69 i).bind κ = if inb i 15 = true then κ (g 69 (Int.toNat i)) else none := bindI
theorem S69 {E : List (Nat × Nat)} {c s : Nat} {g : Nat → Nat → Int} {i v : Int} {κ : Mem → Option MRes} : (aput 100 (mk E c s (hh g)) 69 i v).bind κ = if inb i 15 = true then κ (mk E c s (hh (up g 69 (Int.toNat i) v))) else none := by
  show (if inb i 15 = true then some (put (mk E c s (hh g)) (69 : Nat) (Int.toNat i) v) else none).bind κ = _
  rw [hh_put _ _ _ (dat_arr rfl _)]
  exact bindI
theorem lay_70 {E : List (Nat × Nat)} {c s : Nat} {g : Nat → Nat → Int} : lay? (mk E c s (hh g)) 70 = (100, 4) := rfl
theorem L70 {X : MExt} {E : List (Nat × Nat)} {c s : Nat} {g : Nat → Nat → Int} {k : Int → Option MRes} : (alen X (mk E c s (hh g)) 70).bind k = k 4 := rfl
theorem A70 {X : MExt} {E : List (Nat × Nat)} {c s : Nat} {g : Nat → Nat → Int} {i : Int} {κ : Int → Option MRes} : (aget X 100 (mk E c s (hh g)) 70 i).bind κ = if inb i 4 = true then κ (g 70 (Int.toNat i)) else none := bindI
theorem S70 {E : List (Nat × Nat)} {c s : Nat} {g : Nat → Nat → Int} {i v : Int} {κ : Mem → Option MRes} : (aput 100 (mk E c s (hh g)) 70 i v).bind κ = if inb i 4 = true then κ (mk E c s (hh (up g 70 (Int.toNat i) v))) else none := by
  show (if inb i 4 = true then some (put (mk E c s (hh g)) (70 : Nat) (Int.toNat i) v) else none).bind κ = _
  rw [hh_put _ _ _ (dat_arr rfl _)]
  exact bindI
theorem lay_71 {E : List (Nat × Nat)} {c s : Nat} {g : Nat → Nat → Int} : lay? (mk E c s (hh g)) 71 = (100, 3) := rfl
theorem L71 {X : MExt} {E : List (Nat × Nat)} {c s : Nat} {g : Nat → Nat → Int} {k : Int → Option MRes} : (alen X (mk E c s (hh g)) 71).bind k = k 3 := rfl
theorem A71 {X : MExt} {E : List (Nat × Nat)} {c s : Nat} {g : Nat → Nat → Int} {i : Int} {κ : Int → Option MRes} : (aget X 100 (mk E c s (hh g)) 71 i).bind κ = if inb i 3 = true then κ (g 71 (Int.toNat i)) else none := bindI
theorem S71 {E : List (Nat × Nat)} {c s : Nat} {g : Nat → Nat → Int} {i v : Int} {κ : Mem → Option MRes} : (aput 100 (mk E c s (hh g)) 71 i v).bind κ = if inb i 3 = true then κ (mk E c s (hh (up g 71 (Int.toNat i) v))) else none := by
  show (if inb i 3 = true then some (put (mk E c s (hh g)) (71 : Nat) (Int.toNat i) v) else none).bind κ = _
  rw [hh_put _ _ _ (dat_arr rfl _)]
  exact bindI
theorem R72_10 {E : List (Nat × Nat)} {c s : Nat} {g : Nat → Nat → Int} : rcv (mk E c s (hh g)) 72 10 = true := rfl
theorem lay_73 {E : List (Nat × Nat)} {c s : Nat} {g : Nat → Nat → Int} : lay? (mk E c s (hh g)) 73 = (100, 4) := rfl
theorem L73 {X : MExt} {E : List (Nat × Nat)} {c s : Nat} {g : Nat → Nat → Int} {k : Int → Option MRes} : (alen X (mk E c s (hh g)) 73).bind k = k 4 := rfl
theorem A73 {X : MExt} {E : List (Nat × Nat)} {c s : Nat} {g : Nat → Nat → Int} {i : Int} {κ : Int → Option MRes} : (aget X 100 (mk E c s (hh g)) 73 i).bind κ = if inb i 4 = true then κ (g 73 (Int.toNat i)) else none := bindI
theorem S73 {E : List (Nat × Nat)} {c s : Nat} {g : Nat → Nat → Int} {i v : Int} {κ : Mem → Option MRes} : (aput 100 (mk E c s (hh g)) 73 i v).bind κ = if inb i 4 = true then κ (mk E c s (hh (up g 73 (Int.toNat i) v))) else none := by
  show (if inb i 4 = true then some (put (mk E c s (hh g)) (73 : Nat) (Int.toNat i) v) else none).bind κ = _
  rw [hh_put _ _ _ (dat_arr rfl _)]
  exact bindI
theorem lay_74 {E : List (Nat × Nat)} {c s : Nat} {g : Nat → Nat → Int} : lay? (mk E c s (hh g)) 74 = (100, 4) := rfl
theorem L74 {X : MExt} {E : List (Nat × Nat)} {c s : Nat} {g : Nat → Nat → Int} {k : Int → Option MRes} : (alen X (mk E c s (hh g)) 74).bind k = k 4 := rfl
theorem A74 {X : MExt} {E : List (Nat × Nat)} {c s : Nat} {g : Nat → Nat → Int} {i : Int} {κ : Int → Option MRes} : (aget X 100 (mk E c s (hh g)) 74 i).bind κ = if inb i 4 = true then κ (g 74 (Int.toNat i)) else none := bindI
theorem S74 {E : List (Nat × Nat)} {c s : Nat} {g : Nat → Nat → Int} {i v : Int} {κ : Mem → Option MRes} : (aput 100 (mk E c s (hh g)) 74 i v).bind κ = if inb i 4 = true then κ (mk E c s (hh (up g 74 (Int.toNat i) v))) else none := by
  show (if inb i 4 = true then some (put (mk E c s (hh g)) (74 : Nat) (Int.toNat i) v) else none).bind κ = _
  rw [hh_put _ _ _ (dat_arr rfl _)]
  exact bindI
theorem lay_75 {E : List (Nat × Nat)} {c s : Nat} {g : Nat → Nat → Int} : lay? (mk E c s (hh g)) 75 = (101, 4) := rfl
theorem L75 {X : MExt} {E : List (Nat × Nat)} {c s : Nat} {g : Nat → Nat → Int} {k : Int → Option MRes} : (alen X (mk E c s (hh g)) 75).bind k = k 4 := rfl
theorem A75 {X : MExt} {E : List (Nat × Nat)} {c s : Nat} {g : Nat → Nat → Int} {i : Int} {κ : Int → Option MRes} : (aget X 101 (mk E c s (hh g)) 75 i).bind κ = if inb i 4 = true then κ (g 75 (Int.toNat i)) else none := bindI
theorem S75 {E : List (Nat × Nat)} {c s : Nat} {g : Nat → Nat → Int} {i v : Int} {κ : Mem → Option MRes} : (aput 101 (mk E c s (hh g)) 75 i v).bind κ = if inb i 4 = true then κ (mk E c s (hh (up g 75 (Int.toNat i) v))) else none := by
  show (if inb i 4 = true then some (put (mk E c s (hh g)) (75 : Nat) (Int.toNat i) v) else none).bind κ = _
  rw [hh_put _ _ _ (dat_arr rfl _)]
  exact bindI
theorem lay_76 {E : List (Nat × Nat)} {c s : Nat} {g : Nat → Nat → Int} : lay? (mk E c s (hh g)) 76 = (105, 4) := rfl
theorem L76 {X : MExt} {E : List (Nat × Nat)} {c s : Nat} {g : Nat → Nat → Int} {k : Int → Option MRes} : (alen X (mk E c s (hh g)) 76).bind k = k 4 := rfl
theorem A76 {X : MExt} {E : List (Nat × Nat)} {c s : Nat} {g : Nat → Nat → Int} {i : Int} {κ : Int → Option MRes} : (aget X 105 (mk E c s (hh g)) 76 i).bind κ = if inb i 4 = true then κ (hh g 76 (Int.toNat i)) else none := bindI
theorem lay_77 {E : List (Nat × Nat)} {c s : Nat} {g : Nat → Nat → Int} : lay? (mk E c s (hh g)) 77 = (100, 40) := rfl
theorem L77 {X : MExt} {E : List (Nat × Nat)} {c s : Nat} {g : Nat → Nat → Int} {k : Int → Option MRes} : (alen X (mk E c s (hh g)) 77).bind k = k 40 := rfl
theorem A77 {X : MExt} {E : List (Nat × Nat)} {c s : Nat} {g : Nat → Nat → Int} {i : Int} {κ : Int → Option MRes} : (aget X 100 (mk E c s (hh g)) 77 i).bind κ = if inb i 40 = true then κ (g 77 (Int.toNat i)) else none := bindI
theorem S77 {E : List (Nat × Nat)} {c s : Nat} {g : Nat → Nat → Int} {i v : Int} {κ : Mem → Option MRes} : (aput 100 (mk E c s (hh g)) 77 i v).bind κ = if inb i 40 = true then κ (mk E c s (hh (up g 77 (Int.toNat i) v))) else none := by
  show (if inb i 40 = true then some (put (mk E c s (hh g)) (77 : Nat) (Int.toNat i) v) else none).bind κ = _
  rw [hh_put _ _ _ (dat_arr rfl _)]
  exact bindI
theorem lay_78 {E : List (Nat × Nat)} {c s : Nat} {g : Nat → Nat → Int} : lay? (mk E c s (hh g)) 78 = (100, 40) := rfl
theorem L78 {X : MExt} {E : List (Nat × Nat)} {c s : Nat} {g : Nat → Nat → Int} {k : Int → Option MRes} : (alen X (mk E c s (hh g)) 78).bind k = k 40 := rfl
theorem A78 {X : MExt} {E : List (Nat × Nat)} {c s : Nat} {g : Nat → Nat → Int} {i : Int} {κ : Int → Option MRes} : (aget X 100 (mk E c s (hh g)) 78 i).bind κ = if inb i 40 = true then κ (g 78 (Int.toNat i)) else none := bindI
theorem S78 {E : List (Nat × Nat)} {c s : Nat} {g : Nat → Nat → Int} {i v : Int} {κ : Mem → Option MRes} : (aput 100 (mk E c s (hh g)) 78 i v).bind κ = if inb i 40 = true then κ (mk E c s (hh (up g 78 (Int.toNat i) v))) else none := by
  show (if inb i 40 = true then some (put (mk E c s (hh g)) (78 : Nat) (Int.toNat i) v) else none).bind κ = _
  rw [hh_put _ _ _ (dat_arr rfl _)]
  exact bindI
theorem lay_79 {E : List (Nat × Nat)} {c s : Nat} {g : Nat → Nat → Int} : lay? (mk E c s (hh g)) 79 = (100, 40) := rfl
theorem L79 {X : MExt} {E : List (Nat × Nat)} {c s : Nat} {g : Nat → Nat → Int} {k : Int → Option MRes} : (alen X (mk E c s (hh g)) 79).bind k = k 40 := rfl
theorem A79 {X : MExt} {E : List (Nat × Nat)} {c s : Nat} {g : Nat → Nat → Int} {i : Int} {κ : Int → Option MRes} : (aget X 100 (mk E c s (hh g)) 79 i).bind κ = if inb i 40 = true then κ (g 79 (Int.toNat i)) else none := bindI
theorem S79 {E : List (Nat × Nat)} {c s : Nat} {g : Nat → Nat → Int} {i v : Int} {κ : Mem → Option MRes} : (aput 100 (mk E c s (hh g)) 79 i v).bind κ = if inb i 40 = true then κ (mk E c s (hh (up g 79 (Int.toNat i) v))) else none := by
  show (if inb i 40 = true then some (put (mk E c s (hh g)) (79 : Nat) (Int.toNat i) v) else none).bind κ = _
  rw [hh_put _ _ _ (dat_arr rfl _)]
  exact bindI
theorem lay_80 {E : List (Nat × Nat)} {c s : Nat} {g : Nat → Nat → Int} : lay? (mk E c s (hh g)) 80 = (100, 40) := rfl
theorem L80 {X : MExt} {E : List (Nat × Nat)} {c s : Nat} {g : Nat → Nat → Int} {k : Int → Option MRes} : (alen X (mk E c s (hh g)) 80).bind k = k 40 := rfl
theorem A80 {X : MExt} {E : List (Nat × Nat)} {c s : Nat} {g : Nat → Nat → Int} {i : Int} {κ : Int → Option MRes} : (aget X 100 (mk E c s (hh g)) 80 i).bind κ = if inb i 40 = true then κ (g 80 (Int.toNat i)) else none := bindI
theorem S80 {E : List (Nat × Nat)} {c s : Nat} {g : Nat → Nat → Int} {i v : Int} {κ : Mem → Option MRes} : (aput 100 (mk E c s (hh g)) 80 i v).bind κ = if inb i 40 = true then κ (mk E c s (hh (up g 80 (Int.toNat i) v))) else none := by
  show (if inb i 40 = true then some (put (mk E c s (hh g)) (80 : Nat) (Int.toNat i) v) else none).bind κ = _
  rw [hh_put _ _ _ (dat_arr rfl _)]
  exact bindI
theorem lay_81 {E : List (Nat × Nat)} {c s : Nat} {g : Nat → Nat → Int} : lay? (mk E c s (hh g)) 81 = (105, 4) := rfl
theorem L81 {X : MExt} {E : List (Nat × Nat)} {c s : Nat} {g : Nat → Nat → Int} {k : Int → Option MRes} : (alen X (mk E c s (hh g)) 81).bind k = k 4 := rfl
theorem A81 {X : MExt} {E : List (Nat × Nat)} {c s : Nat} {g : Nat → Nat → Int} {i : Int} {κ : Int → Option MRes} : (aget X 105 (mk E c s (hh g)) 81 i).bind κ = if inb i 4 = true then κ (hh g 81 (Int.toNat i)) else none := bindI
theorem lay_82 {E : List (Nat × Nat)} {c s : Nat} {g : Nat → Nat → Int} : lay? (mk E c s (hh g)) 82 = (100, 10) := rfl
theorem L82 {X : MExt} {E : List (Nat × Nat)} {c s : Nat} {g : Nat → Nat → Int} {k : Int → Option MRes} : (alen X (mk E c s (hh g)) 82).bind k = k 10 := rfl
theorem A82 {X : MExt} {E : List (Nat × Nat)} {c s : Nat} {g : Nat → Nat → Int} {i : Int} {κ : Int → Option MRes} : (aget X 100 (mk E c s (hh g)) 82 i).bind κ = if inb i 10 = true then κ (g 82 (Int.toNat i)) else none := bindI
theorem S82 {E : List (Nat × Nat)} {c s : Nat} {g : Nat → Nat → Int} {i v : Int} {κ : Mem → Option MRes} : (aput 100 (mk E c s (hh g)) 82 i v).bind κ = if inb i 10 = true then κ (mk E c s (hh (up g 82 (Int.toNat i) v))) else none := by
  show (if inb i 10 = true then some (put (mk E c s (hh g)) (82 : Nat) (Int.toNat i) v) else none).bind κ = _
  rw [hh_put _ _ _ (dat_arr rfl _)]
  exact bindI
theorem lay_83 {E : List (Nat × Nat)} {c s : Nat} {g : Nat → Nat → Int} : lay? (mk E c s (hh g)) 83 = (100, 10) := rfl
theorem L83 {X : MExt} {E : List (Nat × Nat)} {c s : Nat} {g : Nat → Nat → Int} {k : Int → Option MRes} : (alen X (mk E c s (hh g)) 83).bind k = k 10 := rfl
theorem A83 {X : MExt} {E : List (Nat × Nat)} {c s : Nat} {g : Nat → Nat → Int} {i : Int} {κ : Int → Option MRes} : (aget X 100 (mk E c s (hh g)) 83 i).bind κ = if inb i 10 = true then κ (g 83 (Int.toNat i)) else none := bindI
theorem S83 {E : List (Nat × Nat)} {c s : Nat} {g : Nat → Nat → Int} {i v : Int} {κ : Mem → Option MRes} : (aput 100 (mk E c s (hh g)) 83 i v).bind κ = if inb i 10 = true then κ (mk E c s (hh (up g 83 (Int.toNat i) v))) else none := by
  show (if inb i 10 = true then some (put (mk E c s (hh g)) (83 : Nat) (Int.toNat i) v) else none).bind κ = _
  rw [hh_put _ _ _ (dat_arr rfl _)]
  exact bindI
theorem lay_84 {E : List (Nat × Nat)} {c s : Nat} {g : Nat → Nat → Int} : lay? (mk E c s (hh g)) 84 = (100, 10) := rfl
theorem L84 {X : MExt} {E : List (Nat × Nat)} {c s : Nat} {g : Nat → Nat → Int} {k : Int → Option MRes} : (alen X (mk E c s (hh g)) 84).bind k = k 10 := rfl
theorem A84 {X : MExt} {E : List (Nat × Nat)} {c s : Nat} {g : Nat → Nat → Int} {i : Int} {κ : Int → Option MRes} : (aget X 100 (mk E c s (hh g)) 84 i).bind κ = if inb i 10 = true then κ (g 84 (Int.toNat i)) else none := bindI
theorem S84 {E : List (Nat × Nat)} {c s : Nat} {g : Nat → Nat → Int} {i v : Int} {κ : Mem → Option MRes} : (aput 100 (mk E c s (hh g)) 84 i v).bind κ = if inb i 10 = true then κ (mk E c s (hh (up g 84 (Int.toNat i) v))) else none := by
  show (if inb i 10 = true then some (put (mk E c s (hh g)) (84 : Nat) (Int.toNat i) v) else none).bind κ = _
  rw [hh_put _ _ _ (dat_arr rfl _)]
  exact bindI
theorem lay_85 {E : List (Nat × Nat)} {c s : Nat} {g : Nat → Nat → Int} : lay? (mk E c s (hh g)) 85 = (100, 10) := rfl
theorem L85 {X : MExt} {E : List (Nat × Nat)} {c s : Nat} {g : Nat → Nat → Int} {k : Int → Option MRes} : (alen X (mk E c s (hh g)) 85).bind k = k 10 := rfl
theorem A85 {X : MExt} {E : List (Nat × Nat)} {c s : Nat} {g : Nat → Nat → Int} {i : Int} {κ : Int → Option MRes} : (aget X 100 (mk E c s (hh g)) 85 i).bind κ = if inb i 10 = true then κ (g 85 (Int.toNat i)) else none := bindI
theorem S85 {E : List (Nat × Nat)} {c s : Nat} {g : Nat → Nat → Int} {i v : Int} {κ : Mem → Option MRes} : (aput 100 (mk E c s (hh g)) 85 i v).bind κ = if inb i 10 = true then κ (mk E c s (hh (up g 85 (Int.toNat i) v))) else none := by
  show (if inb i 10 = true then some (put (mk E c s (hh g)) (85 : Nat) (Int.toNat i) v) else none).bind κ = _
  rw [hh_put _ _ _ (dat_arr rfl _)]
  exact bindI
theorem lay_86 {E : List (Nat × Nat)} {c s : Nat} {g : Nat → Nat → Int} : lay? (mk E c s (hh g)) 86 = (100, 10) := rfl
theorem L86 {X : MExt} {E : List (Nat × Nat)} {c s : Nat} {g : Nat → Nat → Int} {k : Int → Option MRes} : (alen X (mk E c s (hh g)) 86).bind k = k 10 := rfl
theorem A86 {X : MExt} {E : List (Nat × Nat)} {c s : Nat} {g : Nat → Nat → Int} {i : Int} {κ : Int → Option MRes} : (aget X 100 (mk E c s (hh g)) 86 i).bind κ = if inb i 10 = true then κ (g 86 (Int.toNat i)) else none := bindI
theorem S86 {E : List (Nat × Nat)} {c s : Nat} {g : Nat → Nat → Int} {i v : Int} {κ : Mem → Option MRes} : (aput 100 (mk E c s (hh g)) 86 i v).bind κ = if inb i 10 = true then κ (mk E c s (hh (up g 86 (Int.toNat i) v))) else none := by
  show (if inb i 10 = true then some (put (mk E c s (hh g)) (86 : Nat) (Int.toNat i) v) else none).bind κ = _
  rw [hh_put _ _ _ (dat_arr rfl _)]
  exact bindI
theorem lay_87 {E : List (Nat × Nat)} {c s : Nat} {g : Nat → Nat → Int} : lay? (mk E c s (hh g)) 87 = (101, 1024) := rfl
theorem L87 {X : MExt} {E : List (Nat × Nat)} {c s : Nat} {g : Nat → Nat → Int} {k : Int → Option MRes} : (alen X (mk E c s (hh g)) 87).bind k = k 1024 := rfl
theorem A87 {X : MExt} {E : List (Nat × Nat)} {c s : Nat} {g : Nat → Nat → Int} {i : Int} {κ : Int → Option MRes} : (aget X 101 (mk E c s (hh g)) 87 i).bind κ = if inb i 1024 = true then κ (g 87 (Int.toNat i)) else none := bindI
theorem S87 {E : List (Nat × Nat)} {c s : Nat} {g : Nat → Nat → Int} {i v : Int} {κ : Mem → Option MRes} : (aput 101 (mk E c s (hh g)) 87 i v).bind κ = if inb i 1024 = true then κ (mk E c s (hh (up g 87 (Int.toNat i) v))) else none := by
  show (if inb i 1024 = true then some (put (mk E c s (hh g)) (87 : Nat) (Int.toNat i) v) else none).bind κ = _
  rw [hh_put _ _ _ (dat_arr rfl _)]
  exact bindI
theorem lay_88 {E : List (Nat × Nat)} {c s : Nat} {g : Nat → Nat → Int} : lay? (mk E c s (hh g)) 88 = (100, 1024) := rfl
theorem L88 {X : MExt} {E : List (Nat × Nat)} {c s : Nat} {g : Nat → Nat → Int} {k : Int → Option MRes} : (alen X (mk E c s (hh g)) 88).bind k = k 1024 := rfl
theorem A88 {X : MExt} {E : List (Nat × Nat)} {c s : Nat} {g : Nat → Nat → Int} {i : Int} {κ : Int → Option MRes} : (aget X 100 (mk E c s (hh g)) 88 i).bind κ = if inb i 1024 = true then κ (g 88 (Int.toNat i)) else none := bindI
theorem S88 {E : List (Nat × Nat)} {c s : Nat} {g : Nat → Nat → Int} {i v : Int} {κ : Mem → Option MRes} : (aput 100 (mk E c s (hh g)) 88 i v).bind κ = if inb i 1024 = true then κ (mk E c s (hh (up g 88 (Int.toNat i) v))) else none := by
  show (if inb i 1024 = true then some (put (mk E c s (hh g)) (88 : Nat) (Int.toNat i) v) else none).bind κ = _
  rw [hh_put _ _ _ (dat_arr rfl _)]
  exact bindI
theorem R89_13 {E : List (Nat × Nat)} {c s : Nat} {g : Nat → Nat → Int} : rcv (mk E c s (hh g)) 89 13 = true := rfl
theorem lay_90 {E : List (Nat × Nat)} {c s : Nat} {g : Nat → Nat → Int} : lay? (mk E c s (hh g)) 90 = (102, 10) := rfl
theorem L90 {X : MExt} {E : List (Nat × Nat)} {c s : Nat} {g : Nat → Nat → Int} {k : Int → Option MRes} : (alen X (mk E c s (hh g)) 90).bind k = k 10 := rfl
theorem A90 {X : MExt} {E : List (Nat × Nat)} {c s : Nat} {g : Nat → Nat → Int} {i : Int} {κ : Int → Option MRes} : (aget X 102 (mk E c s (hh g)) 90 i).bind κ = if inb i 10 = true then κ (g 90 (Int.toNat i)) else none := bindI
theorem S90 {E : List (Nat × Nat)} {c s : Nat} {g : Nat → Nat → Int} {i v : Int} {κ : Mem → Option MRes} : (aput 102 (mk E c s (hh g)) 90 i v).bind κ = if inb i 10 = true then κ (mk E c s (hh (up g 90 (Int.toNat i) v))) else none := by
  show (if inb i 10 = true then some (put (mk E c s (hh g)) (90 : Nat) (Int.toNat i) v) else none).bind κ = _
  rw [hh_put _ _ _ (dat_arr rfl _)]
  exact bindI
theorem lay_91 {E : List (Nat × Nat)} {c s : Nat} {g : Nat → Nat → Int} : lay? (mk E c s (hh g)) 91 = (100, 10) := rfl
theorem L91 {X : MExt} {E : List (Nat × Nat)} {c s : Nat} {g : Nat → Nat → Int} {k : Int → Option MRes} : (alen X (mk E c s (hh g)) 91).bind k = k 10 := rfl
theorem A91 {X : MExt} {E : List (Nat × Nat)} {c s : Nat} {g : Nat → Nat → Int} {i : Int} {κ : Int → Option MRes} : (aget X 100 (mk E c s (hh g)) 91 i).bind κ = if inb i 10 = true then κ (g 91 (Int.toNat i)) else none := bindI
theorem S91 {E : List (Nat × Nat)} {c s : Nat} {g : Nat → Nat → Int} {i v : Int} {κ : Mem → Option MRes} : (aput 100 (mk E c s (hh g)) 91 i v).bind κ = if inb i 10 = true then κ (mk E c s (hh (up g 91 (Int.toNat i) v))) else none := by
  show (if inb i 10 = true then some (put (mk E c s (hh g)) (91 : Nat) (Int.toNat i) v) else none).bind κ = _
  rw [hh_put _ _ _ (dat_arr rfl _)]
  exact bindI
theorem lay_92 {E : List (Nat × Nat)} {c s : Nat} {g : Nat → Nat → Int} : lay? (mk E c s (hh g)) 92 = (100, 10) := rfl
theorem L92 {X : MExt} {E : List (Nat × Nat)} {c s : Nat} {g : Nat → Nat → Int} {k : Int → Option MRes} : (alen X (mk E c s (hh g)) 92).bind k = k 10 := rfl
theorem A92 {X : MExt} {E : List (Nat × Nat)} {c s : Nat} {g : Nat → Nat → Int} {i : Int} {κ : Int → Option MRes} : (aget X 100 (mk E c s (hh g)) 92 i).bind κ = if inb i 10 = true then κ (g 92 (Int.toNat i)) else none := bindI
theorem S92 {E : List (Nat × Nat)} {c s : Nat} {g : Nat → Nat → Int} {i v : Int} {κ : Mem → Option MRes} : (aput 100 (mk E c s (hh g)) 92 i v).bind κ = if inb i 10 = true then κ (mk E c s (hh (up g 92 (Int.toNat i) v))) else none := by
  show (if inb i 10 = true then some (put (mk E c s (hh g)) (92 : Nat) (Int.toNat i) v) else none).bind κ = _
  rw [hh_put _ _ _ (dat_arr rfl _)]
  exact bindI
theorem lay_93 {E : List (Nat × Nat)} {c s : Nat} {g : Nat → Nat → Int} : lay? (mk E c s (hh g)) 93 = (102, 10) := rfl
theorem L93 {X : MExt} {E : List (Nat × Nat)} {c s : Nat} {g : Nat → Nat → Int} {k : Int → Option MRes} : (alen X (mk E c s (hh g)) 93).bind k = k 10 := rfl
theorem A93 {X : MExt} {E : List (Nat × Nat)} {c s : Nat} {g : Nat → Nat → Int} {i : Int} {κ : Int → Option MRes} : (aget X 102 (mk E c s (hh g)) 93 i).bind κ = if inb i 10 = true then κ (g 93 (Int.toNat i)) else none := bindI
theorem S93 {E : List (Nat × Nat)} {c s : Nat} {g : Nat → Nat → Int} {i v : Int} {κ : Mem → Option MRes} : (aput 102 (mk E c s (hh g)) 93 i v).bind κ = if inb i 10 = true then κ (mk E c s (hh (up g 93 (Int.toNat i) v))) else none := by
  show (if inb i 10 = true then some (put (mk E c s (hh g)) (93 : Nat) (Int.toNat i) v) else none).bind κ = _
  rw [hh_put _ _ _ (dat_arr rfl _)]
  exact bindI
theorem lay_94 {E : List (Nat × Nat)} {c s : Nat} {g : Nat → Nat → Int} : lay? (mk E c s (hh g)) 94 = (102, 40) := rfl
theorem L94 {X : MExt} {E : List (Nat × Nat)} {c s : Nat} {g : Nat → Nat → Int} {k : Int → Option MRes} : (alen X (mk E c s (hh g)) 94).bind k = k 40 := rfl
theorem A94 {X : MExt} {E : List (Nat × Nat)} {c s : Nat} {g : Nat → Nat → Int} {i : Int} {κ : Int → Option MRes} : (aget X 102 (mk E c s (hh g)) 94 i).bind κ = if inb i 40 = true then κ (g 94 (Int.toNat i)) else none := bindI
theorem S94 {E : List (Nat × Nat)} {c s : Nat} {g : Nat → Nat → Int} {i v : Int} {κ : Mem → Option MRes} : (aput 102 (mk E c s (hh g)) 94 i v).bind κ = if inb i 40 = true then κ (mk E c s (hh (up g 94 (Int.toNat i) v))) else none := by
  show (if inb i 40 = true then some (put (mk E c s (hh g)) (94 : Nat) (Int.toNat i) v) else none).bind κ = _
  rw [hh_put _ _ _ (dat_arr rfl _)]
  exact bindI
theorem lay_95 {E : List (Nat × Nat)} {c s : Nat} {g : Nat → Nat → Int} : lay? (mk E c s (hh g)) 95 = (100, 40) := rfl
theorem L95 {X : MExt} {E : List (Nat × Nat)} {c s : Nat} {g : Nat → Nat → Int} {k : Int → Option MRes} : (alen X (mk E c s (hh g)) 95).bind k = k 40 := rfl
theorem A95 {X : MExt} {E : List (Nat × Nat)} {c s : Nat} {g : Nat → Nat → Int} {i : Int} {κ : Int → Option MRes} : (aget X 100 (mk E c s (hh g)) 95 i).bind κ = if inb i 40 = true then κ (g 95 (Int.toNat i)) else none := bindI
theorem S95 {E : List (Nat × Nat)} {c s : Nat} {g : Nat → Nat → Int} {i v : Int} {κ : Mem → Option MRes} : (aput 100 (mk E c s (hh g)) 95 i v).bind κ = if inb i 40 = true then κ (mk E c s (hh (up g 95 (Int.toNat i) v))) else none := by
  show (if inb i 40 = true then some (put (mk E c s (hh g)) (95 : Nat) (Int.toNat i) v) else none).bind κ = _
  rw [hh_put _ _ _ (dat_arr rfl _)]
  exact bindI
theorem lay_96 {E : List (Nat × Nat)} {c s : Nat} {g : Nat → Nat → Int} : lay? (mk E c s (hh g)) 96 = (100, 40) := rfl
theorem L96 {X : MExt} {E : List (Nat × Nat)} {c s : Nat} {g : Nat → Nat → Int} {k : Int → Option MRes} : (alen X (mk E c s (hh g)) 96).bind k = k 40 := rfl
theorem A96 {X : MExt} {E : List (Nat × Nat)} {c s : Nat} {g : Nat → Nat → Int} {i : Int} {κ : Int → Option MRes} : (aget X 100 (mk E c s (hh g)) 96 i).bind κ = if inb i 40 = true then κ (g 96 (Int.toNat i)) else none := bindI
theorem S96 {E : List (Nat × Nat)} {c s : Nat} {g : Nat → Nat → Int} {i v : Int} {κ : Mem → Option MRes} : (aput 100 (mk E c s (hh g)) 96 i v).bind κ = if inb i 40 = true then κ (mk E c s (hh (up g 96 (Int.toNat i) v))) else none := by
  show (if inb i 40 = true then some (put (mk E c s (hh g)) (96 : Nat) (Int.toNat i) v) else none).bind κ = _
  rw [hh_put _ _ _ (dat_arr rfl _)]
  exact bindI
theorem lay_97 {E : List (Nat × Nat)} {c s : Nat} {g : Nat → Nat → Int} : lay? (mk E c s (hh g)) 97 = (100, 40) := rfl
theorem L97 {X : MExt} {E : List (Nat × Nat)} {c s : Nat} {g : Nat → Nat → Int} {k : Int → Option MRes} : (alen X (mk E c s (hh g)) 97).bind k = k 40 := rfl
theorem A97 {X : MExt} {E : List (Nat × Nat)} {c s : Nat} {g : Nat → Nat → Int} {i : Int} {κ : Int → Option MRes} : (aget X 100 (mk E c s (hh g)) 97 i).bind κ = if inb i 40 = true then κ (g 97 (Int.toNat i)) else none := bindI
theorem S97 {E : List (Nat × Nat)} {c s : Nat} {g : Nat → Nat → Int} {i v : Int} {κ : Mem → Option MRes} : (aput 100 (mk E c s (hh g)) 97 i v).bind κ = if inb i 40 = true then κ (mk E c s (hh (up g 97 (Int.toNat i) v))) else none := by
  show (if inb i 40 = true then some (put (mk E c s (hh g)) (97 : Nat) (Int.toNat i) v) else none).bind κ = _
  rw [hh_put _ _ _ (dat_arr rfl _)]
  exact bindI
theorem lay_98 {E : List (Nat × Nat)} {c s : Nat} {g : Nat → Nat → Int} : lay? (mk E c s (hh g)) 98 = (100, 40) := rfl
theorem L98 {X : MExt} {E : List (Nat × Nat)} {c s : Nat} {g : Nat → Nat → Int} {k : Int → Option MRes} : (alen X (mk E c s (hh g)) 98).bind k = k 40 := rfl
theorem A98 {X : MExt} {E : List (Nat × Nat)} {c s : Nat} {g : Nat → Nat → Int} {i : Int} {κ : Int → Option MRes} : (aget X 100 (mk E c s (hh g)) 98 i).bind κ = if inb i 40 = true then κ (g 98 (Int.toNat i)) else none := bindI
theorem S98 {E : List (Nat × Nat)} {c s : Nat} {g : Nat → Nat → Int} {i v : Int} {κ : Mem → Option MRes} : (aput 100 (mk E c s (hh g)) 98 i v).bind κ = if inb i 40 = true then κ (mk E c s (hh (up g 98 (Int.toNat i) v))) else none := by
  show (if inb i 40 = true then some (put (mk E c s (hh g)) (98 : Nat) (Int.toNat i) v) else none).bind κ = _
  rw [hh_put _ _ _ (dat_arr rfl _)]
  exact bindI
theorem lay_99 {E : List (Nat × Nat)} {c s : Nat} {g : Nat → Nat → Int} : lay? (mk E c s (hh g)) 99 = (100, 40) := rfl
theorem L99 {X : MExt} {E : List (Nat × Nat)} {c s : Nat} {g : Nat → Nat → Int} {k : Int → Option MRes} : (alen X (mk E c s (hh g)) 99).bind k = k 40 := rfl
theorem A99 {X : MExt} {E : List (Nat × Nat)} {c s : Nat} {g : Nat → Nat → Int} {i : Int} {κ : Int → Option MRes} : (aget X 100 (mk E c s (hh g)) 99 i).bind κ = if inb i 40 = true then κ (g 99 (Int.toNat i)) else none := bindI
theorem S99 {E : List (Nat × Nat)} {c s : Nat} {g : Nat → Nat → Int} {i v : Int} {κ : Mem → Option MRes} : (aput 100 (mk E c s (hh g)) 99 i v).bind κ = if inb i 40 = true then κ (mk E c s (hh (up g 99 (Int.toNat i) v))) else none := by
  show (if inb i 40 = true then some (put (mk E c s (hh g)) (99 : Nat) (Int.toNat i) v) else none).bind κ = _
  rw [hh_put _ _ _ (dat_arr rfl _)]
  exact bindI
theorem lay_100 {E : List (Nat × Nat)} {c s : Nat} {g : Nat → Nat → Int} : lay? (mk E c s (hh g)) 100 = (100, 40) := rfl
theorem L100 {X : MExt} {E : List (Nat × Nat)} {c s : Nat} {g : Nat → Nat → Int} {k : Int → Option MRes} : (alen X (mk E c s (hh g)) 100).bind k = k 40 := rfl
theorem A100 {X : MExt} {E : List (Nat × Nat)} {c s : Nat} {g : Nat → Nat → Int} {i : Int} {κ : Int → Option MRes} : (aget X 100 (mk E c s (hh g)) 100 i).bind κ = if inb i 40 = true then κ (g 100 (Int.toNat i)) else none := bindI
theorem S100 {E : List (Nat × Nat)} {c s : Nat} {g : Nat → Nat → Int} {i v : Int} {κ : Mem → Option MRes} : (aput 100 (mk E c s (hh g)) 100 i v).bind κ = if inb i 40 = true then κ (mk E c s (hh (up g 100 (Int.toNat i) v))) else none := by
  show (if inb i 40 = true then some (put (mk E c s (hh g)) (100 : Nat) (Int.toNat i) v) else none).bind κ = _
  rw [hh_put _ _ _ (dat_arr rfl _)]
  exact bindI
theorem lay_101 {E : List (Nat × Nat)} {c s : Nat} {g : Nat → Nat → Int} : lay? (mk E c s (hh g)) 101 = (101, 40) := rfl
theorem L101 {X : MExt} {E : List (Nat × Nat)} {c s : Nat} {g : Nat → Nat → Int} {k : Int → Option MRes} : (alen X (mk E c s (hh g)) 101).bind k = k 40 := rfl
theorem A101 {X : MExt} {E : List (Nat × Nat)} {c s : Nat} {g : Nat → Nat → Int} {i : Int} {κ : Int → Option MRes} : (aget X 101 (mk E c s (hh g)) 101 i).bind κ = if inb i 40 = true then κ (g 101 (Int.toNat i)) else none := bindI
theorem S101 {E : List (Nat × Nat)} {c s : Nat} {g : Nat → Nat → Int} {i v : Int} {κ : Mem → Option MRes} : (aput 101 (mk E c s (hh g)) 101 i v).bind κ = if inb i 40 = true then κ (mk E c s (hh (up g 101 (Int.toNat i) v))) else none := by
  show (if inb i 40 = true then some (put (mk E c s (hh g)) (101 : Nat) (Int.toNat i) v) else none).bind κ = _
  rw [hh_put _ _ _ (dat_arr rfl _)]
  exact bindI
theorem lay_102 {E : List (Nat × Nat)} {c s : Nat} {g : Nat → Nat → Int} : lay? (mk E c s (hh g)) 102 = (100, 40) := rfl
theorem L102 {X : MExt} {E : List (Nat × Nat)} {c s : Nat} {g : Nat → Nat → Int} {k : Int → Option MRes} : (alen X (mk E c s (hh g)) 102).bind k = k 40 := rfl
theorem A102 {X : MExt} {E : List (Nat × Nat)} {c s : Nat} {g : Nat → Nat → Int} {i : Int} {κ : Int → Option MRes} : (aget X 100 (mk E c s (hh g)) 102 i).bind κ = if inb i 40 = true then κ (g 102 (Int.toNat i)) else none := bindI
theorem S102 {E : List (Nat × Nat)} {c s : Nat} {g : Nat → Nat → Int} {i v : Int} {κ : Mem → Option MRes} : (aput 100 (mk E c s (hh g)) 102 i v).bind κ = if inb i 40 = true then κ (mk E c s (hh (up g 102 (Int.toNat i) v))) else none := by
  show (if inb i 40 = true then some (put (mk E c s (hh g)) (102 : Nat) (Int.toNat i) v) else none).bind κ = _
  rw [hh_put _ _ _ (dat_arr rfl _)]
  exact bindI
theorem lay_103 {E : List (Nat × Nat)} {c s : Nat} {g : Nat → Nat → Int} : lay? (mk E c s (hh g)) 103 = (100, 40) := rfl
theorem L103 {X : MExt} {E : List (Nat × Nat)} {c s : Nat} {g : Nat → Nat → Int} {k : Int → Option MRes} : (alen X (mk E c s (hh g)) 103).bind k = k 40 := rfl
theorem A103 {X : MExt} {E : List (Nat × Nat)} {c s : Nat} {g : Nat → Nat → Int} {i : Int} {κ : Int → Option MRes} : (aget X 100 (mk E c s (hh g)) 103 i).bind κ = if inb i 40 = true then κ (g 103 (Int.toNat i)) else none := bindI
theorem S103 {E : List (Nat × Nat)} {c s : Nat} {g : Nat → Nat → Int} {i v : Int} {κ : Mem → Option MRes} : (aput 100 (mk E c s (hh g)) 103 i v).bind κ = if inb i 40 = true then κ (mk E c s (hh (up g 103 (Int.toNat i) v))) else none := by
  show (if inb i 40 = true then some (put (mk E c s (hh g)) (103 : Nat) (Int.toNat i) v) else none).bind κ = _
  rw [hh_put _ _ _ (dat_arr rfl _)]
  exact bindI
theorem lay_104 {E : List (Nat × Nat)} {c s : Nat} {g : Nat → Nat → Int} : lay? (mk E c s (hh g)) 104 = (102, 40) := rfl
theorem L104 {X : MExt} {E : List (Nat × Nat)} {c s : Nat} {g : Nat → Nat → Int} {k : Int → Option MRes} : (alen X (mk E c s (hh g)) 104).bind k = k 40 := rfl
theorem A104 {X : MExt} {E : List (Nat × Nat)} {c s : Nat} {g : Nat → Nat → Int} {i : Int} {κ : Int → Option MRes} : (aget X 102 (mk E c s (hh g)) 104 i).bind κ = if inb i 40 = true then κ (g 104 (Int.toNat i)) else none := bindI
theorem S104 {E : List (Nat × Nat)} {c s : Nat} {g : Nat → Nat → Int} {i v : Int} {κ : Mem → Option MRes} : (aput 102 (mk E c s (hh g)) 104 i v).bind κ = if inb i 40 = true then κ (mk E c s (hh (up g 104 (Int.toNat i) v))) else none := by
  show (if inb i 40 = true then some (put (mk E c s (hh g)) (104 : Nat) (Int.toNat i) v) else none).bind κ = _
  rw [hh_put _ _ _ (dat_arr rfl _)]
  exact bindI
theorem lay_105 {E : List (Nat × Nat)} {c s : Nat} {g : Nat → Nat → Int} : lay? (mk E c s (hh g)) 105 = (100, 1000) := rfl
theorem L105 {X : MExt} {E : List (Nat × Nat)} {c s : Nat} {g : Nat → Nat → Int} {k : Int → Option MRes} : (alen X (mk E c s (hh g)) 105).bind k = k 1000 := rfl
theorem A105 {X : MExt} {E : List (Nat × Nat)} {c s : Nat} {g : Nat → Nat → Int} {i : Int} {κ : Int → Option MRes} : (aget X 100 (mk E c s (hh g)) 105 i).bind κ = if inb i 1000 = true then κ (g 105 (Int.toNat i)) else none := bindI
theorem S105 {E : List (Nat × Nat)} {c s : Nat} {g : Nat → Nat → Int} {i v : Int} {κ : Mem → Option MRes} : (aput 100 (mk E c s (hh g)) 105 i v).bind κ = if inb i 1000 = true then κ (mk E c s (hh (up g 105 (Int.toNat i) v))) else none := by
  show (if inb i 1000 = true then some (put (mk E c s (hh g)) (105 : Nat) (Int.toNat i) v) else none).bind κ = _
  rw [hh_put _ _ _ (dat_arr rfl _)]
  exact bindI
theorem lay_106 {E : List (Nat × Nat)} {c s : Nat} {g : Nat → Nat → Int} : lay? (mk E c s (hh g)) 106 = (102, 10) := rfl
theorem L106 {X : MExt} {E : List (Nat × Nat)} {c s : Nat} {g : Nat → Nat → Int} {k : Int → Option MRes} : (alen X (mk E c s (hh g)) 106).bind k = k 10 := rfl
theorem A106 {X : MExt} {E : List (Nat × Nat)} {c s : Nat} {g : Nat → Nat → Int} {i : Int} {κ : Int → Option MRes} : (aget X 102 (mk E c s (hh g)) 106 i).bind κ = if inb i 10 = true then κ (g 106 (Int.toNat i)) else none := bindI
theorem S106 {E : List (Nat × Nat)} {c s : Nat} {g : Nat → Nat → Int} {i v : Int} {κ : Mem → Option MRes} : (aput 102 (mk E c s (hh g)) 106 i v).bind κ = if inb i 10 = true then κ (mk E c s (hh (up g 106 (Int.toNat i) v))) else none := by
  show (if inb i 10 = true then some (put (mk E c s (hh g)) (106 : Nat) (Int.toNat i) v) else none).bind κ = _
  rw [hh_put _ _ _ (dat_arr rfl _)]
  exact bindI
theorem lay_107 {E : List (Nat × Nat)} {c s : Nat} {g : Nat → Nat → Int} : lay? (mk E c s (hh g)) 107 = (100, 13) := rfl
theorem L107 {X : MExt} {E : List (Nat × Nat)} {c s : Nat} {g : Nat → Nat → Int} {k : Int → Option MRes} : (alen X (mk E c s (hh g)) 107).bind k = k 13 := rfl
theorem A107 {X : MExt} {E : List (Nat × Nat)} {c s : Nat} {g : Nat → Nat → Int} {i : Int} {κ : Int → Option MRes} : (aget X 100 (mk E c s (hh g)) 107 i).bind κ = if inb i 13 = true then κ (g 107 (Int.toNat i)) else none := bindI
theorem S107 {E : List (Nat × Nat)} {c s : Nat} {g : Nat → Nat → Int} {i v : Int} {κ : Mem → Option MRes} : (aput 100 (mk E c s (hh g)) 107 i v).bind κ = if inb i 13 = true then κ (mk E c s (hh (up g 107 (Int.toNat i) v))) else none := by
  show (if inb i 13 = true then some (put (mk E c s (hh g)) (107 : Nat) (Int.toNat i) v) else none).bind κ = _
  rw [hh_put _ _ _ (dat_arr rfl _)]
  exact bindI
theorem lay_108 {E : List (Nat × Nat)} {c s : Nat} {g : Nat → Nat → Int} : lay? (mk E c s (hh g)) 108 = (100, 13) := rfl
theorem L108 {X : MExt} {E : List (Nat × Nat)} {c s : Nat} {g : Nat → Nat → Int} {k : Int → Option MRes} : (alen X (mk E c s (hh g)) 108).bind k = k 13 := rfl
theorem A108 {X : MExt} {E : List (Nat × Nat)} {c s : Nat} {g : Nat → Nat → Int} {i : Int} {κ : Int → Option MRes} : (aget X 100 (mk E c s (hh g)) 108 i).bind κ = if inb i 13 = true then κ (g 108 (Int.toNat i)) else none := bindI
theorem S108 {E : List (Nat × Nat)} {c s : Nat} {g : Nat → Nat → Int} {i v : Int} {κ : Mem → Option MRes} : (aput 100 (mk E c s (hh g)) 108 i v).bind κ = if inb i 13 = true then κ (mk E c s (hh (up g 108 (Int.toNat i) v))) else none := by
  show (if inb i 13 = true then some (put (mk E c s (hh g)) (108 : Nat) (Int.toNat i) v) else none).bind κ = _
  rw [hh_put _ _ _ (dat_arr rfl _)]
  exact bindI
theorem lay_109 {E : List (Nat × Nat)} {c s : Nat} {g : Nat → Nat → Int} : lay? (mk E c s (hh g)) 109 = (100, 13) := rfl
theorem L109 {X : MExt} {E : List (Nat × Nat)} {c s : Nat} {g : Nat → Nat → Int} {k : Int → Option MRes} : (alen X (mk E c s (hh g)) 109).bind k = k 13 := rfl
theorem A109 {X : MExt} {E : List (Nat × Nat)} {c s : Nat} {g : Nat → Nat → Int} {i : Int} {κ : Int → Option MRes} : (aget X 100 (mk E c s (hh g)) 109 i).bind κ = if inb i 13 = true then κ (g 109 (Int.toNat i)) else none := bindI
theorem S109 {E : List (Nat × Nat)} {c s : Nat} {g : Nat → Nat → Int} {i v : Int} {κ : Mem → Option MRes} : (aput 100 (mk E c s (hh g)) 109 i v).bind κ = if inb i 13 = true then κ (mk E c s (hh (up g 109 (Int.toNat i) v))) else none := by
  show (if inb i 13 = true then some (put (mk E c s (hh g)) (109 : Nat) (Int.toNat i) v) else none).bind κ = _
  rw [hh_put _ _ _ (dat_arr rfl _)]
  exact bindI
theorem lay_110 {E : List (Nat × Nat)} {c s : Nat} {g : Nat → Nat → Int} : lay? (mk E c s (hh g)) 110 = (102, 117) := rfl
theorem L110 {X : MExt} {E : List (Nat × Nat)} {c s : Nat} {g : Nat → Nat → Int} {k : Int → Option MRes} : (alen X (mk E c s (hh g)) 110).bind k = k 117 := rfl
theorem A110 {X : MExt} {E : List (Nat × Nat)} {c s : Nat} {g : Nat → Nat → Int} {i : Int} {κ : Int → Option MRes} : (aget X 102 (mk E c s (hh g)) 110 i).bind κ = if inb i 117 = true then κ (g 110 (Int.toNat i)) else none := bindI
theorem S110 {E : List (Nat × Nat)} {c s : Nat} {g : Nat → Nat → Int} {i v : Int} {κ : Mem → Option MRes} : (aput 102 (mk E c s (hh g)) 110 i v).bind κ = if inb i 117 = true then κ (mk E c s (hh (up g 110 (Int.toNat i) v))) else none := by
  show (if inb i 117 = true then some (put (mk E c s (hh g)) (110 : Nat) (Int.toNat i) v) else none).bind κ = _
  rw [hh_put _ _ _ (dat_arr rfl _)]
  exact bindI
theorem lay_111 {E : List (Nat × Nat)} {c s : Nat} {g : Nat → Nat → Int} : lay? (mk E c s (hh g)) 111 = (100, 117) := rfl
theorem L111 {X : MExt} {E : List (Nat × Nat)} {c s : Nat} {g : Nat → Nat → Int} {k : Int → Option MRes} : (alen X (mk E c s (hh g)) 111).bind k = k 117 := rfl
theorem A111 {X : MExt} {E : List (Nat × Nat)} {c s : Nat} {g : Nat → Nat → Int} {i : Int} {κ : Int → Option MRes} : (aget X 100 (mk E c s (hh g)) 111 i).bind κ = if inb i 117 = true then κ (g 111 (Int.toNat i)) else none := bindI
theorem S111 {E : List (Nat × Nat)} {c s : Nat} {g : Nat → Nat → Int} {i v : Int} {κ : Mem → Option MRes} : (aput 100 (mk E c s (hh g)) 111 i v).bind κ = if inb i 117 = true then κ (mk E c s (hh (up g 111 (Int.toNat i) v))) else none := by
  show (if inb i 117 = true then some (put (mk E c s (hh g)) (111 : Nat) (Int.toNat i) v) else none).bind κ = _
  rw [hh_put _ _ _ (dat_arr rfl _)]
  exact bindI
theorem lay_112 {E : List (Nat × Nat)} {c s : Nat} {g : Nat → Nat → Int} : lay? (mk E c s (hh g)) 112 = (100, 117) := rfl
theorem L112 {X : MExt} {E : List (Nat × Nat)} {c s : Nat} {g : Nat → Nat → Int} {k : Int → Option MRes} : (alen X (mk E c s (hh g)) 112).bind k = k 117 := rfl
theorem A112 {X : MExt} {E : List (Nat × Nat)} {c s : Nat} {g : Nat → Nat → Int} {i : Int} {κ : Int → Option MRes} : (aget X 100 (mk E c s (hh g)) 112 i).bind κ = if inb i 117 = true then κ (g 112 (Int.toNat i)) else none := bindI
theorem S112 {E : List (Nat × Nat)} {c s : Nat} {g : Nat → Nat → Int} {i v : Int} {κ : Mem → Option MRes} : (aput 100 (mk E c s (hh g)) 112 i v).bind κ = if inb i 117 = true then κ (mk E c s (hh (up g 112 (Int.toNat i) v))) else none := by
  show (if inb i 117 = true then some (put (mk E c s (hh g)) (112 : Nat) (Int.toNat i) v) else none).bind κ = _
  rw [hh_put _ _ _ (dat_arr rfl _)]
  exact bindI
theorem lay_113 {E : List (Nat × Nat)} {c s : Nat} {g : Nat → Nat → Int} : lay? (mk E c s (hh g)) 113 = (100, 117) := rfl
theorem L113 {X : MExt} {E : List (Nat × Nat)} {c s : Nat} {g : Nat → Nat → Int} {k : Int → Option MRes} : (alen X (mk E c s (hh g)) 113).bind k = k 117 := rfl
theorem A113 {X : MExt} {E : List (Nat × Nat)} {c s : Nat} {g : Nat → Nat → Int} {i : Int} {κ : Int → Option MRes} : (aget X 100 (mk E c s (hh g)) 113 i).bind κ = if inb i 117 = true then κ (g 113 (Int.toNat i)) else none := bindI
theorem S113 {E : List (Nat × Nat)} {c s : Nat} {g : Nat → Nat → Int} {i v : Int} {κ : Mem → Option MRes} : (aput 100 (mk E c s (hh g)) 113 i v).bind κ = if inb i 117 = true then κ (mk E c s (hh (up g 113 (Int.toNat i) v))) else none := by
  show (if inb i 117 = true then some (put (mk E c s (hh g)) (113 : Nat) (Int.toNat i) v) else none).bind κ = _
  rw [hh_put _ _ _ (dat_arr rfl _)]
  exact bindI
theorem lay_114 {E : List (Nat × Nat)} {c s : Nat} {g : Nat → Nat → Int} : lay? (mk E c s (hh g)) 114 = (100, 13000) := rfl
theorem L114 {X : MExt} {E : List (Nat × Nat)} {c s : Nat} {g : Nat → Nat → Int} {k : Int → Option MRes} : (alen X (mk E c s (hh g)) 114).bind k = k 13000 := rfl
theorem A114 {X : MExt} {E : List (Nat × Nat)} {c s : Nat} {g : Nat → Nat → Int} {i : Int} {κ : Int → Option MRes} : (aget X 100 (mk E c s (hh g)) 114 i).bind κ = if inb i 13000 = true then κ (g 114 (Int.toNat i)) else none := bindI
theorem S114 {E : List (Nat × Nat)} {c s : Nat} {g : Nat → Nat → Int} {i v : Int} {κ : Mem → Option MRes} : (aput 100 (mk E c s (hh g)) 114 i v).bind κ = if inb i 13000 = true then κ (mk E c s (hh (up g 114 (Int.toNat i) v))) else none := by
  show (if inb i 13000 = true then some (put (mk E c s (hh g)) (114 : Nat) (Int.toNat i) v) else none).bind κ = _
  rw [hh_put _ _ _ (dat_arr rfl _)]
  exact bindI
theorem lay_115 {E : List (Nat × Nat)} {c s : Nat} {g : Nat → Nat → Int} : lay? (mk E c s (hh g)) 115 = (100, 7) := rfl
theorem L115 {X : MExt} {E : List (Nat × Nat)} {c s : Nat} {g : Nat → Nat → Int} {k : Int → Option MRes} : (alen X (mk E c s (hh g)) 115).bind k = k 7 := rfl
theorem A115 {X : MExt} {E : List (Nat × Nat)} {c s : Nat} {g : Nat → Nat → Int} {i : Int} {κ : Int → Option MRes} : (aget X 100 (mk E c s (hh g)) 115 i).bind κ = if inb i 7 = true then κ (g 115 (Int.toNat i)) else none := bindI
theorem S115 {E : List (Nat × Nat)} {c s : Nat} {g : Nat → Nat → Int} {i v : Int} {κ : Mem → Option MRes} : (aput 100 (mk E c s (hh g)) 115 i v).bind κ = if inb i 7 = true then κ (mk E c s (hh (up g 115 (Int.toNat i) v))) else none := by
  show (if inb i 7 = true then some (put (mk E c s (hh g)) (115 : Nat) (Int.toNat i) v) else none).bind κ = _
  rw [hh_put _ _ _ (dat_arr rfl _)]
  exact bindI
theorem lay_116 {E : List (Nat × Nat)} {c s : Nat} {g : Nat → Nat → Int} : lay? (mk E c s (hh g)) 116 = (102, 7) := rfl
theorem L116 {X : MExt} {E : List (Nat × Nat)} {c s : Nat} {g : Nat → Nat → Int} {k : Int → Option MRes} : (alen X (mk E c s (hh g)) 116).bind k = k 7 := rfl
theorem A116 {X : MExt} {E : List (Nat × Nat)} {c s : Nat} {g : Nat → Nat → Int} {i : Int} {κ : Int → Option MRes} : (aget X 102 (mk E c s (hh g)) 116 i).bind κ = if inb i 7 = true then κ (g 116 (Int.toNat i)) else none := bindI
theorem S116 {E : List (Nat × Nat)} {c s : Nat} {g : Nat → Nat → Int} {i v : Int} {κ : Mem → Option MRes} : (aput 102 (mk E c s (hh g)) 116 i v).bind κ = if inb i 7 = true then κ (mk E c s (hh (up g 116 (Int.toNat i) v))) else none := by
  show (if inb i 7 = true then some (put (mk E c s (hh g)) (116 : Nat) (Int.toNat i) v) else none).bind κ = _
  rw [hh_put _ _ _ (dat_arr rfl _)]
  exact bindI
theorem lay_117 {E : List (Nat × Nat)} {c s : Nat} {g : Nat → Nat → Int} : lay? (mk E c s (hh g)) 117 = (100, 7) := rfl
theorem L117 {X : MExt} {E : List (Nat × Nat)} {c s : Nat} {g : Nat → Nat → Int} {k : Int → Option MRes} : (alen X (mk E c s (hh g)) 117).bind k = k 7 := rfl
theorem A117 {X : MExt} {E : List (Nat × Nat)} {c s : Nat} {g : Nat → Nat → Int} {i : Int} {κ : Int → Option MRes} : (aget X 100 (mk E c s (hh g)) 117 i).bind κ = if inb i 7 = true then κ (g 117 (Int.toNat i)) else none := bindI
theorem S117 {E : List (Nat × Nat)} {c s : Nat} {g : Nat → Nat → Int} {i v : Int} {κ : Mem → Option MRes} : (aput 100 (mk E c s (hh g)) 117 i v).bind κ = if inb i 7 = true then κ (mk E c s (hh (up g 117 (Int.toNat i) v))) else none := by
  show (if inb i 7 = true then some (put (mk E c s (hh g)) (117 : Nat) (Int.toNat i) v) else none).bind κ = _
  rw [hh_put _ _ _ (dat_arr rfl _)]
  exact bindI
theorem lay_118 {E : List (Nat × Nat)} {c s : Nat} {g : Nat → Nat → Int} : lay? (mk E c s (hh g)) 118 = (100, 7) := rfl
theorem L118 {X : MExt} {E : List (Nat × Nat)} {c s : Nat} {g : Nat → Nat → Int} {k : Int → Option MRes} : (alen X (mk E c s (hh g)) 118).bind k = k 7 := rfl
theorem A118 {X : MExt} {E : List (Nat × Nat)} {c s : Nat} {g : Nat → Nat → Int} {i : Int} {κ : Int → Option MRes} : (aget X 100 (mk E c s (hh g)) 118 i).bind κ = if inb i 7 = true then κ (g 118 (Int.toNat i)) else none := bindI
theorem S118 {E : List (Nat × Nat)} {c s : Nat} {g : Nat → Nat → Int} {i v : Int} {κ : Mem → Option MRes} : (aput 100 (mk E c s (hh g)) 118 i v).bind κ = if inb i 7 = true then κ (mk E c s (hh (up g 118 (Int.toNat i) v))) else none := by
  show (if inb i 7 = true then some (put (mk E c s (hh g)) (118 : Nat) (Int.toNat i) v) else none).bind κ = _
  rw [hh_put _ _ _ (dat_arr rfl _)]
  exact bindI
theorem lay_119 {E : List (Nat × Nat)} {c s : Nat} {g : Nat → Nat → Int} : lay? (mk E c s (hh g)) 119 = (100, 7) := rfl
theorem L119 {X : MExt} {E : List (Nat × Nat)} {c s : Nat} {g : Nat → Nat → Int} {k : Int → Option MRes} : (alen X (mk E c s (hh g)) 119).bind k = k 7 := rfl
theorem A119 {X : MExt} {E : List (Nat × Nat)} {c s : Nat} {g : Nat → Nat → Int} {i : Int} {κ : Int → Option MRes} : (aget X 100 (mk E c s (hh g)) 119 i).bind κ = if inb i 7 = true then κ (g 119 (Int.toNat i)) else none := bindI
theorem S119 {E : List (Nat × Nat)} {c s : Nat} {g : Nat → Nat → Int} {i v : Int} {κ : Mem → Option MRes} : (aput 100 (mk E c s (hh g)) 119 i v).bind κ = if inb i 7 = true then κ (mk E c s (hh (up g 119 (Int.toNat i) v))) else none := by
  show (if inb i 7 = true then some (put (mk E c s (hh g)) (119 : Nat) (Int.toNat i) v) else none).bind κ = _
  rw [hh_put _ _ _ (dat_arr rfl _)]
  exact bindI
theorem lay_120 {E : List (Nat × Nat)} {c s : Nat} {g : Nat → Nat → Int} : lay? (mk E c s (hh g)) 120 = (100, 7) := rfl
theorem L120 {X : MExt} {E : List (Nat × Nat)} {c s : Nat} {g : Nat → Nat → Int} {k : Int → Option MRes} : (alen X (mk E c s (hh g)) 120).bind k = k 7 := rfl
theorem A120 {X : MExt} {E : List (Nat × Nat)} {c s : Nat} {g : Nat → Nat → Int} {i : Int} {κ : Int → Option MRes} : (aget X 100 (mk E c s (hh g)) 120 i).bind κ = if inb i 7 = true then κ (g 120 (Int.toNat i)) else none := bindI
theorem S120 {E : List (Nat × Nat)} {c s : Nat} {g : Nat → Nat → Int} {i v : Int} {κ : Mem → Option MRes} : (aput 100 (mk E c s (hh g)) 120 i v).bind κ = if inb i 7 = true then κ (mk E c s (hh (up g 120 (Int.toNat i) v))) else none := by
  show (if inb i 7 = true then some (put (mk E c s (hh g)) (120 : Nat) (Int.toNat i) v) else none).bind κ = _
  rw [hh_put _ _ _ (dat_arr rfl _)]
  exact bindI
theorem lay_121 {E : List (Nat × Nat)} {c s : Nat} {g : Nat → Nat → Int} : lay? (mk E c s (hh g)) 121 = (100, 7) := rfl
theorem L121 {X : MExt} {E : List (Nat × Nat)} {c s : Nat} {g : Nat → Nat → Int} {k : Int → Option MRes} : (alen X (mk E c s (hh g)) 121).bind k = k 7 := rfl
theorem A121 {X : MExt} {E : List (Nat × Nat)} {c s : Nat} {g : Nat → Nat → Int} {i : Int} {κ : Int → Option MRes} : (aget X 100 (mk E c s (hh g)) 121 i).bind κ = if inb i 7 = true then κ (g 121 (Int.toNat i)) else none := bindI
theorem S121 {E : List (Nat × Nat)} {c s : Nat} {g : Nat → Nat → Int} {i v : Int} {κ : Mem → Option MRes} : (aput 100 (mk E c s (hh g)) 121 i v).bind κ = if inb i 7 = true then κ (mk E c s (hh (up g 121 (Int.toNat i) v))) else none := by
  show (if inb i 7 = true then some (put (mk E c s (hh g)) (121 : Nat) (Int.toNat i) v) else none).bind κ = _
  rw [hh_put _ _ _ (dat_arr rfl _)]
  exact bindI
theorem lay_122 {E : List (Nat × Nat)} {c s : Nat} {g : Nat → Nat → Int} : lay? (mk E c s (hh g)) 122 = (100, 7) := rfl
theorem L122 {X : MExt} {E : List (Nat × Nat)} {c s : Nat} {g : Nat → Nat → Int} {k : Int → Option MRes} : (alen X (mk E c s (hh g)) 122).bind k = k 7 := rfl
theorem A122 {X : MExt} {E : List (Nat × Nat)} {c s : Nat} {g : Nat → Nat → Int} {i : Int} {κ : Int → Option MRes} : (aget X 100 (mk E c s (hh g)) 122 i).bind κ = if inb i 7 = true then κ (g 122 (Int.toNat i)) else none := bindI
theorem S122 {E : List (Nat × Nat)} {c s : Nat} {g : Nat → Nat → Int} {i v : Int} {κ : Mem → Option MRes} : (aput 100 (mk E c s (hh g)) 122 i v).bind κ = if inb i 7 = true then κ (mk E c s (hh (up g 122 (Int.toNat i) v))) else none := by
  show (if inb i 7 = true then some (put (mk E c s (hh g)) (122 : Nat) (Int.toNat i) v) else none).bind κ = _
  rw [hh_put _ _ _ (dat_arr rfl _)]
  exact bindI
theorem lay_123 {E : List (Nat × Nat)} {c s : Nat} {g : Nat → Nat → Int} : lay? (mk E c s (hh g)) 123 = (100, 7) := rfl
theorem L123 {X : MExt} {E : List (Nat × Nat)} {c s : Nat} {g : Nat → Nat → Int} {k : Int → Option MRes} : (alen X (mk E c s (hh g)) 123).bind k = k 7 := rfl
theorem A123 {X : MExt} {E : List (Nat × Nat)} {c s : Nat} {g : Nat → Nat → Int} {i : Int} {κ : Int → Option MRes} : (aget X 100 (mk E c s (hh g)) 123 i).bind κ = if inb i 7 = true then κ (g 123 (Int.toNat i)) else none := bindI
theorem S123 {E : List (Nat × Nat)} {c s : Nat} {g : Nat → Nat → Int} {i v : Int} {κ : Mem → Option MRes} : (aput 100 (mk E c s (hh g)) 123 i v).bind κ = if inb i 7 = true then κ (mk E c s (hh (up g 123 (Int.toNat i) v))) else none := by
  show (if inb i 7 = true then some (put (mk E c s (hh g)) (123 : Nat) (Int.toNat i) v) else none).bind κ = _
  rw [hh_put _ _ _ (dat_arr rfl _)]
  exact bindI
theorem lay_124 {E : List (Nat × Nat)} {c s : Nat} {g : Nat → Nat → Int} : lay? (mk E c s (hh g)) 124 = (100, 7) := rfl
theorem L124 {X : MExt} {E : List (Nat × Nat)} {c s : Nat} {g : Nat → Nat → Int} {k : Int → Option MRes} : (alen X (mk E c s (hh g)) 124).bind k = k 7 := rfl
theorem A124 {X : MExt} {E : List (Nat × Nat)} {c s : Nat} {g : Nat → Nat → Int} {i : Int} {κ : Int → Option MRes} : (aget X 100 (mk E c s (hh g)) 124 i).bind κ = if inb i 7 = true then κ (g 124 (Int.toNat i)) else none := bindI
theorem S124 {E : List (Nat × Nat)} {c s : Nat} {g : Nat → Nat → Int} {i v : Int} {κ : Mem → Option MRes} : (aput 100 (mk E c s (hh g)) 124 i v).bind κ = if inb i 7 = true then κ (mk E c s (hh (up g 124 (Int.toNat i) v))) else none := by
  show (if inb i 7 = true then some (put (mk E c s (hh g)) (124 : Nat) (Int.toNat i) v) else none).bind κ = _
  rw [hh_put _ _ _ (dat_arr rfl _)]
  exact bindI
theorem lay_125 {E : List (Nat × Nat)} {c s : Nat} {g : Nat → Nat → Int} : lay? (mk E c s (hh g)) 125 = (100, 7) := rfl
theorem L125 {X : MExt} {E : List (Nat × Nat)} {c s : Nat} {g : Nat → Nat → Int} {k : Int → Option MRes} : (alen X (mk E c s (hh g)) 125).bind k = k 7 := rfl
theorem A125 {X : MExt} {E : List (Nat × Nat)} {c s : Nat} {g : Nat → Nat → Int} {i : Int} {κ : Int → Option MRes} : (aget X 100 (mk E c s (hh g)) 125 i).bind κ = if inb i 7 = true then κ (g 125 (Int.toNat i)) else none := bindI
theorem S125 {E : List (Nat × Nat)} {c s : Nat} {g : Nat → Nat → Int} {i v : Int} {κ : Mem → Option MRes} : (aput 100 (mk E c s (hh g)) 125 i v).bind κ = if inb i 7 = true then κ (mk E c s (hh (up g 125 (Int.toNat i) v))) else none := by
  show (if inb i 7 = true then some (put (mk E c s (hh g)) (125 : Nat) (Int.toNat i) v) else none).bind κ = _
  rw [hh_put _ _ _ (dat_arr rfl _)]
  exact bindI
theorem lay_126 {E : List (Nat × Nat)} {c s : Nat} {g : Nat → Nat → Int} : lay? (mk E c s (hh g)) 126 = (100, 20) := rfl
theorem L126 {X : MExt} {E : List (Nat × Nat)} {c s : Nat} {g : Nat → Nat → Int} {k : Int → Option MRes} : (alen X (mk E c s (hh g)) 126).bind k = k 20 := rfl
theorem A126 {X : MExt} {E : List (Nat × Nat)} {c s : Nat} {g : Nat → Nat → Int} {i : Int} {κ : Int → Option MRes} : (aget X 100 (mk E c s (hh g)) 126 i).bind κ = if inb i 20 = true then κ (g 126 (Int.toNat i)) else none := bindI
theorem S126 {E : List (Nat × Nat)} {c s : Nat} {g : Nat → Nat → Int} {i v : Int} {κ : Mem → Option MRes} : (aput 100 (mk E c s (hh g)) 126 i v).bind κ = if inb i 20 = true then κ (mk E c s (hh (up g 126 (Int.toNat i) v))) else none := by
  show (if inb i 20 = true then some (put (mk E c s (hh g)) (126 : Nat) (Int.toNat i) v) else none).bind κ = _
  rw [hh_put _ _ _ (dat_arr rfl _)]
  exact bindI
theorem lay_127 {E : List (Nat × Nat)} {c s : Nat} {g : Nat → Nat → Int} : lay? (mk E c s (hh g)) 127 = (102, 4) := rfl
theorem L127 {X : MExt} {E : List (Nat × Nat)} {c s : Nat} {g : Nat → Nat → Int} {k : Int → Option MRes} : (alen X (mk E c s (hh g)) 127).bind k = k 4 := rfl
theorem A127 {X : MExt} {E : List (Nat × Nat)} {c s : Nat} {g : Nat → Nat → Int} {i : Int} {κ : Int → Option MRes} : (aget X 102 (mk E c s (hh g)) 127 i).bind κ = if inb i 4 = true then κ (g 127 (Int.toNat i)) else none := bindI
theorem S127 {E : List (Nat × Nat)} {c s : Nat} {g : Nat → Nat → Int} {i v : Int} {κ : Mem → Option MRes} : (aput 102 (mk E c s (hh g)) 127 i v).bind κ = if inb i 4 = true then κ (mk E c s (hh (up g 127 (Int.toNat i) v))) else none := by
  show (if inb i 4 = true then some (put (mk E c s (hh g)) (127 : Nat) (Int.toNat i) v) else none).bind κ = _
  rw [hh_put _ _ _ (dat_arr rfl _)]
  exact bindI
theorem lay_128 {E : List (Nat × Nat)} {c s : Nat} {g : Nat → Nat → Int} : lay? (mk E c s (hh g)) 128 = (100, 4) := rfl
theorem L128 {X : MExt} {E : List (Nat × Nat)} {c s : Nat} {g : Nat → Nat → Int} {k : Int → Option MRes} : (alen X (mk E c s (hh g)) 128).bind k = k 4 := rfl
theorem A128 {X : MExt} {E : List (Nat × Nat)} {c s : Nat} {g : Nat → Nat → Int} {i : Int} {κ : Int → Option MRes} : (aget X 100 (mk E c s (hh g)) 128 i).bind κ = if inb i 4 = true then κ (g 128 (Int.toNat i)) else none := bindI
theorem S128 {E : List (Nat × Nat)} {c s : Nat} {g : Nat → Nat → Int} {i v : Int} {κ : Mem → Option MRes} : (aput 100 (mk E c s (hh g)) 128 i v).bind κ = if inb i 4 = true then κ (mk E c s (hh (up g 128 (Int.toNat i) v))) else none := by
  show (if inb i 4 = true then some (put (mk E c s (hh g)) (128 : Nat) (Int.toNat i) v) else none).bind κ = _
  rw [hh_put _ _ _ (dat_arr rfl _)]
  exact bindI
theorem lay_129 {E : List (Nat × Nat)} {c s : Nat} {g : Nat → Nat → Int} : lay? (mk E c s (hh g)) 129 = (100, 24) := rfl
theorem L129 {X : MExt} {E : List (Nat × Nat)} {c s : Nat} {g : Nat → Nat → Int} {k : Int → Option MRes} : (alen X (mk E c s (hh g)) 129).bind k = k 24 := rfl
theorem A129 {X : MExt} {E : List (Nat × Nat)} {c s : Nat} {g : Nat → Nat → Int} {i : Int} {κ : Int → Option MRes} : (aget X 100 (mk E c s (hh g)) 129 i).bind κ = if inb i 24 = true then κ (g 129 (Int.toNat i)) else none := bindI
theorem S129 {E : List (Nat × Nat)} {c s : Nat} {g : Nat → Nat → Int} {i v : Int} {κ : Mem → Option MRes} : (aput 100 (mk E c s (hh g)) 129 i v).bind κ = if inb i 24 = true then κ (mk E c s (hh (up g 129 (Int.toNat i) v))) else none := by
  show (if inb i 24 = true then some (put (mk E c s (hh g)) (129 : Nat) (Int.toNat i) v) else none).bind κ = _
  rw [hh_put _ _ _ (dat_arr rfl _)]
  exact bindI
theorem lay_130 {E : List (Nat × Nat)} {c s : Nat} {g : Nat → Nat → Int} : lay? (mk E c s (hh g)) 130 = (100, 10) := rfl
theorem L130 {X : MExt} {E : List (Nat × Nat)} {c s : Nat} {g : Nat → Nat → Int} {k : Int → Option MRes} : (alen X (mk E c s (hh g)) 130).bind k = k 10 := rfl
theorem A130 {X : MExt} {E : List (Nat × Nat)} {c s : Nat} {g : Nat → Nat → Int} {i : Int} {κ : Int → Option MRes} : (aget X 100 (mk E c s (hh g)) 130 i).bind κ = if inb i 10 = true then κ (g 130 (Int.toNat i)) else none := bindI
theorem S130 {E : List (Nat × Nat)} {c s : Nat} {g : Nat → Nat → Int} {i v : Int} {κ : Mem → Option MRes} : (aput 100 (mk E c s (hh g)) 130 i v).bind κ = if inb i 10 = true then κ (mk E c s (hh (up g 130 (Int.toNat i) v))) else none := by
  show (if inb i 10 = true then some (put (mk E c s (hh g)) (130 : Nat) (Int.toNat i) v) else none).bind κ = _
  rw [hh_put _ _ _ (dat_arr rfl _)]
  exact bindI
theorem lay_131 {E : List (Nat × Nat)} {c s : Nat} {g : Nat → Nat → Int} : lay? (mk E c s (hh g)) 131 = (100, 3) := rfl
theorem L131 {X : MExt} {E : List (Nat × Nat)} {c s : Nat} {g : Nat → Nat → Int} {k : Int → Option MRes} : (alen X (mk E c s (hh g)) 131).bind k = k 3 := rfl
theorem A131 {X : MExt} {E : List (Nat × Nat)} {c s : Nat} {g : Nat → Nat → Int} {i : Int} {κ : Int → Option MRes} : (aget X 100 (mk E c s (hh g)) 131 i).bind κ = if inb i 3 = true then κ (g 131 (Int.toNat i)) else none := bindI
theorem S131 {E : List (Nat × Nat)} {c s : Nat} {g : Nat → Nat → Int} {i v : Int} {κ : Mem → Option MRes} : (aput 100 (mk E c s (hh g)) 131 i v).bind κ = if inb i 3 = true then κ (mk E c s (hh (up g 131 (Int.toNat i) v))) else none := by
  show (if inb i 3 = true then some (put (mk E c s (hh g)) (131 : Nat) (Int.toNat i) v) else none).bind κ = _
  rw [hh_put _ _ _ (dat_arr rfl _)]
  exact bindI
theorem lay_132 {E : List (Nat × Nat)} {c s : Nat} {g : Nat → Nat → Int} : lay? (mk E c s (hh g)) 132 = (100, 10) := rfl
theorem L132 {X : MExt} {E : List (Nat × Nat)} {c s : Nat} {g : Nat → Nat → Int} {k : Int → Option MRes} : (alen X (mk E c s (hh g)) 132).bind k = k 10 := rfl
theorem A132 {X : MExt} {E : List (Nat × Nat)} {c s : Nat} {g : Nat → Nat → Int} {i : Int} {κ : Int → Option MRes} : (aget X 100 (mk E c s (hh g)) 132 i).bind κ = if inb i 10 = true then κ (g 132 (Int.toNat i)) else none := bindI
theorem S132 {E : List (Nat × Nat)} {c s : Nat} {g : Nat → Nat → Int} {i v : Int} {κ : Mem → Option MRes} : (aput 100 (mk E c s (hh g)) 132 i v).bind κ = if inb i 10 = true then κ (mk E c s (hh (up g 132 (Int.toNat i) v))) else none := by
  show (if inb i 10 = true then some (put (mk E c s (hh g)) (132 : Nat) (Int.toNat i) v) else none).bind κ = _
  rw [hh_put _ _ _ (dat_arr rfl _)]
  exact bindI
theorem lay_133 {E : List (Nat × Nat)} {c s : Nat} {g : Nat → Nat → Int} : lay? (mk E c s (hh g)) 133 = (100, 10) := rfl
theorem L133 {X : MExt} {E : List (Nat × Nat)} {c s : Nat} {g : Nat → Nat → Int} {k : Int → Option MRes} : (alen X (mk E c s (hh g)) 133).bind k = k 10 := rfl
theorem A133 {X : MExt} {E : List (Nat × Nat)} {c s : Nat} {g : Nat → Nat → Int} {i : Int} {κ : Int → Option MRes} : (aget X 100 (mk E c s (hh g)) 133 i).bind κ = if inb i 10 = true then κ (g 133 (Int.toNat i)) else none := bindI
theorem S133 {E : List (Nat × Nat)} {c s : Nat} {g : Nat → Nat → Int} {i v : Int} {κ : Mem → Option MRes} : (aput 100 (mk E c s (hh g)) 133 i v).bind κ = if inb i 10 = true then κ (mk E c s (hh (up g 133 (Int.toNat i) v))) else none := by
  show (if inb i 10 = true then some (put (mk E c s (hh g)) (133 : Nat) (Int.toNat i) v) else none).bind κ = _
  rw [hh_put _ _ _ (dat_arr rfl _)]
  exact bindI
theorem lay_134 {E : List (Nat × Nat)} {c s : Nat} {g : Nat → Nat → Int} : lay? (mk E c s (hh g)) 134 = (100, 10) := rfl
theorem L134 {X : MExt} {E : List (Nat × Nat)} {c s : Nat} {g : Nat → Nat → Int} {k : Int → Option MRes} : (alen X (mk E c s (hh g)) 134).bind k = k 10 := rfl
theorem A134 {X : MExt} {E : List (Nat × Nat)} {c s : Nat} {g : Nat → Nat → Int} {i : Int} {κ : Int → Option MRes} : (aget X 100 (mk E c s (hh g)) 134 i).bind κ = if inb i 10 = true then κ (g 134 (Int.toNat i)) else none := bindI
theorem S134 {E : List (Nat × Nat)} {c s : Nat} {g : Nat → Nat → Int} {i v : Int} {κ : Mem → Option MRes} : (aput 100 (mk E c s (hh g)) 134 i v).bind κ = if inb i 10 = true then κ (mk E c s (hh (up g 134 (Int.toNat i) v))) else none := by
  show (if inb i 10 = true then some (put (mk E c s (hh g)) (134 : Nat) (Int.toNat i) v) else none).bind κ = _
  rw [hh_put _ _ _ (dat_arr rfl _)]
  exact bindI
theorem lay_135 {E : List (Nat × Nat)} {c s : Nat} {g : Nat → Nat → Int} : lay? (mk E c s (hh g)) 135 = (100, 3) := rfl
theorem L135 {X : MExt} {E : List (Nat × Nat)} {c s : Nat} {g : Nat → Nat → Int} {k : Int → Option MRes} : (alen X (mk E c s (hh g)) 135).bind k = k 3 := rfl
theorem A135 {X : MExt} {E : List (Nat × Nat)} {c s : Nat} {g : Nat → Nat → Int} {i : Int} {κ : Int → Option MRes} : (aget X 100 (mk E c s (hh g)) 135 i).bind κ = if inb i 3 = true then κ (g 135 (Int.toNat i)) else none := bindI
theorem S135 {E : List (Nat × Nat)} {c s : Nat} {g : Nat → Nat → Int} {i v : Int} {κ : Mem → Option MRes} : (aput 100 (mk E c s (hh g)) 135 i v).bind κ = if inb i 3 = true then κ (mk E c s (hh (up g 135 (Int.toNat i) v))) else none := by
  show (if inb i 3 = true then some (put (mk E c s (hh g)) (135 : Nat) (Int.toNat i) v) else none).bind κ = _
  rw [hh_put _ _ _ (dat_arr rfl _)]
  exact bindI
theorem lay_136 {E : List (Nat × Nat)} {c s : Nat} {g : Nat → Nat → Int} : lay? (mk E c s (hh g)) 136 = (100, 10) := rfl
theorem L136 {X : MExt} {E : List (Nat × Nat)} {c s : Nat} {g : Nat → Nat → Int} {k : Int → Option MRes} : (alen X (mk E c s (hh g)) 136).bind k = k 10 := rfl
theorem A136 {X : MExt} {E : List (Nat × Nat)} {c s : Nat} {g : Nat → Nat → Int} {i : Int} {κ : Int → Option MRes} : (aget X 100 (mk E c s (hh g)) 136 i).bind κ = if inb i 10 = true then κ (g 136 (Int.toNat i)) else none := bindI
theorem S136 {E : List (Nat × Nat)} {c s : Nat} {g : Nat → Nat → Int} {i v : Int} {κ : Mem → Option MRes} : (aput 100 (mk E c s (hh g)) 136 i v).bind κ = if inb i 10 = true then κ (mk E c s (hh (up g 136 (Int.toNat i) v))) else none := by
  show (if inb i 10 = true then some (put (mk E c s (hh g)) (136 : Nat) (Int.toNat i) v) else none).bind κ = _
  rw [hh_put _ _ _ (dat_arr rfl _)]
  exact bindI
theorem lay_137 {E : List (Nat × Nat)} {c s : Nat} {g : Nat → Nat → Int} : lay? (mk E c s (hh g)) 137 = (100, 10) := rfl
theorem L137 {X : MExt} {E : List (Nat × Nat)} {c s : Nat} {g : Nat → Nat → Int} {k : Int → Option MRes} : (alen X (mk E c s (hh g)) 137).bind k = k 10 := rfl
theorem A137 {X : MExt} {E : List (Nat × Nat)} {c s : Nat} {g : Nat → Nat → Int} {i : Int} {κ : Int → Option MRes} : (aget X 100 (mk E c s (hh g)) 137 i).bind κ = if inb i 10 = true then κ (g 137 (Int.toNat i)) else none := bindI
theorem S137 {E : List (Nat × Nat)} {c s : Nat} {g : Nat → Nat → Int} {i v : Int} {κ : Mem → Option MRes} : (aput 100 (mk E c s (hh g)) 137 i v).bind κ = if inb i 10 = true then κ (mk E c s (hh (up g 137 (Int.toNat i) v))) else none := by
  show (if inb i 10 = true then some (put (mk E c s (hh g)) (137 : Nat) (Int.toNat i) v) else none).bind κ = _
  rw [hh_put _ _ _ (dat_arr rfl _)]
  exact bindI
theorem lay_138 {E : List (Nat × Nat)} {c s : Nat} {g : Nat → Nat → Int} : lay? (mk E c s (hh g)) 138 = (100, 4) := rfl
theorem L138 {X : MExt} {E : List (Nat × Nat)} {c s : Nat} {g : Nat → Nat → Int} {k : Int → Option MRes} : (alen X (mk E c s (hh g)) 138).bind k = k 4 := rfl
theorem A138 {X : MExt} {E : List (Nat × Nat)} {c s : Nat} {g : Nat → Nat → Int} {i : Int} {κ : Int → Option MRes} : (aget X 100 (mk E c s (hh g)) 138 i).bind κ = if inb i 4 = true then κ (g 138 (Int.toNat i)) else none := bindI
theorem S138 {E : List (Nat × Nat)} {c s : Nat} {g : Nat → Nat → Int} {i v : Int} {κ : Mem → Option MRes} : (aput 100 (mk E c s (hh g)) 138 i v).bind κ = if inb i 4 = true then κ (mk E c s (hh (up g 138 (Int.toNat i) v))) else none := by
  show (if inb i 4 = true then some (put (mk E c s (hh g)) (138 : Nat) (Int.toNat i) v) else none).bind κ = _
  rw [hh_put _ _ _ (dat_arr rfl _)]
  exact bindI
theorem lay_139 {E : List (Nat × Nat)} {c s : Nat} {g : Nat → Nat → Int} : lay? (mk E c s (hh g)) 139 = (100, 4) := rfl
theorem L139 {X : MExt} {E : List (Nat × Nat)} {c s : Nat} {g : Nat → Nat → Int} {k : Int → Option MRes} : (alen X (mk E c s (hh g)) 139).bind k = k 4 := rfl
theorem A139 {X : MExt} {E : List (Nat × Nat)} {c s : Nat} {g : Nat → Nat → Int} {i : Int} {κ : Int → Option MRes} : (aget X 100 (mk E c s (hh g)) 139 i).bind κ = if inb i 4 = true then κ (g 139 (Int.toNat i)) else none := bindI
theorem S139 {E : List (Nat × Nat)} {c s : Nat} {g : Nat → Nat → Int} {i v : Int} {κ : Mem → Option MRes} : (aput 100 (mk E c s (hh g)) 139 i v).bind κ = if inb i 4 = true then κ (mk E c s (hh (up g 139 (Int.toNat i) v))) else none := by
  show (if inb i 4 = true then some (put (mk E c s (hh g)) (139 : Nat) (Int.toNat i) v) else none).bind κ = _
  rw [hh_put _ _ _ (dat_arr rfl _)]
  exact bindI
theorem lay_140 {E : List (Nat × Nat)} {c s : Nat} {g : Nat → Nat → Int} : lay? (mk E c s (hh g)) 140 = (100, 4) := rfl
theorem L140 {X : MExt} {E : List (Nat × Nat)} {c s : Nat} {g : Nat → Nat → Int} {k : Int → Option MRes} : (alen X (mk E c s (hh g)) 140).bind k = k 4 := rfl
theorem A140 {X : MExt} {E : List (Nat × Nat)} {c s : Nat} {g : Nat → Nat → Int} {i : Int} {κ : Int → Option MRes} : (aget X 100 (mk E c s (hh g)) 140 i).bind κ = if inb i 4 = true then κ (g 140 (Int.toNat i)) else none := bindI
theorem S140 {E : List (Nat × Nat)} {c s : Nat} {g : Nat → Nat → Int} {i v : Int} {κ : Mem → Option MRes} : (aput 100 (mk E c s (hh g)) 140 i v).bind κ = if inb i 4 = true then κ (mk E c s (hh (up g 140 (Int.toNat i) v))) else none := by
  show (if inb i 4 = true then some (put (mk E c s (hh g)) (140 : Nat) (Int.toNat i) v) else none).bind κ = _
  rw [hh_put _ _ _ (dat_arr rfl _)]
  exact bindI
theorem lay_141 {E : List (Nat × Nat)} {c s : Nat} {g : Nat → Nat → Int} : lay? (mk E c s (hh g)) 141 = (100, 10) := rfl
theorem L141 {X : MExt} {E : List (Nat × Nat)} {c s : Nat} {g : Nat → Nat → Int} {k : Int → Option MRes} : (alen X (mk E c s (hh g)) 141).bind k = k 10 := rfl
theorem A141 {X : MExt} {E : List (Nat × Nat)} {c s : Nat} {g : Nat → Nat → Int} {i : Int} {κ : Int → Option MRes} : (aget X 100 (mk E c s (hh g)) 141 i).bind κ = if inb i 10 = true then κ (g 141 (Int.toNat i)) else none := bindI
theorem S141 {E : List (Nat × Nat)} {c s : Nat} {g : Nat → Nat → Int} {i v : Int} {κ : Mem → Option MRes} : (aput 100 (mk E c s (hh g)) 141 i v).bind κ = if inb i 10 = true then κ (mk E c s (hh (up g 141 (Int.toNat i) v))) else none := by
  show (if inb i 10 = true then some (put (mk E c s (hh g)) (141 : Nat) (Int.toNat i) v) else none).bind κ = _
  rw [hh_put _ _ _ (dat_arr rfl _)]
  exact bindI
theorem lay_142 {E : List (Nat × Nat)} {c s : Nat} {g : Nat → Nat → Int} : lay? (mk E c s (hh g)) 142 = (100, 3) := rfl
theorem L142 {X : MExt} {E : List (Nat × Nat)} {c s : Nat} {g : Nat → Nat → Int} {k : Int → Option MRes} : (alen X (mk E c s (hh g)) 142).bind k = k 3 := rfl
theorem A142 {X : MExt} {E : List (Nat × Nat)} {c s : Nat} {g : Nat → Nat → Int} {i : Int} {κ : Int → Option MRes} : (aget X 100 (mk E c s (hh g)) 142 i).bind κ = if inb i 3 = true then κ (g 142 (Int.toNat i)) else none := bindI
theorem S142 {E : List (Nat × Nat)} {c s : Nat} {g : Nat → Nat → Int} {i v : Int} {κ : Mem → Option MRes} : (aput 100 (mk E c s (hh g)) 142 i v).bind κ = if inb i 3 = true then κ (mk E c s (hh (up g 142 (Int.toNat i) v))) else none := by
  show (if inb i 3 = true then some (put (mk E c s (hh g)) (142 : Nat) (Int.toNat i) v) else none).bind κ = _
  rw [hh_put _ _ _ (dat_arr rfl _)]
  exact bindI
theorem lay_143 {E : List (Nat × Nat)} {c s : Nat} {g : Nat → Nat → Int} : lay? (mk E c s (hh g)) 143 = (100, 3) := rfl
theorem L143 {X : MExt} {E : List (Nat × Nat)} {c s : Nat} {g : Nat → Nat → Int} {k : Int → Option MRes} : (alen X (mk E c s (hh g)) 143).bind k = k 3 := rfl
theorem A143 {X : MExt} {E : List (Nat × Nat)} {c s : Nat} {g : Nat → Nat → Int} {i : Int} {κ : Int → Option MRes} : (aget X 100 (mk E c s (hh g)) 143 i).bind κ = if inb i 3 = true then κ (g 143 (Int.toNat i)) else none := bindI
theorem S143 {E : List (Nat × Nat)} {c s : Nat} {g : Nat → Nat → Int} {i v : Int} {κ : Mem → Option MRes} : (aput 100 (mk E c s (hh g)) 143 i v).bind κ = if inb i 3 = true then κ (mk E c s (hh (up g 143 (Int.toNat i) v))) else none := by
  show (if inb i 3 = true then some (put (mk E c s (hh g)) (143 : Nat) (Int.toNat i) v) else none).bind κ = _
  rw [hh_put _ _ _ (dat_arr rfl _)]
  exact bindI
theorem lay_144 {E : List (Nat × Nat)} {c s : Nat} {g : Nat → Nat → Int} : lay? (mk E c s (hh g)) 144 = (100, 10) := rfl
theorem L144 {X : MExt} {E : List (Nat × Nat)} {c s : Nat} {g : Nat → Nat → Int} {k : Int → Option MRes} : (alen X (mk E c s (hh g)) 144).bind k = k 10 := rfl
theorem A144 {X : MExt} {E : List (Nat × Nat)} {c s : Nat} {g : Nat → Nat → Int} {i : Int} {κ : Int → Option MRes} : (aget X 100 (mk E c s (hh g)) 144 i).bind κ = if inb i 10 = true then κ (g 144 (Int.toNat i)) else none := bindI
theorem S144 {E : List (Nat × Nat)} {c s : Nat} {g : Nat → Nat → Int} {i v : Int} {κ : Mem → Option MRes} : (aput 100 (mk E c s (hh g)) 144 i v).bind κ = if inb i 10 = true then κ (mk E c s (hh (up g 144 (Int.toNat i) v))) else none := by
  show (if inb i 10 = true then some (put (mk E c s (hh g)) (144 : Nat) (Int.toNat i) v) else none).bind κ = _
  rw [hh_put _ _ _ (dat_arr rfl _)]
  exact bindI
theorem lay_145 {E : List (Nat × Nat)} {c s : Nat} {g : Nat → Nat → Int} : lay? (mk E c s (hh g)) 145 = (100, 10) := rfl
theorem L145 {X : MExt} {E : List (Nat × Nat)} {c s : Nat} {g : Nat → Nat → Int} {k : Int → Option MRes} : (alen X (mk E c s (hh g)) 145).bind k = k 10 := rfl
theorem A145 {X : MExt} {E : List (Nat × Nat)} {c s : Nat} {g : Nat → Nat → Int} {i : Int} {κ : Int → Option MRes} : (aget X 100 (mk E c s (hh g)) 145 i).bind κ = if inb i 10 = true then κ (g 145 (Int.toNat i)) else none := bindI
theorem S145 {E : List (Nat × Nat)} {c s : Nat} {g : Nat → Nat → Int} {i v : Int} {κ : Mem → Option MRes} : (aput 100 (mk E c s (hh g)) 145 i v).bind κ = if inb i 10 = true then κ (mk E c s (hh (up g 145 (Int.toNat i) v))) else none := by
  show (if inb i 10 = true then some (put (mk E c s (hh g)) (145 : Nat) (Int.toNat i) v) else none).bind κ = _
  rw [hh_put _ _ _ (dat_arr rfl _)]
  exact bindI
theorem lay_146 {E : List (Nat × Nat)} {c s : Nat} {g : Nat → Nat → Int} : lay? (mk E c s (hh g)) 146 = (100, 3) := rfl
theorem L146 {X : MExt} {E : List (Nat × Nat)} {c s : Nat} {g : Nat → Nat → Int} {k : Int → Option MRes} : (alen X (mk E c s (hh g)) 146).bind k = k 3 := rfl
theorem A146 {X : MExt} {E : List (Nat × Nat)} {c s : Nat} {g : Nat → Nat → Int} {i : Int} {κ : Int → Option MRes} : (aget X 100 (mk E c s (hh g)) 146 i).bind κ = if inb i 3 = true then κ (g 146 (Int.toNat i)) else none := bindI
theorem S146 {E : List (Nat × Nat)} {c s : Nat} {g : Nat → Nat → Int} {i v : Int} {κ : Mem → Option MRes} : (aput 100 (mk E c s (hh g)) 146 i v).bind κ = if inb i 3 = true then κ (mk E c s (hh (up g 146 (Int.toNat i) v))) else none := by
  show (if inb i 3 = true then some (put (mk E c s (hh g)) (146 : Nat) (Int.toNat i) v) else none).bind κ = _
  rw [hh_put _ _ _ (dat_arr rfl _)]
  exact bindI
theorem lay_147 {E : List (Nat × Nat)} {c s : Nat} {g : Nat → Nat → Int} : lay? (mk E c s (hh g)) 147 = (100, 15) := rfl
theorem L147 {X : MExt} {E : List (Nat × Nat)} {c s : Nat} {g : Nat → Nat → Int} {k : Int → Option MRes} : (alen X (mk E c s (hh g)) 147).bind k = k 15 := rfl
theorem A147 {X : MExt} {E : List (Nat × Nat)} {c s : Nat} {g : Nat → Nat → Int} {i : Int} {κ : Int → Option MRes} : (aget X 100 (mk E c s (hh g)) 147 i).bind κ = if inb i 15 = true then κ (g 147 (Int.toNat i)) else none := bindI
theorem S147 {E : List (Nat × Nat)} {c s : Nat} {g : Nat → Nat → Int} {i v : Int} {κ : Mem → Option MRes} : (aput 100 (mk E c s (hh g)) 147 i v).bind κ = if inb i 15 = true then κ (mk E c s (hh (up g 147 (Int.toNat i) v))) else none := by
  show (if inb i 15 = true then some (put (mk E c s (hh g)) (147 : Nat) (Int.toNat i) v) else none).bind κ = _
  rw [hh_put _ _ _ (dat_arr rfl _)]
  exact bindI
theorem lay_148 {E : List (Nat × Nat)} {c s : Nat} {g : Nat → Nat → Int} : lay? (mk E c s (hh g)) 148 = (100, 40) := rfl
theorem L148 {X : MExt} {E : List (Nat × Nat)} {c s : Nat} {g : Nat → Nat → Int} {k : Int → Option MRes} : (alen X (mk E c s (hh g)) 148).bind k = k 40 := rfl
theorem A148 {X : MExt} {E : List (Nat × Nat)} {c s : Nat} {g : Nat → Nat → Int} {i : Int} {κ : Int → Option MRes} : (aget X 100 (mk E c s (hh g)) 148 i).bind κ = if inb i 40 = true then κ (g 148 (Int.toNat i)) else none := bindI
theorem S148 {E : List (Nat × Nat)} {c s : Nat} {g : Nat → Nat → Int} {i v : Int} {κ : Mem → Option MRes} : (aput 100 (mk E c s (hh g)) 148 i v).bind κ = if inb i 40 = true then κ (mk E c s (hh (up g 148 (Int.toNat i) v))) else none := by
  show (if inb i 40 = true then some (put (mk E c s (hh g)) (148 : Nat) (Int.toNat i) v) else none).bind κ = _
  rw [hh_put _ _ _ (dat_arr rfl _)]
  exact bindI
theorem lay_149 {E : List (Nat × Nat)} {c s : Nat} {g : Nat → Nat → Int} : lay? (mk E c s (hh g)) 149 = (100, 10) := rfl
theorem L149 {X : MExt} {E : List (Nat × Nat)} {c s : Nat} {g : Nat → Nat → Int} {k : Int → Option MRes} : (alen X (mk E c s (hh g)) 149).bind k = k 10 := rfl
theorem A149 {X : MExt} {E : List (Nat × Nat)} {c s : Nat} {g : Nat → Nat → Int} {i : Int} {κ : Int → Option MRes} : (aget X 100 (mk E c s (hh g)) 149 i).bind κ = if inb i 10 = true then κ (g 149 (Int.toNat i)) else none := bindI
theorem S149 {E : List (Nat × Nat)} {c s : Nat} {g : Nat → Nat → Int} {i v : Int} {κ : Mem → Option MRes} : (aput 100 (mk E c s (hh g)) 149 i v).bind κ = if inb i 10 = true then κ (mk E c s (hh (up g 149 (Int.toNat i) v))) else none := by
  show (if inb i 10 = true then some (put (mk E c s (hh g)) (149 : Nat) (Int.toNat i) v) else none).bind κ = _
  rw [hh_put _ _ _ (dat_arr rfl _)]
  exact bindI
theorem lay_150 {E : List (Nat × Nat)} {c s : Nat} {g : Nat → Nat → Int} : lay? (mk E c s (hh g)) 150 = (102, 2048) := rfl
theorem L150 {X : MExt} {E : List (Nat × Nat)} {c s : Nat} {g : Nat → Nat → Int} {k : Int → Option MRes} : (alen X (mk E c s (hh g)) 150).bind k = k 2048 := rfl
theorem A150 {X : MExt} {E : List (Nat × Nat)} {c s : Nat} {g : Nat → Nat → Int} {i : Int} {κ : Int → Option MRes} : (aget X 102 (mk E c s (hh g)) 150 i).bind κ = if inb i 2048 = true then κ (g 150 (Int.toNat i)) else none := bindI
theorem S150 {E : List (Nat × Nat)} {c s : Nat} {g : Nat → Nat → Int} {i v : Int} {κ : Mem → Option MRes} : (aput 102 (mk E c s (hh g)) 150 i v).bind κ = if inb i 2048 = true then κ (mk E c s (hh (up g 150 (Int.toNat i) v))) else none := by
  show (if inb i 2048 = true then some (put (mk E c s (hh g)) (150 : Nat) (Int.toNat i) v) else none).bind κ = _
  rw [hh_put _ _ _ (dat_arr rfl _)]
  exact bindI
theorem lay_151 {E : List (Nat × Nat)} {c s : Nat} {g : Nat → Nat → Int} : lay? (mk E c s (hh g)) 151 = (100, 2048) := rfl
theorem L151 {X : MExt} {E : List (Nat × Nat)} {c s : Nat} {g : Nat → Nat → Int} {k : Int → Option MRes} : (alen X (mk E c s (hh g)) 151).bind k = k 2048 := rfl
theorem A151 {X : MExt} {E : List (Nat × Nat)} {c s : Nat} {g : Nat → Nat → Int} {i : Int} {κ : Int → Option MRes} : (aget X 100 (mk E c s (hh g)) 151 i).bind κ = if inb i 2048 = true then κ (g 151 (Int.toNat i)) else none := bindI
theorem S151 {E : List (Nat × Nat)} {c s : Nat} {g : Nat → Nat → Int} {i v : Int} {κ : Mem → Option MRes} : (aput 100 (mk E c s (hh g)) 151 i v).bind κ = if inb i 2048 = true then κ (mk E c s (hh (up g 151 (Int.toNat i) v))) else none := by
  show (if inb i 2048 = true then some (put (mk E c s (hh g)) (151 : Nat) (Int.toNat i) v) else none).bind κ = _
  rw [hh_put _ _ _ (dat_arr rfl _)]
  exact bindI
theorem lay_152 {E : List (Nat × Nat)} {c s : Nat} {g : Nat → Nat → Int} : lay? (mk E c s (hh g)) 152 = (100, 50) := rfl
theorem L152 {X : MExt} {E : List (Nat × Nat)} {c s : Nat} {g : Nat → Nat → Int} {k : Int → Option MRes} : (alen X (mk E c s (hh g)) 152).bind k = k 50 := rfl
theorem A152 {X : MExt} {E : List (Nat × Nat)} {c s : Nat} {g : Nat → Nat → Int} {i : Int} {κ : Int → Option MRes} : (aget X 100 (mk E c s (hh g)) 152 i).bind κ = if inb i 50 = true then κ (g 152 (Int.toNat i)) else none := bindI
theorem S152 {E : List (Nat × Nat)} {c s : Nat} {g : Nat → Nat → Int} {i v : Int} {κ : Mem → Option MRes} : (aput 100 (mk E c s (hh g)) 152 i v).bind κ = if inb i 50 = true then κ (mk E c s (hh (up g 152 (Int.toNat i) v))) else none := by
  show (if inb i 50 = true then some (put (mk E c s (hh g)) (152 : Nat) (Int.toNat i) v) else none).bind κ = _
  rw [hh_put _ _ _ (dat_arr rfl _)]
  exact bindI
theorem lay_153 {E : List (Nat × Nat)} {c s : Nat} {g : Nat → Nat → Int} : lay? (mk E c s (hh g)) 153 = (100, 4) := rfl
theorem L153 {X : MExt} {E : List (Nat × Nat)} {c s : Nat} {g : Nat → Nat → Int} {k : Int → Option MRes} : (alen X (mk E c s (hh g)) 153).bind k = k 4 := rfl
theorem A153 {X : MExt} {E : List (Nat × Nat)} {c s : Nat} {g : Nat → Nat → Int} {i : Int} {κ : Int → Option MRes} : (aget X 100 (mk E c s (hh g)) 153 i).bind κ = if inb i 4 = true then κ (g 153 (Int.toNat i)) else none := bindI
theorem S153 {E : List (Nat × Nat)} {c s : Nat} {g : Nat → Nat → Int} {i v : Int} {κ : Mem → Option MRes} : (aput 100 (mk E c s (hh g)) 153 i v).bind κ = if inb i 4 = true then κ (mk E c s (hh (up g 153 (Int.toNat i) v))) else none := by
  show (if inb i 4 = true then some (put (mk E c s (hh g)) (153 : Nat) (Int.toNat i) v) else none).bind κ = _
  rw [hh_put _ _ _ (dat_arr rfl _)]
  exact bindI
theorem lay_154 {E : List (Nat × Nat)} {c s : Nat} {g : Nat → Nat → Int} : lay? (mk E c s (hh g)) 154 = (100, 4) := rfl
theorem L154 {X : MExt} {E : List (Nat × Nat)} {c s : Nat} {g : Nat → Nat → Int} {k : Int → Option MRes} : (alen X (mk E c s (hh g)) 154).bind k = k 4 := rfl
theorem A154 {X : MExt} {E : List (Nat × Nat)} {c s : Nat} {g : Nat → Nat → Int} {i : Int} {κ : Int → Option MRes} : (aget X 100 (mk E c s (hh g)) 154 i).bind κ = if inb i 4 = true then κ (g 154 (Int.toNat i)) else none := bindI
theorem S154 {E : List (Nat × Nat)} {c s : Nat} {g : Nat → Nat → Int} {i v : Int} {κ : Mem → Option MRes} : (aput 100 (mk E c s (hh g)) 154 i v).bind κ = if inb i 4 = true then κ (mk E c s (hh (up g 154 (Int.toNat i) v))) else none := by
  show (if inb i 4 = true then some (put (mk E c s (hh g)) (154 : Nat) (Int.toNat i) v) else none).bind κ = _
  rw [hh_put _ _ _ (dat_arr rfl _)]
  exact bindI
theorem lay_155 {E : List (Nat × Nat)} {c s : Nat} {g : Nat → Nat → Int} : lay? (mk E c s (hh g)) 155 = (102, 160) := rfl
theorem L155 {X : MExt} {E : List (Nat × Nat)} {c s : Nat} {g : Nat → Nat → Int} {k : Int → Option MRes} : (alen X (mk E c s (hh g)) 155).bind k = k 160 := rfl
theorem A155 {X : MExt} {E : List (Nat × Nat)} {c s : Nat} {g : Nat → Nat → Int} {i : Int} {κ : Int → Option MRes} : (aget X 102 (mk E c s (hh g)) 155 i).bind κ = if inb i 160 = true then κ (g 155 (Int.toNat i)) else none := bindI
theorem S155 {E : List (Nat × Nat)} {c s : Nat} {g : Nat → Nat → Int} {i v : Int} {κ : Mem → Option MRes} : (aput 102 (mk E c s (hh g)) 155 i v).bind κ = if inb i 160 = true then κ (mk E c s (hh (up g 155 (Int.toNat i) v))) else none := by
  show (if inb i 160 = true then some (put (mk E c s (hh g)) (155 : Nat) (Int.toNat i) v) else none).bind κ = _
  rw [hh_put _ _ _ (dat_arr rfl _)]
  exact bindI
theorem lay_156 {E : List (Nat × Nat)} {c s : Nat} {g : Nat → Nat → Int} : lay? (mk E c s (hh g)) 156 = (100, 160) := rfl
theorem L156 {X : MExt} {E : List (Nat × Nat)} {c s : Nat} {g : Nat → Nat → Int} {k : Int → Option MRes} : (alen X (mk E c s (hh g)) 156).bind k = k 160 := rfl
theorem A156 {X : MExt} {E : List (Nat × Nat)} {c s : Nat} {g : Nat → Nat → Int} {i : Int} {κ : Int → Option MRes} : (aget X 100 (mk E c s (hh g)) 156 i).bind κ = if inb i 160 = true then κ (g 156 (Int.toNat i)) else none := bindI
theorem S156 {E : List (Nat × Nat)} {c s : Nat} {g : Nat → Nat → Int} {i v : Int} {κ : Mem → Option MRes} : (aput 100 (mk E c s (hh g)) 156 i v).bind κ = if inb i 160 = true then κ (mk E c s (hh (up g 156 (Int.toNat i) v))) else none := by
  show (if inb i 160 = true then some (put (mk E c s (hh g)) (156 : Nat) (Int.toNat i) v) else none).bind κ = _
  rw [hh_put _ _ _ (dat_arr rfl _)]
  exact bindI
theorem lay_157 {E : List (Nat × Nat)} {c s : Nat} {g : Nat → Nat → Int} : lay? (mk E c s (hh g)) 157 = (100, 40) := rfl
theorem L157 {X : MExt} {E : List (Nat × Nat)} {c s : Nat} {g : Nat → Nat → Int} {k : Int → Option MRes} : (alen X (mk E c s (hh g)) 157).bind k = k 40 := rfl
theorem A157 {X : MExt} {E : List (Nat × Nat)} {c s : Nat} {g : Nat → Nat → Int} {i : Int} {κ : Int → Option MRes} : (aget X 100 (mk E c s (hh g)) 157 i).bind κ = if inb i 40 = true then κ (g 157 (Int.toNat i)) else none := bindI
theorem S157 {E : List (Nat × Nat)} {c s : Nat} {g : Nat → Nat → Int} {i v : Int} {κ : Mem → Option MRes} : (aput 100 (mk E c s (hh g)) 157 i v).bind κ = if inb i 40 = true then κ (mk E c s (hh (up g 157 (Int.toNat i) v))) else none := by
  show (if inb i 40 = true then some (put (mk E c s (hh g)) (157 : Nat) (Int.toNat i) v) else none).bind κ = _
  rw [hh_put _ _ _ (dat_arr rfl _)]
  exact bindI
theorem lay_158 {E : List (Nat × Nat)} {c s : Nat} {g : Nat → Nat → Int} : lay? (mk E c s (hh g)) 158 = (101, 1) := rfl
theorem L158 {X : MExt} {E : List (Nat × Nat)} {c s : Nat} {g : Nat → Nat → Int} {k : Int → Option MRes} : (alen X (mk E c s (hh g)) 158).bind k = k 1 := rfl
theorem A158 {X : MExt} {E : List (Nat × Nat)} {c s : Nat} {g : Nat → Nat → Int} {i : Int} {κ : Int → Option MRes} : (aget X 101 (mk E c s (hh g)) 158 i).bind κ = if inb i 1 = true then κ (g 158 (Int.toNat i)) else none := bindI
theorem S158 {E : List (Nat × Nat)} {c s : Nat} {g : Nat → Nat → Int} {i v : Int} {κ : Mem → Option MRes} : (aput 101 (mk E c s (hh g)) 158 i v).bind κ = if inb i 1 = true then κ (mk E c s (hh (up g 158 (Int.toNat i) v))) else none := by
  show (if inb i 1 = true then some (put (mk E c s (hh g)) (158 : Nat) (Int.toNat i) v) else none).bind κ = _
  rw [hh_put _ _ _ (dat_arr rfl _)]
  exact bindI
theorem hh_cell {g : Nat → Nat → Int} {x i : Nat} {v : Int} {y j : Nat} (h : y ≠ x) : hh (up g x i v) y j = hh g y j := by unfold hh; simp only [up_cell h]
theorem cc_71_65 {g : Nat → Nat → Int} {x n j : Nat} : cpy g x 71 n 65 j = g 65 j := if_neg (fun h => absurd h.1 (by decide))
theorem uc_100_89 {g : Nat → Nat → Int} {i : Nat} {v : Int} {j : Nat} : up g 100 i v 89 j = g 89 j := if_neg (fun h => absurd h.1 (by decide))
theorem uc_101_89 {g : Nat → Nat → Int} {i : Nat} {v : Int} {j : Nat} : up g 101 i v 89 j = g 89 j := if_neg (fun h => absurd h.1 (by decide))
theorem uc_102_89 {g : Nat → Nat → Int} {i : Nat} {v : Int} {j : Nat} : up g 102 i v 89 j = g 89 j := if_neg (fun h => absurd h.1 (by decide))
theorem uc_103_89 {g : Nat → Nat → Int} {i : Nat} {v : Int} {j : Nat} : up g 103 i v 89 j = g 89 j := if_neg (fun h => absurd h.1 (by decide))
theorem uc_104_156 {g : Nat → Nat → Int} {i : Nat} {v : Int} {j : Nat} : up g 104 i v 156 j = g 156 j := if_neg (fun h => absurd h.1 (by decide))
theorem uc_104_89 {g : Nat → Nat → Int} {i : Nat} {v : Int} {j : Nat} : up g 104 i v 89 j = g 89 j := if_neg (fun h => absurd h.1 (by decide))
theorem uc_105_89 {g : Nat → Nat → Int} {i : Nat} {v : Int} {j : Nat} : up g 105 i v 89 j = g 89 j := if_neg (fun h => absurd h.1 (by decide))
theorem uc_107_108 {g : Nat → Nat → Int} {i : Nat} {v : Int} {j : Nat} : up g 107 i v 108 j = g 108 j := if_neg (fun h => absurd h.1 (by decide))
theorem uc_107_109 {g : Nat → Nat → Int} {i : Nat} {v : Int} {j : Nat} : up g 107 i v 109 j = g 109 j := if_neg (fun h => absurd h.1 (by decide))
theorem uc_108_109 {g : Nat → Nat → Int} {i : Nat} {v : Int} {j : Nat} : up g 108 i v 109 j = g 109 j := if_neg (fun h => absurd h.1 (by decide))
theorem uc_10_9 {g : Nat → Nat → Int} {i : Nat} {v : Int} {j : Nat} : up g 10 i v 9 j = g 9 j := if_neg (fun h => absurd h.1 (by decide))
theorem uc_110_111 {g : Nat → Nat → Int} {i : Nat} {v : Int} {j : Nat} : up g 110 i v 111 j = g 111 j := if_neg (fun h => absurd h.1 (by decide))
theorem uc_110_112 {g : Nat → Nat → Int} {i : Nat} {v : Int} {j : Nat} : up g 110 i v 112 j = g 112 j := if_neg (fun h => absurd h.1 (by decide))
theorem uc_110_113 {g : Nat → Nat → Int} {i : Nat} {v : Int} {j : Nat} : up g 110 i v 113 j = g 113 j := if_neg (fun h => absurd h.1 (by decide))
theorem uc_111_112 {g : Nat → Nat → Int} {i : Nat} {v : Int} {j : Nat} : up g 111 i v 112 j = g 112 j := if_neg (fun h => absurd h.1 (by decide))
theorem uc_111_113 {g : Nat → Nat → Int} {i : Nat} {v : Int} {j : Nat} : up g 111 i v 113 j = g 113 j := if_neg (fun h => absurd h.1 (by decide))
theorem uc_112_113 {g : Nat → Nat → Int} {i : Nat} {v : Int} {j : Nat} : up g 112 i v 113 j = g 113 j := if_neg (fun h => absurd h.1 (by decide))
theorem uc_114_89 {g : Nat → Nat → Int} {i : Nat} {v : Int} {j : Nat} : up g 114 i v 89 j = g 89 j := if_neg (fun h => absurd h.1 (by decide))
theorem uc_126_107 {g : Nat → Nat → Int} {i : Nat} {v : Int} {j : Nat} : up g 126 i v 107 j = g 107 j := if_neg (fun h => absurd h.1 (by decide))
theorem uc_126_108 {g : Nat → Nat → Int} {i : Nat} {v : Int} {j : Nat} : up g 126 i v 108 j = g 108 j := if_neg (fun h => absurd h.1 (by decide))
theorem uc_126_152 {g : Nat → Nat → Int} {i : Nat} {v : Int} {j : Nat} : up g 126 i v 152 j = g 152 j := if_neg (fun h => absurd h.1 (by decide))
theorem uc_126_91 {g : Nat → Nat → Int} {i : Nat} {v : Int} {j : Nat} : up g 126 i v 91 j = g 91 j := if_neg (fun h => absurd h.1 (by decide))
theorem uc_126_92 {g : Nat → Nat → Int} {i : Nat} {v : Int} {j : Nat} : up g 126 i v 92 j = g 92 j := if_neg (fun h => absurd h.1 (by decide))
theorem uc_126_93 {g : Nat → Nat → Int} {i : Nat} {v : Int} {j : Nat} : up g 126 i v 93 j = g 93 j := if_neg (fun h => absurd h.1 (by decide))
theorem uc_126_97 {g : Nat → Nat → Int} {i : Nat} {v : Int} {j : Nat} : up g 126 i v 97 j = g 97 j := if_neg (fun h => absurd h.1 (by decide))
theorem uc_126_98 {g : Nat → Nat → Int} {i : Nat} {v : Int} {j : Nat} : up g 126 i v 98 j = g 98 j := if_neg (fun h => absurd h.1 (by decide))
theorem uc_135_132 {g : Nat → Nat → Int} {i : Nat} {v : Int} {j : Nat} : up g 135 i v 132 j = g 132 j := if_neg (fun h => absurd h.1 (by decide))
theorem uc_136_106 {g : Nat → Nat → Int} {i : Nat} {v : Int} {j : Nat} : up g 136 i v 106 j = g 106 j := if_neg (fun h => absurd h.1 (by decide))
theorem uc_136_132 {g : Nat → Nat → Int} {i : Nat} {v : Int} {j : Nat} : up g 136 i v 132 j = g 132 j := if_neg (fun h => absurd h.1 (by decide))
theorem uc_140_138 {g : Nat → Nat → Int} {i : Nat} {v : Int} {j : Nat} : up g 140 i v 138 j = g 138 j := if_neg (fun h => absurd h.1 (by decide))
theorem uc_144_100 {g : Nat → Nat → Int} {i : Nat} {v : Int} {j : Nat} : up g 144 i v 100 j = g 100 j := if_neg (fun h => absurd h.1 (by decide))
theorem uc_144_145 {g : Nat → Nat → Int} {i : Nat} {v : Int} {j : Nat} : up g 144 i v 145 j = g 145 j := if_neg (fun h => absurd h.1 (by decide))
theorem uc_146_89 {g : Nat → Nat → Int} {i : Nat} {v : Int} {j : Nat} : up g 146 i v 89 j = g 89 j := if_neg (fun h => absurd h.1 (by decide))
theorem uc_149_89 {g : Nat → Nat → Int} {i : Nat} {v : Int} {j : Nat} : up g 149 i v 89 j = g 89 j := if_neg (fun h => absurd h.1 (by decide))
theorem uc_153_89 {g : Nat → Nat → Int} {i : Nat} {v : Int} {j : Nat} : up g 153 i v 89 j = g 89 j := if_neg (fun h => absurd h.1 (by decide))
theorem uc_155_103 {g : Nat → Nat → Int} {i : Nat} {v : Int} {j : Nat} : up g 155 i v 103 j = g 103 j := if_neg (fun h => absurd h.1 (by decide))
theorem uc_28_0 {g : Nat → Nat → Int} {i : Nat} {v : Int} {j : Nat} : up g 28 i v 0 j = g 0 j := if_neg (fun h => absurd h.1 (by decide))
theorem uc_28_2 {g : Nat → Nat → Int} {i : Nat} {v : Int} {j : Nat} : up g 28 i v 2 j = g 2 j := if_neg (fun h => absurd h.1 (by decide))
theorem uc_28_4 {g : Nat → Nat → Int} {i : Nat} {v : Int} {j : Nat} : up g 28 i v 4 j = g 4 j := if_neg (fun h => absurd h.1 (by decide))
theorem uc_28_44 {g : Nat → Nat → Int} {i : Nat} {v : Int} {j : Nat} : up g 28 i v 44 j = g 44 j := if_neg (fun h => absurd h.1 (by decide))
theorem uc_28_6 {g : Nat → Nat → Int} {i : Nat} {v : Int} {j : Nat} : up g 28 i v 6 j = g 6 j := if_neg (fun h => absurd h.1 (by decide))
theorem uc_28_7 {g : Nat → Nat → Int} {i : Nat} {v : Int} {j : Nat} : up g 28 i v 7 j = g 7 j := if_neg (fun h => absurd h.1 (by decide))
theorem uc_28_8 {g : Nat → Nat → Int} {i : Nat} {v : Int} {j : Nat} : up g 28 i v 8 j = g 8 j := if_neg (fun h => absurd h.1 (by decide))
theorem uc_30_31 {g : Nat → Nat → Int} {i : Nat} {v : Int} {j : Nat} : up g 30 i v 31 j = g 31 j := if_neg (fun h => absurd h.1 (by decide))
theorem uc_30_75 {g : Nat → Nat → Int} {i : Nat} {v : Int} {j : Nat} : up g 30 i v 75 j = g 75 j := if_neg (fun h => absurd h.1 (by decide))
theorem uc_31_30 {g : Nat → Nat → Int} {i : Nat} {v : Int} {j : Nat} : up g 31 i v 30 j = g 30 j := if_neg (fun h => absurd h.1 (by decide))
theorem uc_32_30 {g : Nat → Nat → Int} {i : Nat} {v : Int} {j : Nat} : up g 32 i v 30 j = g 30 j := if_neg (fun h => absurd h.1 (by decide))
theorem uc_33_30 {g : Nat → Nat → Int} {i : Nat} {v : Int} {j : Nat} : up g 33 i v 30 j = g 30 j := if_neg (fun h => absurd h.1 (by decide))
theorem uc_34_30 {g : Nat → Nat → Int} {i : Nat} {v : Int} {j : Nat} : up g 34 i v 30 j = g 30 j := if_neg (fun h => absurd h.1 (by decide))
theorem uc_35_30 {g : Nat → Nat → Int} {i : Nat} {v : Int} {j : Nat} : up g 35 i v 30 j = g 30 j := if_neg (fun h => absurd h.1 (by decide))
theorem uc_46_45 {g : Nat → Nat → Int} {i : Nat} {v : Int} {j : Nat} : up g 46 i v 45 j = g 45 j := if_neg (fun h => absurd h.1 (by decide))
theorem uc_46_47 {g : Nat → Nat → Int} {i : Nat} {v : Int} {j : Nat} : up g 46 i v 47 j = g 47 j := if_neg (fun h => absurd h.1 (by decide))
theorem uc_49_42 {g : Nat → Nat → Int} {i : Nat} {v : Int} {j : Nat} : up g 49 i v 42 j = g 42 j := if_neg (fun h => absurd h.1 (by decide))
theorem uc_53_52 {g : Nat → Nat → Int} {i : Nat} {v : Int} {j : Nat} : up g 53 i v 52 j = g 52 j := if_neg (fun h => absurd h.1 (by decide))
theorem uc_54_52 {g : Nat → Nat → Int} {i : Nat} {v : Int} {j : Nat} : up g 54 i v 52 j = g 52 j := if_neg (fun h => absurd h.1 (by decide))
theorem uc_62_61 {g : Nat → Nat → Int} {i : Nat} {v : Int} {j : Nat} : up g 62 i v 61 j = g 61 j := if_neg (fun h => absurd h.1 (by decide))
theorem uc_62_63 {g : Nat → Nat → Int} {i : Nat} {v : Int} {j : Nat} : up g 62 i v 63 j = g 63 j := if_neg (fun h => absurd h.1 (by decide))
theorem uc_62_64 {g : Nat → Nat → Int} {i : Nat} {v : Int} {j : Nat} : up g 62 i v 64 j = g 64 j := if_neg (fun h => absurd h.1 (by decide))
theorem uc_64_63 {g : Nat → Nat → Int} {i : Nat} {v : Int} {j : Nat} : up g 64 i v 63 j = g 63 j := if_neg (fun h => absurd h.1 (by decide))
theorem uc_66_63 {g : Nat → Nat → Int} {i : Nat} {v : Int} {j : Nat} : up g 66 i v 63 j = g 63 j := if_neg (fun h => absurd h.1 (by decide))
theorem uc_66_67 {g : Nat → Nat → Int} {i : Nat} {v : Int} {j : Nat} : up g 66 i v 67 j = g 67 j := if_neg (fun h => absurd h.1 (by decide))
theorem uc_68_65 {g : Nat → Nat → Int} {i : Nat} {v : Int} {j : Nat} : up g 68 i v 65 j = g 65 j := if_neg (fun h => absurd h.1 (by decide))
theorem uc_70_65 {g : Nat → Nat → Int} {i : Nat} {v : Int} {j : Nat} : up g 70 i v 65 j = g 65 j := if_neg (fun h => absurd h.1 (by decide))
theorem uc_72_30 {g : Nat → Nat → Int} {i : Nat} {v : Int} {j : Nat} : up g 72 i v 30 j = g 30 j := if_neg (fun h => absurd h.1 (by decide))
theorem uc_73_30 {g : Nat → Nat → Int} {i : Nat} {v : Int} {j : Nat} : up g 73 i v 30 j = g 30 j := if_neg (fun h => absurd h.1 (by decide))
theorem uc_74_30 {g : Nat → Nat → Int} {i : Nat} {v : Int} {j : Nat} : up g 74 i v 30 j = g 30 j := if_neg (fun h => absurd h.1 (by decide))
theorem uc_89_105 {g : Nat → Nat → Int} {i : Nat} {v : Int} {j : Nat} : up g 89 i v 105 j = g 105 j := if_neg (fun h => absurd h.1 (by decide))
theorem uc_99_89 {g : Nat → Nat → Int} {i : Nat} {v : Int} {j : Nat} : up g 99 i v 89 j = g 89 j := if_neg (fun h => absurd h.1 (by decide))
theorem uc_9_10 {g : Nat → Nat → Int} {i : Nat} {v : Int} {j : Nat} : up g 9 i v 10 j = g 10 j := if_neg (fun h => absurd h.1 (by decide))
theorem uq_1_0 {g : Nat → Nat → Int} {x : Nat} {v : Int} {y : Nat} : up g x 1 v y 0 = g y 0 := if_neg (fun h => absurd h.2 (by decide))
theorem uq_1_3 {g : Nat → Nat → Int} {x : Nat} {v : Int} {y : Nat} : up g x 1 v y 3 = g y 3 := if_neg (fun h => absurd h.2 (by decide))
theorem uq_21_19 {g : Nat → Nat → Int} {x : Nat} {v : Int} {y : Nat} : up g x 21 v y 19 = g y 19 := if_neg (fun h => absurd h.2 (by decide))
theorem uq_21_20 {g : Nat → Nat → Int} {x : Nat} {v : Int} {y : Nat} : up g x 21 v y 20 = g y 20 := if_neg (fun h => absurd h.2 (by decide))
theorem uq_23_19 {g : Nat → Nat → Int} {x : Nat} {v : Int} {y : Nat} : up g x 23 v y 19 = g y 19 := if_neg (fun h => absurd h.2 (by decide))
theorem uq_23_20 {g : Nat → Nat → Int} {x : Nat} {v : Int} {y : Nat} : up g x 23 v y 20 = g y 20 := if_neg (fun h => absurd h.2 (by decide))
theorem uq_24_19 {g : Nat → Nat → Int} {x : Nat} {v : Int} {y : Nat} : up g x 24 v y 19 = g y 19 := if_neg (fun h => absurd h.2 (by decide))
theorem uq_24_20 {g : Nat → Nat → Int} {x : Nat} {v : Int} {y : Nat} : up g x 24 v y 20 = g y 20 := if_neg (fun h => absurd h.2 (by decide))
theorem uq_2_3 {g : Nat → Nat → Int} {x : Nat} {v : Int} {y : Nat} : up g x 2 v y 3 = g y 3 := if_neg (fun h => absurd h.2 (by decide))
theorem uq_3_4 {g : Nat → Nat → Int} {x : Nat} {v : Int} {y : Nat} : up g x 3 v y 4 = g y 4 := if_neg (fun h => absurd h.2 (by decide))
theorem uq_4_1 {g : Nat → Nat → Int} {x : Nat} {v : Int} {y : Nat} : up g x 4 v y 1 = g y 1 := if_neg (fun h => absurd h.2 (by decide))
theorem uq_4_5 {g : Nat → Nat → Int} {x : Nat} {v : Int} {y : Nat} : up g x 4 v y 5 = g y 5 := if_neg (fun h => absurd h.2 (by decide))
theorem uq_5_4 {g : Nat → Nat → Int} {x : Nat} {v : Int} {y : Nat} : up g x 5 v y 4 = g y 4 := if_neg (fun h => absurd h.2 (by decide))
theorem uq_5_6 {g : Nat → Nat → Int} {x : Nat} {v : Int} {y : Nat} : up g x 5 v y 6 = g y 6 := if_neg (fun h => absurd h.2 (by decide))
theorem uq_6_7 {g : Nat → Nat → Int} {x : Nat} {v : Int} {y : Nat} : up g x 6 v y 7 = g y 7 := if_neg (fun h => absurd h.2 (by decide))
theorem uq_7_2 {g : Nat → Nat → Int} {x : Nat} {v : Int} {y : Nat} : up g x 7 v y 2 = g y 2 := if_neg (fun h => absurd h.2 (by decide))
theorem uq_7_5 {g : Nat → Nat → Int} {x : Nat} {v : Int} {y : Nat} : up g x 7 v y 5 = g y 5 := if_neg (fun h => absurd h.2 (by decide))
theorem uq_81_10 {g : Nat → Nat → Int} {x : Nat} {v : Int} {y : Nat} : up g x 81 v y 10 = g y 10 := if_neg (fun h => absurd h.2 (by decide))
theorem tn0 : Int.toNat 0 = 0 := rfl
theorem tn1 : Int.toNat 1 = 1 := rfl
theorem tn2 : Int.toNat 2 = 2 := rfl
theorem tn3 : Int.toNat 3 = 3 := rfl
theorem tn4 : Int.toNat 4 = 4 := rfl
theorem tn5 : Int.toNat 5 = 5 := rfl
theorem tn6 : Int.toNat 6 = 6 := rfl
theorem tn7 : Int.toNat 7 = 7 := rfl
theorem tn8 : Int.toNat 8 = 8 := rfl
theorem tn9 : Int.toNat 9 = 9 := rfl
theorem tn10 : Int.toNat 10 = 10 := rfl
theorem tn11 : Int.toNat 11 = 11 := rfl
theorem tn12 : Int.toNat 12 = 12 := rfl
theorem Rm12 {M : Mem} : rcv M (-12) 14 = true := rfl
theorem CP_41_47 {E : List (Nat × Nat)} {c s : Nat} {g : Nat → Nat → Int} {k : Mem → Option MRes} : (acopy (mk E c s (hh g)) 41 0 47 0 3).bind k = k (mk E c s (hh (cpy g 41 47 3))) := by
  have e := hhC (g := g) (x := 41) (y := 47) (n := 3) rfl rfl
  show k (LAY ++ E, CPU (hh g) 41 47 3, c, s) = _
  rw [e]; rfl
theorem CP_56_57 {E : List (Nat × Nat)} {c s : Nat} {g : Nat → Nat → Int} {k : Mem → Option MRes} : (acopy (mk E c s (hh g)) 56 0 57 0 40).bind k = k (mk E c s (hh (cpy g 56 57 40))) := by
  have e := hhC (g := g) (x := 56) (y := 57) (n := 40) rfl rfl
  show k (LAY ++ E, CPU (hh g) 56 57 40, c, s) = _
  rw [e]; rfl
theorem CP_60_71 {E : List (Nat × Nat)} {c s : Nat} {g : Nat → Nat → Int} {k : Mem → Option MRes} : (acopy (mk E c s (hh g)) 60 0 71 0 3).bind k = k (mk E c s (hh (cpy g 60 71 3))) := by
  have e := hhC (g := g) (x := 60) (y := 71) (n := 3) rfl rfl
  show k (LAY ++ E, CPU (hh g) 60 71 3, c, s) = _
  rw [e]; rfl
