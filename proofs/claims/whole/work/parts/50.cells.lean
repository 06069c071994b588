/-! Part 50: printed by wip/whole/emit6.py: the fixed cells. -/
def LAY : List (Nat × Nat) := [(11, 16), (10, 7), (100, 10), (100, 10), (102, 10), (100, 40), (100, 40), (100, 40), (100, 40), (5, 9), (103, 1000), (7, 8), (100, 6), (100, 11), (100, 11), (100, 0), (104, 10), (7, 8), (100, 6), (100, 11), (100, 11), (100, 0), (7, 8), (100, 6), (100, 11), (100, 11), (100, 0), (8, 2), (100, 11), (100, 32), (2, 7), (100, 40), (100, 40), (101, 40), (100, 40), (100, 40), (4, 4), (100, 4), (100, 24), (100, 10), (3, 7), (100, 3), (100, 10), (100, 10), (100, 50), (100, 10), (100, 10), (100, 3), (6, 7), (100, 10), (100, 10), (100, 10), (100, 4), (100, 4), (100, 4), (0, 11), (100, 40), (100, 40), (100, 40), (100, 40), (100, 3), (100, 3), (100, 10), (100, 10), (100, 10), (1, 8), (100, 11), (100, 11), (100, 3), (100, 15), (100, 4), (100, 3), (9, 6), (100, 4), (100, 4), (101, 4), (105, 4), (100, 40), (100, 40), (100, 40), (100, 40), (105, 4), (100, 10), (100, 10), (100, 10), (100, 10), (100, 10), (101, 1024), (100, 1024), (12, 87), (102, 10), (100, 10), (100, 10), (102, 10), (102, 40), (100, 40), (100, 40), (100, 40), (100, 40), (100, 40), (100, 40), (101, 40), (100, 40), (100, 40), (102, 40), (100, 1000), (102, 10), (100, 13), (100, 13), (100, 13), (102, 117), (100, 117), (100, 117), (100, 117), (100, 13000), (100, 7), (102, 7), (100, 7), (100, 7), (100, 7), (100, 7), (100, 7), (100, 7), (100, 7), (100, 7), (100, 7), (100, 20), (102, 4), (100, 4), (100, 24), (100, 10), (100, 3), (100, 10), (100, 10), (100, 10), (100, 3), (100, 10), (100, 10), (100, 4), (100, 4), (100, 4), (100, 10), (100, 3), (100, 3), (100, 10), (100, 10), (100, 3), (100, 15), (100, 40), (100, 10), (102, 2048), (100, 2048), (100, 50), (100, 4), (100, 4), (102, 160), (100, 160), (100, 40), (101, 1)]
/-- the fixed references -/
def ptrs (a : Nat) : List (Option Int) := match a with
  | 0 => [some 1, some 9, some 16, none, none, some 27, some 30, some 36, some 40, some 48, some 55, some 65, some 72, some 86, some 87, some 88]
  | 1 => [some 2, some 3, some 4, some 5, some 6, some 7, some 8]
  | 9 => [some 10, none, none, none, none, none, none, none, none]
  | 27 => [some 28, some 29]
  | 30 => [none, none, some 31, some 32, some 33, some 34, some 35]
  | 36 => [some 37, some 38, some 39, none]
  | 40 => [some 41, some 42, some 43, some 44, some 45, some 46, some 47]
  | 48 => [some 49, some 50, some 51, some 52, some 53, some 54, none]
  | 55 => [some 56, some 57, some 58, some 59, some 60, some 61, none, none, some 62, some 63, some 64]
  | 65 => [some 66, some 67, none, some 68, some 69, some 70, some 71, none]
  | 72 => [some 73, some 74, some 75, some 76, some 81, none]
  | 76 => [some 77, some 78, some 79, some 80]
  | 81 => [some 82, some 83, some 84, some 85]
  | 89 => [none, some 90, some 91, some 92, some 93, some 94, some 95, some 96, some 97, some 98, none, some 99, some 100, some 101, some 102, some 103, some 104, none, some 105, none, none, none, none, none, none, none, some 106, some 107, some 108, some 109, some 110, some 111, some 112, some 113, some 114, none, none, some 115, some 116, some 117, some 118, some 119, some 120, some 121, some 122, some 123, some 124, some 125, some 126, some 127, some 128, some 129, some 130, some 131, some 132, some 133, some 134, some 135, some 136, some 137, none, none, some 138, some 139, some 140, some 141, some 142, some 143, none, none, some 144, some 145, none, some 146, some 147, some 148, none, some 149, some 150, some 151, some 152, none, some 153, some 154, some 155, some 156, some 157]
  | _ => []
def hh (g : Nat → Nat → Int) : Nat → Nat → Int := fun a i => match (ptrs a)[i]? with
  | some (some v) => v
  | _ => g a i
def mk (E : List (Nat × Nat)) (c s : Nat) (h : Nat → Nat → Int) : Mem := (LAY ++ E, h, c, s)
def up (g : Nat → Nat → Int) (x i : Nat) (v : Int) : Nat → Nat → Int := fun a j => if a = x ∧ j = i then v else g a j
def PU (g : Nat → Nat → Int) (x i : Nat) (v : Int) : Nat → Nat → Int := fun a j => if a = x ∧ j = i then v else g a j
def dat (x i : Nat) : Bool := match (ptrs x)[i]? with | some (some _) => false | _ => true
theorem hhP {g : Nat → Nat → Int} {x i : Nat} {v : Int} (h : dat x i = true) : PU (hh g) x i v = hh (up g x i v) := by
  funext a j
  unfold PU hh up
  by_cases hc : a = x ∧ j = i
  · obtain ⟨rfl, rfl⟩ := hc
    unfold dat at h
    simp only [and_self, if_true]
    split
    · rename_i h2; rw [h2] at h; cases h
    · rfl
  · simp only [if_neg hc]
def cpy (g : Nat → Nat → Int) (x y n : Nat) : Nat → Nat → Int := fun a j => if a = y ∧ 0 ≤ j ∧ j < 0 + n then g x (0 + (j - 0)) else g a j
def CPU (g : Nat → Nat → Int) (x y n : Nat) : Nat → Nat → Int := fun a j => if a = y ∧ 0 ≤ j ∧ j < 0 + n then g x (0 + (j - 0)) else g a j
theorem hhC {g : Nat → Nat → Int} {x y n : Nat} (h1 : ptrs x = []) (h2 : ptrs y = []) : CPU (hh g) x y n = hh (cpy g x y n) := by
  funext a j
  unfold CPU hh cpy
  by_cases hc : a = y ∧ 0 ≤ j ∧ j < 0 + n
  · obtain ⟨rfl, h3⟩ := hc
    simp [h1, h2, h3]
  · simp only [if_neg hc]
theorem hhP2 (g : Nat → Nat → Int) (i : Nat) (v : Int) : PU (hh g) 2 i v = hh (up g 2 i v) := hhP rfl
theorem hhP3 (g : Nat → Nat → Int) (i : Nat) (v : Int) : PU (hh g) 3 i v = hh (up g 3 i v) := hhP rfl
theorem hhP4 (g : Nat → Nat → Int) (i : Nat) (v : Int) : PU (hh g) 4 i v = hh (up g 4 i v) := hhP rfl
theorem hhP5 (g : Nat → Nat → Int) (i : Nat) (v : Int) : PU (hh g) 5 i v = hh (up g 5 i v) := hhP rfl
theorem hhP6 (g : Nat → Nat → Int) (i : Nat) (v : Int) : PU (hh g) 6 i v = hh (up g 6 i v) := hhP rfl
theorem hhP7 (g : Nat → Nat → Int) (i : Nat) (v : Int) : PU (hh g) 7 i v = hh (up g 7 i v) := hhP rfl
theorem hhP8 (g : Nat → Nat → Int) (i : Nat) (v : Int) : PU (hh g) 8 i v = hh (up g 8 i v) := hhP rfl
theorem hhP10 (g : Nat → Nat → Int) (i : Nat) (v : Int) : PU (hh g) 10 i v = hh (up g 10 i v) := hhP rfl
theorem hhP12 (g : Nat → Nat → Int) (i : Nat) (v : Int) : PU (hh g) 12 i v = hh (up g 12 i v) := hhP rfl
theorem hhP13 (g : Nat → Nat → Int) (i : Nat) (v : Int) : PU (hh g) 13 i v = hh (up g 13 i v) := hhP rfl
theorem hhP14 (g : Nat → Nat → Int) (i : Nat) (v : Int) : PU (hh g) 14 i v = hh (up g 14 i v) := hhP rfl
theorem hhP15 (g : Nat → Nat → Int) (i : Nat) (v : Int) : PU (hh g) 15 i v = hh (up g 15 i v) := hhP rfl
theorem hhP16 (g : Nat → Nat → Int) (i : Nat) (v : Int) : PU (hh g) 16 i v = hh (up g 16 i v) := hhP rfl
theorem hhP18 (g : Nat → Nat → Int) (i : Nat) (v : Int) : PU (hh g) 18 i v = hh (up g 18 i v) := hhP rfl
theorem hhP19 (g : Nat → Nat → Int) (i : Nat) (v : Int) : PU (hh g) 19 i v = hh (up g 19 i v) := hhP rfl
theorem hhP20 (g : Nat → Nat → Int) (i : Nat) (v : Int) : PU (hh g) 20 i v = hh (up g 20 i v) := hhP rfl
theorem hhP21 (g : Nat → Nat → Int) (i : Nat) (v : Int) : PU (hh g) 21 i v = hh (up g 21 i v) := hhP rfl
theorem hhP23 (g : Nat → Nat → Int) (i : Nat) (v : Int) : PU (hh g) 23 i v = hh (up g 23 i v) := hhP rfl
theorem hhP24 (g : Nat → Nat → Int) (i : Nat) (v : Int) : PU (hh g) 24 i v = hh (up g 24 i v) := hhP rfl
theorem hhP25 (g : Nat → Nat → Int) (i : Nat) (v : Int) : PU (hh g) 25 i v = hh (up g 25 i v) := hhP rfl
theorem hhP26 (g : Nat → Nat → Int) (i : Nat) (v : Int) : PU (hh g) 26 i v = hh (up g 26 i v) := hhP rfl
theorem hhP28 (g : Nat → Nat → Int) (i : Nat) (v : Int) : PU (hh g) 28 i v = hh (up g 28 i v) := hhP rfl
theorem hhP29 (g : Nat → Nat → Int) (i : Nat) (v : Int) : PU (hh g) 29 i v = hh (up g 29 i v) := hhP rfl
theorem hhP31 (g : Nat → Nat → Int) (i : Nat) (v : Int) : PU (hh g) 31 i v = hh (up g 31 i v) := hhP rfl
theorem hhP32 (g : Nat → Nat → Int) (i : Nat) (v : Int) : PU (hh g) 32 i v = hh (up g 32 i v) := hhP rfl
theorem hhP33 (g : Nat → Nat → Int) (i : Nat) (v : Int) : PU (hh g) 33 i v = hh (up g 33 i v) := hhP rfl
theorem hhP34 (g : Nat → Nat → Int) (i : Nat) (v : Int) : PU (hh g) 34 i v = hh (up g 34 i v) := hhP rfl
theorem hhP35 (g : Nat → Nat → Int) (i : Nat) (v : Int) : PU (hh g) 35 i v = hh (up g 35 i v) := hhP rfl
theorem hhP37 (g : Nat → Nat → Int) (i : Nat) (v : Int) : PU (hh g) 37 i v = hh (up g 37 i v) := hhP rfl
theorem hhP38 (g : Nat → Nat → Int) (i : Nat) (v : Int) : PU (hh g) 38 i v = hh (up g 38 i v) := hhP rfl
theorem hhP39 (g : Nat → Nat → Int) (i : Nat) (v : Int) : PU (hh g) 39 i v = hh (up g 39 i v) := hhP rfl
theorem hhP41 (g : Nat → Nat → Int) (i : Nat) (v : Int) : PU (hh g) 41 i v = hh (up g 41 i v) := hhP rfl
theorem hhP42 (g : Nat → Nat → Int) (i : Nat) (v : Int) : PU (hh g) 42 i v = hh (up g 42 i v) := hhP rfl
theorem hhP43 (g : Nat → Nat → Int) (i : Nat) (v : Int) : PU (hh g) 43 i v = hh (up g 43 i v) := hhP rfl
theorem hhP44 (g : Nat → Nat → Int) (i : Nat) (v : Int) : PU (hh g) 44 i v = hh (up g 44 i v) := hhP rfl
theorem hhP45 (g : Nat → Nat → Int) (i : Nat) (v : Int) : PU (hh g) 45 i v = hh (up g 45 i v) := hhP rfl
theorem hhP46 (g : Nat → Nat → Int) (i : Nat) (v : Int) : PU (hh g) 46 i v = hh (up g 46 i v) := hhP rfl
theorem hhP47 (g : Nat → Nat → Int) (i : Nat) (v : Int) : PU (hh g) 47 i v = hh (up g 47 i v) := hhP rfl
theorem hhP49 (g : Nat → Nat → Int) (i : Nat) (v : Int) : PU (hh g) 49 i v = hh (up g 49 i v) := hhP rfl
theorem hhP50 (g : Nat → Nat → Int) (i : Nat) (v : Int) : PU (hh g) 50 i v = hh (up g 50 i v) := hhP rfl
theorem hhP51 (g : Nat → Nat → Int) (i : Nat) (v : Int) : PU (hh g) 51 i v = hh (up g 51 i v) := hhP rfl
theorem hhP52 (g : Nat → Nat → Int) (i : Nat) (v : Int) : PU (hh g) 52 i v = hh (up g 52 i v) := hhP rfl
theorem hhP53 (g : Nat → Nat → Int) (i : Nat) (v : Int) : PU (hh g) 53 i v = hh (up g 53 i v) := hhP rfl
theorem hhP54 (g : Nat → Nat → Int) (i : Nat) (v : Int) : PU (hh g) 54 i v = hh (up g 54 i v) := hhP rfl
theorem hhP56 (g : Nat → Nat → Int) (i : Nat) (v : Int) : PU (hh g) 56 i v = hh (up g 56 i v) := hhP rfl
theorem hhP57 (g : Nat → Nat → Int) (i : Nat) (v : Int) : PU (hh g) 57 i v = hh (up g 57 i v) := hhP rfl
theorem hhP58 (g : Nat → Nat → Int) (i : Nat) (v : Int) : PU (hh g) 58 i v = hh (up g 58 i v) := hhP rfl
theorem hhP59 (g : Nat → Nat → Int) (i : Nat) (v : Int) : PU (hh g) 59 i v = hh (up g 59 i v) := hhP rfl
theorem hhP60 (g : Nat → Nat → Int) (i : Nat) (v : Int) : PU (hh g) 60 i v = hh (up g 60 i v) := hhP rfl
theorem hhP61 (g : Nat → Nat → Int) (i : Nat) (v : Int) : PU (hh g) 61 i v = hh (up g 61 i v) := hhP rfl
theorem hhP62 (g : Nat → Nat → Int) (i : Nat) (v : Int) : PU (hh g) 62 i v = hh (up g 62 i v) := hhP rfl
theorem hhP63 (g : Nat → Nat → Int) (i : Nat) (v : Int) : PU (hh g) 63 i v = hh (up g 63 i v) := hhP rfl
theorem hhP64 (g : Nat → Nat → Int) (i : Nat) (v : Int) : PU (hh g) 64 i v = hh (up g 64 i v) := hhP rfl
theorem hhP66 (g : Nat → Nat → Int) (i : Nat) (v : Int) : PU (hh g) 66 i v = hh (up g 66 i v) := hhP rfl
theorem hhP67 (g : Nat → Nat → Int) (i : Nat) (v : Int) : PU (hh g) 67 i v = hh (up g 67 i v) := hhP rfl
theorem hhP68 (g : Nat → Nat → Int) (i : Nat) (v : Int) : PU (hh g) 68 i v = hh (up g 68 i v) := hhP rfl
theorem hhP69 (g : Nat → Nat → Int) (i : Nat) (v : Int) : PU (hh g) 69 i v = hh (up g 69 i v) := hhP rfl
theorem hhP70 (g : Nat → Nat → Int) (i : Nat) (v : Int) : PU (hh g) 70 i v = hh (up g 70 i v) := hhP rfl
theorem hhP71 (g : Nat → Nat → Int) (i : Nat) (v : Int) : PU (hh g) 71 i v = hh (up g 71 i v) := hhP rfl
theorem hhP73 (g : Nat → Nat → Int) (i : Nat) (v : Int) : PU (hh g) 73 i v = hh (up g 73 i v) := hhP rfl
theorem hhP74 (g : Nat → Nat → Int) (i : Nat) (v : Int) : PU (hh g) 74 i v = hh (up g 74 i v) := hhP rfl
theorem hhP75 (g : Nat → Nat → Int) (i : Nat) (v : Int) : PU (hh g) 75 i v = hh (up g 75 i v) := hhP rfl
theorem hhP77 (g : Nat → Nat → Int) (i : Nat) (v : Int) : PU (hh g) 77 i v = hh (up g 77 i v) := hhP rfl
theorem hhP78 (g : Nat → Nat → Int) (i : Nat) (v : Int) : PU (hh g) 78 i v = hh (up g 78 i v) := hhP rfl
theorem hhP79 (g : Nat → Nat → Int) (i : Nat) (v : Int) : PU (hh g) 79 i v = hh (up g 79 i v) := hhP rfl
theorem hhP80 (g : Nat → Nat → Int) (i : Nat) (v : Int) : PU (hh g) 80 i v = hh (up g 80 i v) := hhP rfl
theorem hhP82 (g : Nat → Nat → Int) (i : Nat) (v : Int) : PU (hh g) 82 i v = hh (up g 82 i v) := hhP rfl
theorem hhP83 (g : Nat → Nat → Int) (i : Nat) (v : Int) : PU (hh g) 83 i v = hh (up g 83 i v) := hhP rfl
theorem hhP84 (g : Nat → Nat → Int) (i : Nat) (v : Int) : PU (hh g) 84 i v = hh (up g 84 i v) := hhP rfl
theorem hhP85 (g : Nat → Nat → Int) (i : Nat) (v : Int) : PU (hh g) 85 i v = hh (up g 85 i v) := hhP rfl
theorem hhP86 (g : Nat → Nat → Int) (i : Nat) (v : Int) : PU (hh g) 86 i v = hh (up g 86 i v) := hhP rfl
theorem hhP87 (g : Nat → Nat → Int) (i : Nat) (v : Int) : PU (hh g) 87 i v = hh (up g 87 i v) := hhP rfl
theorem hhP88 (g : Nat → Nat → Int) (i : Nat) (v : Int) : PU (hh g) 88 i v = hh (up g 88 i v) := hhP rfl
theorem hhP90 (g : Nat → Nat → Int) (i : Nat) (v : Int) : PU (hh g) 90 i v = hh (up g 90 i v) := hhP rfl
theorem hhP91 (g : Nat → Nat → Int) (i : Nat) (v : Int) : PU (hh g) 91 i v = hh (up g 91 i v) := hhP rfl
theorem hhP92 (g : Nat → Nat → Int) (i : Nat) (v : Int) : PU (hh g) 92 i v = hh (up g 92 i v) := hhP rfl
theorem hhP93 (g : Nat → Nat → Int) (i : Nat) (v : Int) : PU (hh g) 93 i v = hh (up g 93 i v) := hhP rfl
theorem hhP94 (g : Nat → Nat → Int) (i : Nat) (v : Int) : PU (hh g) 94 i v = hh (up g 94 i v) := hhP rfl
theorem hhP95 (g : Nat → Nat → Int) (i : Nat) (v : Int) : PU (hh g) 95 i v = hh (up g 95 i v) := hhP rfl
theorem hhP96 (g : Nat → Nat → Int) (i : Nat) (v : Int) : PU (hh g) 96 i v = hh (up g 96 i v) := hhP rfl
theorem hhP97 (g : Nat → Nat → Int) (i : Nat) (v : Int) : PU (hh g) 97 i v = hh (up g 97 i v) := hhP rfl
theorem hhP98 (g : Nat → Nat → Int) (i : Nat) (v : Int) : PU (hh g) 98 i v = hh (up g 98 i v) := hhP rfl
theorem hhP99 (g : Nat → Nat → Int) (i : Nat) (v : Int) : PU (hh g) 99 i v = hh (up g 99 i v) := hhP rfl
theorem hhP100 (g : Nat → Nat → Int) (i : Nat) (v : Int) : PU (hh g) 100 i v = hh (up g 100 i v) := hhP rfl
theorem hhP101 (g : Nat → Nat → Int) (i : Nat) (v : Int) : PU (hh g) 101 i v = hh (up g 101 i v) := hhP rfl
theorem hhP102 (g : Nat → Nat → Int) (i : Nat) (v : Int) : PU (hh g) 102 i v = hh (up g 102 i v) := hhP rfl
theorem hhP103 (g : Nat → Nat → Int) (i : Nat) (v : Int) : PU (hh g) 103 i v = hh (up g 103 i v) := hhP rfl
theorem hhP104 (g : Nat → Nat → Int) (i : Nat) (v : Int) : PU (hh g) 104 i v = hh (up g 104 i v) := hhP rfl
theorem hhP105 (g : Nat → Nat → Int) (i : Nat) (v : Int) : PU (hh g) 105 i v = hh (up g 105 i v) := hhP rfl
theorem hhP106 (g : Nat → Nat → Int) (i : Nat) (v : Int) : PU (hh g) 106 i v = hh (up g 106 i v) := hhP rfl
theorem hhP107 (g : Nat → Nat → Int) (i : Nat) (v : Int) : PU (hh g) 107 i v = hh (up g 107 i v) := hhP rfl
theorem hhP108 (g : Nat → Nat → Int) (i : Nat) (v : Int) : PU (hh g) 108 i v = hh (up g 108 i v) := hhP rfl
theorem hhP109 (g : Nat → Nat → Int) (i : Nat) (v : Int) : PU (hh g) 109 i v = hh (up g 109 i v) := hhP rfl
theorem hhP110 (g : Nat → Nat → Int) (i : Nat) (v : Int) : PU (hh g) 110 i v = hh (up g 110 i v) := hhP rfl
theorem hhP111 (g : Nat → Nat → Int) (i : Nat) (v : Int) : PU (hh g) 111 i v = hh (up g 111 i v) := hhP rfl
theorem hhP112 (g : Nat → Nat → Int) (i : Nat) (v : Int) : PU (hh g) 112 i v = hh (up g 112 i v) := hhP rfl
theorem hhP113 (g : Nat → Nat → Int) (i : Nat) (v : Int) : PU (hh g) 113 i v = hh (up g 113 i v) := hhP rfl
theorem hhP114 (g : Nat → Nat → Int) (i : Nat) (v : Int) : PU (hh g) 114 i v = hh (up g 114 i v) := hhP rfl
theorem hhP115 (g : Nat → Nat → Int) (i : Nat) (v : Int) : PU (hh g) 115 i v = hh (up g 115 i v) := hhP rfl
theorem hhP116 (g : Nat → Nat → Int) (i : Nat) (v : Int) : PU (hh g) 116 i v = hh (up g 116 i v) := hhP rfl
theorem hhP117 (g : Nat → Nat → Int) (i : Nat) (v : Int) : PU (hh g) 117 i v = hh (up g 117 i v) := hhP rfl
theorem hhP118 (g : Nat → Nat → Int) (i : Nat) (v : Int) : PU (hh g) 118 i v = hh (up g 118 i v) := hhP rfl
theorem hhP119 (g : Nat → Nat → Int) (i : Nat) (v : Int) : PU (hh g) 119 i v = hh (up g 119 i v) := hhP rfl
theorem hhP120 (g : Nat → Nat → Int) (i : Nat) (v : Int) : PU (hh g) 120 i v = hh (up g 120 i v) := hhP rfl
theorem hhP121 (g : Nat → Nat → Int) (i : Nat) (v : Int) : PU (hh g) 121 i v = hh (up g 121 i v) := hhP rfl
theorem hhP122 (g : Nat → Nat → Int) (i : Nat) (v : Int) : PU (hh g) 122 i v = hh (up g 122 i v) := hhP rfl
theorem hhP123 (g : Nat → Nat → Int) (i : Nat) (v : Int) : PU (hh g) 123 i v = hh (up g 123 i v) := hhP rfl
theorem hhP124 (g : Nat → Nat → Int) (i : Nat) (v : Int) : PU (hh g) 124 i v = hh (up g 124 i v) := hhP rfl
theorem hhP125 (g : Nat → Nat → Int) (i : Nat) (v : Int) : PU (hh g) 125 i v = hh (up g 125 i v) := hhP rfl
theorem hhP126 (g : Nat → Nat → Int) (i : Nat) (v : Int) : PU (hh g) 126 i v = hh (up g 126 i v) := hhP rfl
theorem hhP127 (g : Nat → Nat → Int) (i : Nat) (v : Int) : PU (hh g) 127 i v = hh (up g 127 i v) := hhP rfl
theorem hhP128 (g : Nat → Nat → Int) (i : Nat) (v : Int) : PU (hh g) 128 i v = hh (up g 128 i v) := hhP rfl
theorem hhP129 (g : Nat → Nat → Int) (i : Nat) (v : Int) : PU (hh g) 129 i v = hh (up g 129 i v) := hhP rfl
theorem hhP130 (g : Nat → Nat → Int) (i : Nat) (v : Int) : PU (hh g) 130 i v = hh (up g 130 i v) := hhP rfl
theorem hhP131 (g : Nat → Nat → Int) (i : Nat) (v : Int) : PU (hh g) 131 i v = hh (up g 131 i v) := hhP rfl
theorem hhP132 (g : Nat → Nat → Int) (i : Nat) (v : Int) : PU (hh g) 132 i v = hh (up g 132 i v) := hhP rfl
theorem hhP133 (g : Nat → Nat → Int) (i : Nat) (v : Int) : PU (hh g) 133 i v = hh (up g 133 i v) := hhP rfl
theorem hhP134 (g : Nat → Nat → Int) (i : Nat) (v : Int) : PU (hh g) 134 i v = hh (up g 134 i v) := hhP rfl
theorem hhP135 (g : Nat → Nat → Int) (i : Nat) (v : Int) : PU (hh g) 135 i v = hh (up g 135 i v) := hhP rfl
theorem hhP136 (g : Nat → Nat → Int) (i : Nat) (v : Int) : PU (hh g) 136 i v = hh (up g 136 i v) := hhP rfl
theorem hhP137 (g : Nat → Nat → Int) (i : Nat) (v : Int) : PU (hh g) 137 i v = hh (up g 137 i v) := hhP rfl
theorem hhP138 (g : Nat → Nat → Int) (i : Nat) (v : Int) : PU (hh g) 138 i v = hh (up g 138 i v) := hhP rfl
theorem hhP139 (g : Nat → Nat → Int) (i : Nat) (v : Int) : PU (hh g) 139 i v = hh (up g 139 i v) := hhP rfl
theorem hhP140 (g : Nat → Nat → Int) (i : Nat) (v : Int) : PU (hh g) 140 i v = hh (up g 140 i v) := hhP rfl
theorem hhP141 (g : Nat → Nat → Int) (i : Nat) (v : Int) : PU (hh g) 141 i v = hh (up g 141 i v) := hhP rfl
theorem hhP142 (g : Nat → Nat → Int) (i : Nat) (v : Int) : PU (hh g) 142 i v = hh (up g 142 i v) := hhP rfl
theorem hhP143 (g : Nat → Nat → Int) (i : Nat) (v : Int) : PU (hh g) 143 i v = hh (up g 143 i v) := hhP rfl
theorem hhP144 (g : Nat → Nat → Int) (i : Nat) (v : Int) : PU (hh g) 144 i v = hh (up g 144 i v) := hhP rfl
theorem hhP145 (g : Nat → Nat → Int) (i : Nat) (v : Int) : PU (hh g) 145 i v = hh (up g 145 i v) := hhP rfl
theorem hhP146 (g : Nat → Nat → Int) (i : Nat) (v : Int) : PU (hh g) 146 i v = hh (up g 146 i v) := hhP rfl
theorem hhP147 (g : Nat → Nat → Int) (i : Nat) (v : Int) : PU (hh g) 147 i v = hh (up g 147 i v) := hhP rfl
theorem hhP148 (g : Nat → Nat → Int) (i : Nat) (v : Int) : PU (hh g) 148 i v = hh (up g 148 i v) := hhP rfl
theorem hhP149 (g : Nat → Nat → Int) (i : Nat) (v : Int) : PU (hh g) 149 i v = hh (up g 149 i v) := hhP rfl
theorem hhP150 (g : Nat → Nat → Int) (i : Nat) (v : Int) : PU (hh g) 150 i v = hh (up g 150 i v) := hhP rfl
theorem hhP151 (g : Nat → Nat → Int) (i : Nat) (v : Int) : PU (hh g) 151 i v = hh (up g 151 i v) := hhP rfl
theorem hhP152 (g : Nat → Nat → Int) (i : Nat) (v : Int) : PU (hh g) 152 i v = hh (up g 152 i v) := hhP rfl
theorem hhP153 (g : Nat → Nat → Int) (i : Nat) (v : Int) : PU (hh g) 153 i v = hh (up g 153 i v) := hhP rfl
theorem hhP154 (g : Nat → Nat → Int) (i : Nat) (v : Int) : PU (hh g) 154 i v = hh (up g 154 i v) := hhP rfl
theorem hhP155 (g : Nat → Nat → Int) (i : Nat) (v : Int) : PU (hh g) 155 i v = hh (up g 155 i v) := hhP rfl
theorem hhP156 (g : Nat → Nat → Int) (i : Nat) (v : Int) : PU (hh g) 156 i v = hh (up g 156 i v) := hhP rfl
theorem hhP157 (g : Nat → Nat → Int) (i : Nat) (v : Int) : PU (hh g) 157 i v = hh (up g 157 i v) := hhP rfl
theorem hhP158 (g : Nat → Nat → Int) (i : Nat) (v : Int) : PU (hh g) 158 i v = hh (up g 158 i v) := hhP rfl
