/-! Part 77: mark, the reference's side. -/
def pM1 (m i : Nat) (a : Nat → Nat → Int) : Nat → Nat → Int := up (up a 155 (40 * m + i) (bit1 (a 104 i))) 156 (40 * m + i) (a 103 i)
def pM2 (m i : Nat) (a : Nat → Nat → Int) : Nat → Nat → Int := up a 157 (10 * m + i) (a 130 i)
def gM1 (m i : Nat) (a : Nat → Nat → Int) : Nat → Nat → Int := up (up a 104 i (bit1 (a 155 (40 * m + i)))) 103 i (a 156 (40 * m + i))
def gM2 (m i : Nat) (a : Nat → Nat → Int) : Nat → Nat → Int := up a 130 i (a 157 (10 * m + i))
def gM3 (m i : Nat) (a : Nat → Nat → Int) : Nat → Nat → Int := if a 153 m < a 153 i then up a 153 i 0 else a
def putM0 (g : Nat → Nat → Int) (m : Nat) : Nat → Nat → Int := up (up (up (up (up g 89 0 0) 89 81 (w32 (g 89 81 + 1))) 153 m (w32 (g 89 81 + 1))) 154 m (g 89 10)) 89 10 (g 89 10)
def putM (g : Nat → Nat → Int) (m : Nat) : Nat → Nat → Int := fo (pM2 m) (fo (pM1 m) (putM0 g m) 40) 10
def getM0 (g : Nat → Nat → Int) (m : Nat) : Nat → Nat → Int := up (up g 89 0 0) 89 10 (g 154 m)
def getM (g : Nat → Nat → Int) (m : Nat) : Nat → Nat → Int := fo (gM3 m) (fo (gM2 m) (fo (gM1 m) (getM0 g m) 40) 10) 4
section MARK2
variable (X : MExt) (E : List (Nat × Nat)) (c s : Nat) {g : Nat → Nat → Int}
theorem m246_3 (d m : Nat) (hm : m < 4) (x2 : Int) (h2 : x2 ≠ 0) (u : Nat → Nat → Int) : Ev prog clsT X d mc246 137 [(2, 89), (0, (m : Int)), (0, x2), (0, 0)] [] (mk E c s (hh u)) = some ((0, 1), mk E c s (hh (fo (gM3 m) u 4))) := by
  refine fold_loop (fun i a _ => Ev prog clsT X d mc246 137 [(2, 89), (0, (m : Int)), (0, x2), (0, ((i : Nat) : Int))] [] (mk E c s (hh a))) (fun a => some ((0, 1), mk E c s (hh a))) (gM3 m) 4 u (fun i w hi => ⟨w, ?_⟩) (fun w => ?_) (3, 0)
  · generalize fo (gM3 m) u i = a
    rw [r246_137, cmp_ge, if_neg (by omega), cmp_eq, if_neg h2, inb4 (by omega), inb4 (by omega), cmp_le, w32_succ (by omega), Int.toNat_natCast, Int.toNat_natCast]
    unfold gM3
    by_cases hq : a 153 m < a 153 i
    · rw [if_neg (by omega), inb4 (by omega), if_pos hq]
    · rw [if_pos (by omega), if_neg hq]
  · rw [r246_137, cmp_ge, if_pos (by omega)]
theorem m246_2 (d m : Nat) (hm : m < 4) (x2 : Int) (u : Nat → Nat → Int) : Ev prog clsT X d mc246 103 [(2, 89), (0, (m : Int)), (0, x2), (0, 0)] [] (mk E c s (hh u)) = some ((0, 1), mk E c s (hh (if x2 = 0 then fo (pM2 m) u 10 else fo (gM3 m) (fo (gM2 m) u 10) 4))) := by
  by_cases h2 : x2 = 0
  · rw [if_pos h2]
    refine fold_loop (fun i a _ => Ev prog clsT X d mc246 103 [(2, 89), (0, (m : Int)), (0, x2), (0, ((i : Nat) : Int))] [] (mk E c s (hh a))) (fun a => some ((0, 1), mk E c s (hh a))) (pM2 m) 10 u (fun i w hi => ⟨w, ?_⟩) (fun w => ?_) (3, 0)
    · generalize fo (pM2 m) u i = a
      have e : w32 (w32 (10 * (m : Int)) + (i : Int)) = ((10 * m + i : Nat) : Int) := by rw [w32_of (x := 10 * (m : Int)) (by omega) (by omega), w32_of (by omega) (by omega)]; push_cast; rfl
      rw [r246_103, cmp_ge, if_neg (by omega), cmp_eq, if_pos h2, e, inb_is, if_pos (by omega), inb_is, if_pos (by omega), w32_succ (by omega), Int.toNat_natCast, Int.toNat_natCast]
      rfl
    · rw [r246_103, cmp_ge, if_pos (by omega), r246_137, cmp_ge, if_neg (by omega), cmp_eq, if_pos h2]
  · rw [if_neg h2, ← m246_3 X E c s d m hm x2 h2]
    refine fold_loop (fun i a _ => Ev prog clsT X d mc246 103 [(2, 89), (0, (m : Int)), (0, x2), (0, ((i : Nat) : Int))] [] (mk E c s (hh a))) (fun a => Ev prog clsT X d mc246 137 [(2, 89), (0, (m : Int)), (0, x2), (0, 0)] [] (mk E c s (hh a))) (gM2 m) 10 u (fun i w hi => ⟨w, ?_⟩) (fun w => ?_) (3, 0)
    · generalize fo (gM2 m) u i = a
      have e : w32 (w32 (10 * (m : Int)) + (i : Int)) = ((10 * m + i : Nat) : Int) := by rw [w32_of (x := 10 * (m : Int)) (by omega) (by omega), w32_of (by omega) (by omega)]; push_cast; rfl
      rw [r246_103, cmp_ge, if_neg (by omega), cmp_eq, if_neg h2, e, inb_is, if_pos (by omega), inb_is, if_pos (by omega), w32_succ (by omega), Int.toNat_natCast, Int.toNat_natCast]
      rfl
    · rw [r246_103, cmp_ge, if_pos (by omega)]
theorem m246_1 (d m : Nat) (hm : m < 4) (x2 : Int) (u : Nat → Nat → Int) : Ev prog clsT X d mc246 45 [(2, 89), (0, (m : Int)), (0, x2), (0, 0)] [] (mk E c s (hh u)) = some ((0, 1), mk E c s (hh (if x2 = 0 then fo (pM2 m) (fo (pM1 m) u 40) 10 else fo (gM3 m) (fo (gM2 m) (fo (gM1 m) u 40) 10) 4))) := by
  have fin := m246_2 X E c s d m hm x2
  by_cases h2 : x2 = 0
  · have f2 := fin (fo (pM1 m) u 40)
    rw [if_pos h2] at f2 ⊢
    rw [← f2]
    refine fold_loop (fun i a _ => Ev prog clsT X d mc246 45 [(2, 89), (0, (m : Int)), (0, x2), (0, ((i : Nat) : Int))] [] (mk E c s (hh a))) (fun a => Ev prog clsT X d mc246 103 [(2, 89), (0, (m : Int)), (0, x2), (0, 0)] [] (mk E c s (hh a))) (pM1 m) 40 u (fun i w hi => ⟨w, ?_⟩) (fun w => ?_) (3, 0)
    · generalize fo (pM1 m) u i = a
      have e : w32 (w32 (40 * (m : Int)) + (i : Int)) = ((40 * m + i : Nat) : Int) := by rw [w32_of (x := 40 * (m : Int)) (by omega) (by omega), w32_of (by omega) (by omega)]; push_cast; rfl
      rw [r246_45, cmp_ge, if_neg (by omega), cmp_eq, if_pos h2, e, inb_is, if_pos (by omega), inb_is, if_pos (by omega), inb_is, if_pos (by omega), inb_is, if_pos (by omega), w32_succ (by omega), Int.toNat_natCast, Int.toNat_natCast]
      rfl
    · rw [r246_45, cmp_ge, if_pos (by omega)]
  · have f2 := fin (fo (gM1 m) u 40)
    rw [if_neg h2] at f2 ⊢
    rw [← f2]
    refine fold_loop (fun i a _ => Ev prog clsT X d mc246 45 [(2, 89), (0, (m : Int)), (0, x2), (0, ((i : Nat) : Int))] [] (mk E c s (hh a))) (fun a => Ev prog clsT X d mc246 103 [(2, 89), (0, (m : Int)), (0, x2), (0, 0)] [] (mk E c s (hh a))) (gM1 m) 40 u (fun i w hi => ⟨w, ?_⟩) (fun w => ?_) (3, 0)
    · generalize fo (gM1 m) u i = a
      have e : w32 (w32 (40 * (m : Int)) + (i : Int)) = ((40 * m + i : Nat) : Int) := by rw [w32_of (x := 40 * (m : Int)) (by omega) (by omega), w32_of (by omega) (by omega)]; push_cast; rfl
      rw [r246_45, cmp_ge, if_neg (by omega), cmp_eq, if_neg h2, e, inb_is, if_pos (by omega), inb_is, if_pos (by omega), inb_is, if_pos (by omega), inb_is, if_pos (by omega), w32_succ (by omega), Int.toNat_natCast, Int.toNat_natCast]
      rfl
    · rw [r246_45, cmp_ge, if_pos (by omega)]
/-- Model.mark -/
theorem m246 (d : Nat) (x1 x2 : Int) : Call prog clsT X (d + 2) 246 [(2, 89), (0, x1), (0, x2)] (mk E c s (hh g)) = if (0 ≤ x1 ∧ x1 ≤ 3) ∧ (x2 = 0 ∨ g 153 x1.toNat ≠ 0) then some ((0, 1), mk E c s (hh (if x2 = 0 then putM g x1.toNat else getM g x1.toNat))) else some ((0, 0), mk E c s (hh (up g 89 0 0))) := by
  rw [rc246_, call0 (m152 X E c s d x1 0 3), push0, r246_7, cmp_eq, bI_eq0]
  by_cases h1 : 0 ≤ x1 ∧ x1 ≤ 3
  case neg => rw [if_pos h1, if_neg (fun q => h1 q.1)]
  rw [if_neg (fun q => q h1), cmp_eq]
  obtain ⟨m, rfl⟩ := Int.eq_ofNat_of_zero_le h1.1
  have hm : m < 4 := by omega
  rw [Int.toNat_natCast]
  by_cases h2 : x2 = 0
  · rw [if_pos h2, r246_17, cmp_ne, if_neg (fun q => q h2), inb4 h1, inb4 h1, inb4 h1, m246_1 X E c s (d + 1) m hm x2, if_pos h2, if_pos ⟨h1, Or.inl h2⟩, if_pos h2, Int.toNat_natCast]
    rfl
  · rw [if_neg h2, inb4 h1, cmp_ne]
    by_cases h3 : g 153 m = 0
    · have h4 : up g 89 0 0 153 m = 0 := h3
      rw [if_neg (fun q => q h4), if_neg (fun q => by rcases q.2 with q | q; exact h2 q; exact q h3)]
    · have h4 : ¬ (up g 89 0 0 153 m = 0) := h3
      rw [if_pos h4, r246_17, cmp_ne, if_pos h2, inb4 h1, m246_1 X E c s (d + 1) m hm x2, if_neg h2, if_pos ⟨h1, Or.inr h3⟩, if_neg h2, Int.toNat_natCast]
      rfl
/-- VillageShow.mark -/
theorem c135 (d : Nat) (x1 x2 : Int) : Call prog clsT X (d + 2) 135 [(2, 0), (0, x1), (0, x2)] (mk E c s (hh g)) = if (0 ≤ x1 ∧ x1 ≤ 3) ∧ (x2 = 0 ∨ 0 < g 73 x1.toNat) then some ((0, 1), mk E c s (hh (if x2 = 0 then putC g x1.toNat else fo (dropC x1.toNat) (getC g x1.toNat) 4))) else some ((0, 0), mk E c s (hh g)) := by
  rw [rc135_, call0 (c90 X E c s d x1 0 3), push0, r135_4, cmp_eq, bI_eq0]
  by_cases h1 : 0 ≤ x1 ∧ x1 ≤ 3
  case neg => rw [if_pos h1, if_neg (fun q => h1 q.1)]
  rw [if_neg (fun q => q h1), cmp_eq]
  by_cases h2 : x2 = 0
  · rw [if_pos h2, r135_14, cmp_eq, if_pos h2, call3 (c82 X E c s d x1 h1), push3, r135_33, if_pos ⟨h1, Or.inl h2⟩, if_pos h2]
  · rw [if_neg h2, call0 (c80 X E c s d x1 h1), push0, r135_11, cmp_ne, bI_ne0]
    by_cases h3 : 0 < g 73 x1.toNat
    · rw [if_pos (fun q => q h3), r135_14, cmp_eq, if_neg h2, call3 (c81 X E c s d x1 h1), push3, r135_24, r135_33, if_pos ⟨h1, Or.inr h3⟩, if_neg h2]
    · rw [if_neg (fun q => q h3), if_neg (fun q => by rcases q.2 with q | q; exact h2 q; exact h3 q)]
end MARK2
