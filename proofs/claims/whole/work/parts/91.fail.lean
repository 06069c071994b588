/-! Part 91: a fault (class). -/
/-- the class after a fault k at its token -/
def flt (g : Nat → Nat → Int) (k : Int) : Nat → Nat → Int := if g 9 3 ≠ 0 then up g 9 6 4 else up (up g 9 3 (w32 (k + w32 (16 * g 9 5)))) 9 6 4
section FAIL
variable (X : MExt) (E : List (Nat × Nat)) (c s : Nat) {g : Nat → Nat → Int}
/-- Reader.fail -/
theorem c46 (d : Nat) (k : Int) : Call prog clsT X (d + 1) 46 [(2, 9), (0, k)] (mk E c s (hh g)) = some ((3, 0), mk E c s (hh (flt g k))) := by
  rw [rc46_, cmp_ne]
  unfold flt
  by_cases h : g 9 3 = 0
  · rw [if_neg (fun q => q h), if_neg (fun q => q h)]
  · rw [if_pos h, if_pos h]
/-- Model.fails -/
theorem m172 (d : Nat) (k : Int) : Call prog clsT X (d + 1) 172 [(2, 89), (0, k)] (mk E c s (hh g)) = some ((0, 0), mk E c s (hh (up g 89 25 (w32 (k + w32 (16 * g 89 21)))))) := by
  rw [rc172_]
/-- Model.isWord -/
theorem m171 (d : Nat) (w : Int) : Call prog clsT X (d + 1) 171 [(2, 89), (1, w)] (mk E c s (hh g)) = some ((0, bI (g 89 22 = 1 ∧ g 89 23 = w)), mk E c s (hh g)) := by
  rw [rc171_, cmp_ne]
  by_cases h : g 89 22 = 1
  · rw [if_neg (fun q => q h), cmp_ne, lcmpn0]
    by_cases h2 : g 89 23 = w
    · rw [if_neg (fun q => q h2), bI_t ⟨h, h2⟩]
    · rw [if_pos h2, bI_f (fun q => h2 q.2)]
  · rw [if_pos h, bI_f (fun q => h q.1)]
end FAIL
