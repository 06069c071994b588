/-! Part 87: the class's next token. -/
def sgl : List Int := [40, 41, 60, 61, 43, 45, 42, 59]
theorem sgl_is : ∀ n : Nat, n < 128 → (decide (fnd sgl (n : Int) 8 0 < 0) = !sgn (n : Int)) := by decide +kernel
theorem c16_is : ∀ n : Nat, n < 128 → c16 (n : Int) = n := by decide +kernel
def tkV (g : Nat → Nat → Int) (b : Nat) : Nat → Nat → Int := up (up g 9 5 (b : Int)) 9 4 (b : Int)
def tkC (g : Nat → Nat → Int) (L b : Nat) : Nat → Nat → Int :=
  if b = L then up (tkV g b) 9 6 0
  else if low (g 10 b) = true then up (up (tkV g b) 9 4 (spn low (g 10) (L - b) b : Nat)) 9 6 (if spn low (g 10) (L - b) b > b + 8 then 4 else 1)
  else if dig (g 10 b) = true then up (up (up (tkV g b) 9 7 (numTo (g 10) b (spn dig (g 10) (L - b) b - b))) 9 4 (spn dig (g 10) (L - b) b : Nat)) 9 6 (if spn dig (g 10) (L - b) b > b + 4 then 4 else 2)
  else up (up (tkV g b) 9 4 ((b + 1 : Nat) : Int)) 9 6 (if sgn (g 10 b) = true then 3 else 4)
section TOKC
variable (X : MExt) (E : List (Nat × Nat)) (c s : Nat) {g : Nat → Nat → Int}
theorem c40s (d L : Nat) (hL : L ≤ 1000) (h1 : g 9 1 = L) : ∀ (n k : Nat), k + n = L → ∃ z : Int, Ev prog clsT X d mc40 11 [(2, 9), (0, (k : Int))] [] (mk E c s (hh (up g 9 5 (k : Int)))) = Ev prog clsT X d mc40 34 [(2, 9), (0, z)] [] (mk E c s (hh (up g 9 5 (spn blk (g 10) n k : Nat)))) := by
  intro n
  induction n with
  | zero =>
    intro k hk
    have e1 : up g 9 5 (k : Int) 9 1 = L := h1
    refine ⟨k, ?_⟩
    rw [r40_11, cmp_ge, e1, if_pos (by omega)]
    rfl
  | succ n ih =>
    intro k hk
    have e1 : up g 9 5 (k : Int) 9 1 = L := h1
    have e10 : up g 9 5 (k : Int) 10 k = g 10 k := up_cell (by decide)
    rw [r40_11, cmp_ge, e1, if_neg (by omega), inb_is, if_pos (by omega), Int.toNat_natCast, e10, cmp_eq, w32_succ (by omega), up_up]
    by_cases q1 : g 10 k = 32
    · rw [if_pos q1, show spn blk (g 10) (n + 1) k = spn blk (g 10) n (k + 1) from if_pos (blk_is.mpr (Or.inl q1))]
      exact ih (k + 1) (by omega)
    · rw [if_neg q1, inb_is, if_pos (by omega), cmp_ne]
      by_cases q2 : g 10 k = 10
      · rw [if_neg (fun q => q q2), show spn blk (g 10) (n + 1) k = spn blk (g 10) n (k + 1) from if_pos (blk_is.mpr (Or.inr q2))]
        exact ih (k + 1) (by omega)
      · rw [if_pos q2, show spn blk (g 10) (n + 1) k = k from if_neg (fun q => by rcases blk_is.mp q with q | q; exact q1 q; exact q2 q)]
        exact ⟨k, rfl⟩
/-- Reader.step -/
theorem c40 (hX : STR X (-12) sgl) (d L p : Nat) (hL : L ≤ 1000) (hp : p ≤ L) (h1 : g 9 1 = L) (h4 : g 9 4 = p) (h3 : g 9 3 = 0) (hT : ∀ i, i < L → okB (g 10 i)) : Call prog clsT X (d + 5) 40 [(2, 9)] (mk E c s (hh g)) = some ((3, 0), mk E c s (hh (tkC g L (spn blk (g 10) (L - p) p)))) := by
  obtain ⟨z, hs⟩ := c40s X E c s (d + 4) L hL h1 (L - p) p (by omega)
  have hb := spn_le blk (g 10) (L - p) p
  generalize spn blk (g 10) (L - p) p = b at hs hb
  rw [rc40_, cmp_eq, if_pos h3, h4, hs]
  have e1 : up g 9 5 (b : Int) 9 1 = L := h1
  have e5 : up g 9 5 (b : Int) 9 5 = b := up_same
  have e10 : up g 9 5 (b : Int) 10 b = g 10 b := up_cell (by decide)
  rw [r40_34, cmp_lt, e1, e5]
  unfold tkC
  by_cases q0 : b = L
  · rw [if_neg (by omega), if_pos q0]
    rfl
  have hok := hT b (by omega)
  have t1 : tkV g b 9 1 = L := h1
  have t4 : tkV g b 9 4 = b := rfl
  have t5 : tkV g b 9 5 = b := rfl
  have t10 : tkV g b 10 = g 10 := rfl
  rw [if_pos (by omega), if_neg q0, inb_is, if_pos (by omega), Int.toNat_natCast, e10, show up (up g 9 5 (b : Int)) 9 4 (b : Int) = tkV g b from rfl]
  have nu : ¬ (low (g 10 b) = true) → Ev prog clsT X (d + 4) mc40 64 [(2, 9), (0, z)] [] (mk E c s (hh (tkV g b))) = some ((3, 0), mk E c s (hh (if low (g 10 b) = true then up (up (tkV g b) 9 4 (spn low (g 10) (L - b) b : Nat)) 9 6 (if spn low (g 10) (L - b) b > b + 8 then 4 else 1) else if dig (g 10 b) = true then up (up (up (tkV g b) 9 7 (numTo (g 10) b (spn dig (g 10) (L - b) b - b))) 9 4 (spn dig (g 10) (L - b) b : Nat)) 9 6 (if spn dig (g 10) (L - b) b > b + 4 then 4 else 2) else up (up (tkV g b) 9 4 ((b + 1 : Nat) : Int)) 9 6 (if sgn (g 10 b) = true then 3 else 4)))) := by
    intro k1
    have sg : ¬ (dig (g 10 b) = true) → Ev prog clsT X (d + 4) mc40 81 [(2, 9), (0, z)] [] (mk E c s (hh (tkV g b))) = some ((3, 0), mk E c s (hh (up (up (tkV g b) 9 4 ((b + 1 : Nat) : Int)) 9 6 (if sgn (g 10 b) = true then 3 else 4)))) := by
      intro k2
      obtain ⟨n, hn⟩ := Int.eq_ofNat_of_zero_le (show 0 ≤ g 10 b by rcases hok with q | q <;> omega)
      have hn2 : n < 128 := by rcases hok with q | q <;> omega
      have hs2 := sgl_is n hn2
      rw [r40_81, t5, inb_is, if_pos (by omega), Int.toNat_natCast, t10, hn, c16_is n hn2, w32_succ (by omega), call0 (m249 X E c s hX d (n : Int) ⟨by omega, by omega⟩ (by decide)), push0, r40_96, cmp_lt]
      rw [show sgl.length = 8 from rfl]
      by_cases q : fnd sgl (n : Int) 8 0 < 0
      · rw [decide_eq_true q] at hs2
        have : sgn (n : Int) = false := by
          cases hq : sgn (n : Int)
          · rfl
          · rw [hq] at hs2; exact absurd hs2 (by decide)
        rw [if_pos q, this]
        rfl
      · rw [decide_eq_false q] at hs2
        have : sgn (n : Int) = true := by
          cases hq : sgn (n : Int)
          · rw [hq] at hs2; exact absurd hs2 (by decide)
          · rfl
        rw [if_neg q, this]
        rfl
    rw [if_neg k1, r40_64, t5, inb_is, if_pos (by omega), Int.toNat_natCast, t10, cmp_lt]
    by_cases r1 : g 10 b < 48
    · have k2 : ¬ (dig (g 10 b) = true) := fun q => by have := dig_is.mp q; omega
      rw [if_pos r1, if_neg k2]; exact sg k2
    · rw [if_neg r1, inb_is, if_pos (by omega), cmp_gt]
      by_cases r2 : 57 < g 10 b
      · have k2 : ¬ (dig (g 10 b) = true) := fun q => by have := dig_is.mp q; omega
        rw [if_pos r2, if_neg k2]; exact sg k2
      · have hn := c42 X E c s (g := tkV g b) (d + 3) b L hL (by omega) t1 t5 t4
        rw [if_neg r2, if_pos (dig_is.mpr (by omega)), call3 hn, push3, r40_80, t10]
  rw [cmp_lt]
  by_cases r1 : g 10 b < 97
  · rw [if_pos r1]; exact nu (fun q => by have := low_is.mp q; omega)
  · rw [if_neg r1, inb_is, if_pos (by omega), cmp_gt]
    by_cases r2 : 122 < g 10 b
    · rw [if_pos r2]; exact nu (fun q => by have := low_is.mp q; omega)
    · have hw := c41 X E c s (g := tkV g b) (d + 3) b L hL (by omega) t1 t5 t4
      rw [if_neg r2, if_pos (low_is.mpr (by omega)), call3 hw, push3, r40_63, t10]
/-- .. that has found a fault already -/
theorem c40f (d : Nat) (h3 : g 9 3 ≠ 0) : Call prog clsT X (d + 1) 40 [(2, 9)] (mk E c s (hh g)) = some ((3, 0), mk E c s (hh g)) := by
  rw [rc40_, cmp_eq, if_neg h3]
end TOKC
