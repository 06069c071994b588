/-! Part 85: the reference's next token. -/
def sgn (b : Int) : Bool := decide ((40 ≤ b ∧ b ≤ 43) ∨ b = 45 ∨ (59 ≤ b ∧ b ≤ 61))
theorem sgn_is {b : Int} : sgn b = true ↔ (40 ≤ b ∧ b ≤ 43) ∨ b = 45 ∨ (59 ≤ b ∧ b ≤ 61) := by simp [sgn]
def tkU (g : Nat → Nat → Int) (b : Nat) : Nat → Nat → Int := up (up (up (up g 89 20 (b : Int)) 89 21 (b : Int)) 89 23 0) 89 24 0
def tkM (g : Nat → Nat → Int) (L b : Nat) : Nat → Nat → Int :=
  if b = L then up (tkU g b) 89 22 0
  else if low (g 105 b) = true then up (up (up (tkU g b) 89 23 (packTo (g 105) b (spn low (g 105) (L - b) b - b))) 89 20 (spn low (g 105) (L - b) b : Nat)) 89 22 (if spn low (g 105) (L - b) b > b + 8 then 4 else 1)
  else if dig (g 105 b) = true then up (up (up (tkU g b) 89 24 (num4 (g 105) b (spn dig (g 105) (L - b) b - b))) 89 20 (spn dig (g 105) (L - b) b : Nat)) 89 22 (if spn dig (g 105) (L - b) b > b + 4 then 4 else 2)
  else up (up (tkU g b) 89 20 ((b + 1 : Nat) : Int)) 89 22 (if sgn (g 105 b) = true then 3 else 4)
section TOKM
variable (X : MExt) (E : List (Nat × Nat)) (c s : Nat) {g : Nat → Nat → Int}
theorem m167s (d L : Nat) (hL : L ≤ 1000) (h19 : g 89 19 = L) : ∀ (n k : Nat) (w1 : MV), k + n = L → Ev prog clsT X d mc167 0 [(2, 89), w1] [] (mk E c s (hh (up g 89 20 (k : Int)))) = Ev prog clsT X d mc167 26 [(2, 89), (3, 0)] [] (mk E c s (hh (up g 89 20 (spn blk (g 105) n k : Nat)))) := by
  intro n
  induction n with
  | zero =>
    intro k w1 hk
    have e19 : up g 89 20 (k : Int) 89 19 = L := h19
    have e20 : up g 89 20 (k : Int) 89 20 = k := up_same
    rw [r167_0, cmp_ge, e19, e20, if_pos (by omega)]
    rfl
  | succ n ih =>
    intro k w1 hk
    have e19 : up g 89 20 (k : Int) 89 19 = L := h19
    have e20 : up g 89 20 (k : Int) 89 20 = k := up_same
    have e105 : up g 89 20 (k : Int) 105 k = g 105 k := up_cell (by decide)
    rw [r167_0, cmp_ge, e19, e20, if_neg (by omega), inb_is, if_pos (by omega), Int.toNat_natCast, e105, cmp_eq, w32_succ (by omega), up_up]
    by_cases q1 : g 105 k = 32
    · rw [if_pos q1, show spn blk (g 105) (n + 1) k = spn blk (g 105) n (k + 1) from if_pos (blk_is.mpr (Or.inl q1))]
      exact ih (k + 1) _ (by omega)
    · rw [if_neg q1, inb_is, if_pos (by omega), cmp_ne]
      by_cases q2 : g 105 k = 10
      · rw [if_neg (fun q => q q2), show spn blk (g 105) (n + 1) k = spn blk (g 105) n (k + 1) from if_pos (blk_is.mpr (Or.inr q2))]
        exact ih (k + 1) _ (by omega)
      · rw [if_pos q2, show spn blk (g 105) (n + 1) k = k from if_neg (fun q => by rcases blk_is.mp q with q | q; exact q1 q; exact q2 q)]
/-- Model.nextToken -/
theorem m167 (d L p : Nat) (hL : L ≤ 1000) (hp : p ≤ L) (h19 : g 89 19 = L) (h20 : g 89 20 = p) : Call prog clsT X (d + 2) 167 [(2, 89)] (mk E c s (hh g)) = some ((3, 0), mk E c s (hh (tkM g L (spn blk (g 105) (L - p) p)))) := by
  have e0 : up g 89 20 (p : Int) = g := up_eta h20.symm
  have hs := m167s X E c s (d + 1) L hL h19 (L - p) p (3, 0) (by omega)
  rw [e0] at hs
  have hb := spn_le blk (g 105) (L - p) p
  generalize spn blk (g 105) (L - p) p = b at hs hb
  rw [rc167_, ← r167_0 X E c s g (d + 1) (3, 0), hs]
  have e19 : up g 89 20 (b : Int) 89 19 = L := h19
  have e20 : up g 89 20 (b : Int) 89 20 = b := up_same
  have e105 : up g 89 20 (b : Int) 105 b = g 105 b := up_cell (by decide)
  rw [r167_26, cmp_ne, e19, e20]
  unfold tkM
  by_cases q0 : b = L
  · rw [if_neg (by omega), if_pos q0]
    rfl
  rw [if_pos (by omega), if_neg q0, inb_is, if_pos (by omega), Int.toNat_natCast, e105]
  rw [show up (up (up (up g 89 20 (b : Int)) 89 21 (b : Int)) 89 23 0) 89 24 0 = tkU g b from rfl]
  have t19 : tkU g b 89 19 = L := h19
  have t20 : tkU g b 89 20 = b := rfl
  have t21 : tkU g b 89 21 = b := rfl
  have t105 : tkU g b 105 = g 105 := rfl
  have sg : ¬ (low (g 105 b) = true) → ¬ (dig (g 105 b) = true) → Ev prog clsT X (d + 1) mc167 168 [(2, 89), (0, g 105 b)] [] (mk E c s (hh (tkU g b))) = some ((3, 0), mk E c s (hh (if low (g 105 b) = true then up (up (up (tkU g b) 89 23 (packTo (g 105) b (spn low (g 105) (L - b) b - b))) 89 20 (spn low (g 105) (L - b) b : Nat)) 89 22 (if spn low (g 105) (L - b) b > b + 8 then 4 else 1) else if dig (g 105 b) = true then up (up (up (tkU g b) 89 24 (num4 (g 105) b (spn dig (g 105) (L - b) b - b))) 89 20 (spn dig (g 105) (L - b) b : Nat)) 89 22 (if spn dig (g 105) (L - b) b > b + 4 then 4 else 2) else up (up (tkU g b) 89 20 ((b + 1 : Nat) : Int)) 89 22 (if sgn (g 105 b) = true then 3 else 4)))) := by
    intro k1 k2
    rw [if_neg k1, if_neg k2, r167_168, t20, w32_succ (by omega)]
    simp only [cmp_lt, cmp_le, cmp_gt, cmp_eq]
    have hsg := @sgn_is (g 105 b)
    by_cases hq : sgn (g 105 b) = true
    · rw [if_pos hq]
      have := hsg.mp hq
      repeat' split
      all_goals first | rfl | omega
    · rw [if_neg hq]
      have : ¬ ((40 ≤ g 105 b ∧ g 105 b ≤ 43) ∨ g 105 b = 45 ∨ (59 ≤ g 105 b ∧ g 105 b ≤ 61)) := fun q => hq (hsg.mpr q)
      repeat' split
      all_goals first | rfl | omega
  have nu : ¬ (low (g 105 b) = true) → (if cmpI .lt (g 105 b) 48 = true then Ev prog clsT X (d + 1) mc167 168 [(2, 89), (0, g 105 b)] [] (mk E c s (hh (tkU g b))) else if cmpI .gt (g 105 b) 57 = true then Ev prog clsT X (d + 1) mc167 168 [(2, 89), (0, g 105 b)] [] (mk E c s (hh (tkU g b))) else Ev prog clsT X (d + 1) mc167 116 [(2, 89), (0, g 105 b)] [] (mk E c s (hh (tkU g b)))) = some ((3, 0), mk E c s (hh (if low (g 105 b) = true then up (up (up (tkU g b) 89 23 (packTo (g 105) b (spn low (g 105) (L - b) b - b))) 89 20 (spn low (g 105) (L - b) b : Nat)) 89 22 (if spn low (g 105) (L - b) b > b + 8 then 4 else 1) else if dig (g 105 b) = true then up (up (up (tkU g b) 89 24 (num4 (g 105) b (spn dig (g 105) (L - b) b - b))) 89 20 (spn dig (g 105) (L - b) b : Nat)) 89 22 (if spn dig (g 105) (L - b) b > b + 4 then 4 else 2) else up (up (tkU g b) 89 20 ((b + 1 : Nat) : Int)) 89 22 (if sgn (g 105 b) = true then 3 else 4)))) := by
    intro k1
    rw [cmp_lt]
    by_cases r1 : g 105 b < 48
    · rw [if_pos r1]; exact sg k1 (fun q => by have := dig_is.mp q; omega)
    · rw [if_neg r1, cmp_gt]
      by_cases r2 : 57 < g 105 b
      · rw [if_pos r2]; exact sg k1 (fun q => by have := dig_is.mp q; omega)
      · rw [if_neg r2, if_neg k1, if_pos (dig_is.mpr (by omega))]
        have hn := m167n X E c s (g := tkU g b) d b L hL t19 t21 (L - b) b (0, g 105 b) (by omega) (Nat.le_refl _)
        rw [Nat.sub_self, show num4 (tkU g b 105) b 0 = 0 from rfl, t105, up_eta (g := tkU g b) (x := 89) (i := 24) (v := 0) rfl, up_eta (g := tkU g b) (x := 89) (i := 20) (v := (b : Int)) rfl] at hn
        exact hn
  rw [cmp_lt]
  by_cases r1 : g 105 b < 97
  · rw [if_pos r1]; exact nu (fun q => by have := low_is.mp q; omega)
  · rw [if_neg r1, cmp_gt]
    by_cases r2 : 122 < g 105 b
    · rw [if_pos r2]; exact nu (fun q => by have := low_is.mp q; omega)
    · rw [if_neg r2, if_pos (low_is.mpr (by omega))]
      have hw := m167w X E c s (g := tkU g b) d b L hL t19 t21 (L - b) b (0, g 105 b) (by omega) (Nat.le_refl _)
      rw [Nat.sub_self, show packTo (tkU g b 105) b 0 = 0 from rfl, t105, up_eta (g := tkU g b) (x := 89) (i := 23) (v := 0) rfl, up_eta (g := tkU g b) (x := 89) (i := 20) (v := (b : Int)) rfl] at hw
      exact hw
end TOKM
