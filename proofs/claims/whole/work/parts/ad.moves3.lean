/-! Part ad: moves, on both sides. -/
section MOVES3
variable (X : MExt) {E : List (Nat × Nat)} {g : Gm}
/-- the best way to put the classes -/
def mvB (g : Gm) (y : Int) : Wy := wyB (-1, fun _ => 0) (mvW g y 10 0 (g 131) 0 (fun _ => 0))
theorem mvB_or (g : Gm) (y : Int) : mvB g y = (-1, fun _ => 0) ∨ (0 ≤ (mvB g y).1 ∧ mvB g y ∈ mvW g y 10 0 (g 131) 0 (fun _ => 0)) := by
  rcases wyB_start (l := mvW g y 10 0 (g 131) 0 (fun _ => 0)) (fun _ => 0) (fun w hw => (mvW_ge g y _ _ _ _ _ w hw).1) with q | ⟨_, q2, q3, _⟩
  · exact Or.inl q.2
  · exact Or.inr ⟨q2, (wyF_mem q3).1⟩
def mvV (g : Gm) (y x : Int) : Int := if 0 ≤ x ∧ x ≤ 10 then (if x = 0 then (mvB g y).1 else if 0 ≤ (mvB g y).1 then (mvB g y).2 (x - 1).toNat else (mvB g y).1) else -1
theorem m219 {N : Int} (h : ST N E g) (y x : Int) (c s d : Nat) {u : Gm} (hu : onQ g u) : ∃ u', onQ g u' ∧ Call prog clsT X (d + 12) 219 [(2, 89), (0, y), (0, x)] (mk E c s (hh u)) = some ((0, mvV g y x), mk E c s (hh u')) := by
  have hnd : ∀ k : Nat, k < 10 → 0 ≤ ndG g y k ∧ ndG g y k ≤ 891 := fun k hk => (nd_b h y hk).2
  have b131 : ∀ i : Nat, 0 ≤ g 131 i ∧ g 131 i ≤ 99 := h.1.1.2.2.2.1.2.1
  have u0 := onQ_0 hu 0
  by_cases q : 0 ≤ x ∧ x ≤ 10
  case neg =>
    refine ⟨_, u0, ?_⟩
    unfold mvV
    rw [if_neg q, rc219_, call0 (show Call prog clsT X (d + 11) 152 _ _ = _ from m152 X E c s (d + 10) _ _ _), push0, bI_f q, r219_7, cmp_ne, if_neg (by decide)]
  have fin : ∀ (w1 : MV) (u2 : Gm), onQ g u2 → (∀ j, j < 10 → u2 134 j = ndG g y j) → (∀ t, t < 3 → u2 135 t = 0) → ∃ u', onQ g u' ∧ Ev prog clsT X (d + 11) mc219 27 [(2, 89), w1, (0, x), (0, 3)] [] (mk E c s (hh u2)) = some ((0, mvV g y x), mk E c s (hh u')) := by
    intro w1 u2 f1 f2 f3
    have f4 := onQ_up (x := 89) (i := 60) (v := -1) f1 rfl
    have ne : ∀ x i, x ≠ 89 → up u2 89 60 (-1) x i = u2 x i := fun x i hx => up_cell hx
    obtain ⟨u', a1, a2, a3, a4, _, _⟩ := m220 X (E := E) (g := g) y hnd b131 c s 10 d 0 (g 131) 0 (fun _ => 0) (up u2 89 60 (-1)) (-1, fun _ => 0) (by omega) (fun i hi => by rw [ne 134 i (by decide)]; exact f2 i hi) (fun i => by rw [ne 106 i (by decide)]; exact f1 106 i rfl) (fun i => by rw [ne 132 i (by decide)]; exact f1 132 i rfl) (fun i => by rw [ne 131 i (by decide)]; exact f1 131 i rfl) (fun t ht => ⟨by rw [ne 135 t (by decide), f3 t ht]; omega, (b131 t).1, Int.le_refl _⟩) (Int.le_refl _) (by decide) (fun i hi => absurd hi (Nat.not_lt_zero _)) (by rw [up_at, if_pos rfl]) (fun z => absurd z (show ¬ (0 : Int) ≤ -1 by decide))
    have a3 : u' 89 60 = (mvB g y).1 := a3
    have a4 : 0 ≤ (mvB g y).1 → ∀ i, i < 10 → u' 137 i = (mvB g y).2 i := a4
    refine ⟨u', fun x i hs => (a1 x i (fun z => by rw [z] at hs; cases hs) (fun z => by rw [z] at hs; cases hs) (fun z => by rw [z] at hs; cases hs) (fun z => by rw [z.1, z.2] at hs; exact absurd hs (by decide))).trans (f4 x i hs), ?_⟩
    unfold mvV
    rw [if_pos q, r219_27, cmp_ge, if_pos (by decide), call3 (show Call prog clsT X (d + 11) 220 [(2, 89), (0, 0), (0, 0)] _ = _ from a2), push3, r219_44, cmp_eq, a3, cmp_ge]
    by_cases z : x = 0
    · rw [if_pos z, if_pos z]
    · rw [if_neg z, if_neg z]
      by_cases z2 : 0 ≤ (mvB g y).1
      · rw [if_pos z2, if_pos z2, w32_of (x := x - 1) (by omega) (by omega), inb_is, if_pos (by omega), a4 z2 _ (by omega)]
      · rw [if_neg z2, if_neg z2]
  have lp2 : ∀ (m i : Nat) (w1 : MV) (u2 : Gm), i + m = 3 → onQ g u2 → (∀ j, j < 10 → u2 134 j = ndG g y j) → (∀ t, t < i → u2 135 t = 0) → ∃ u', onQ g u' ∧ Ev prog clsT X (d + 11) mc219 27 [(2, 89), w1, (0, x), (0, (i : Int))] [] (mk E c s (hh u2)) = some ((0, mvV g y x), mk E c s (hh u')) := by
    intro m
    induction m with
    | zero =>
      intro i w1 u2 hi f1 f2 f3
      have hi : i = 3 := by omega
      subst hi
      exact fin w1 u2 f1 f2 f3
    | succ m ih =>
      intro i w1 u2 hi f1 f2 f3
      have i3 : 0 ≤ (i : Int) ∧ (i : Int) < ((3 : Nat) : Int) := by omega
      rw [r219_27, cmp_ge, if_neg (by omega), inb_is, if_pos i3, Int.toNat_natCast, w32_succ (by omega)]
      exact ih (i + 1) _ _ (by omega) (onQ_up f1 rfl) (fun j hj => by rw [up_cell (by decide)]; exact f2 j hj) (fun t ht => by
        rw [up_at]
        by_cases z : t = i
        · rw [if_pos z]
        · rw [if_neg z]; exact f3 t (by omega))
  have lp1 : ∀ (m i : Nat) (u2 : Gm), i + m = 10 → onQ g u2 → (∀ j, j < i → u2 134 j = ndG g y j) → ∃ u', onQ g u' ∧ Ev prog clsT X (d + 11) mc219 12 [(2, 89), (0, y), (0, x), (0, (i : Int))] [] (mk E c s (hh u2)) = some ((0, mvV g y x), mk E c s (hh u')) := by
    intro m
    induction m with
    | zero =>
      intro i u2 hi f1 f2
      have hi : i = 10 := by omega
      subst hi
      rw [r219_12, cmp_ge, if_pos (by decide)]
      exact lp2 3 0 _ u2 (by omega) f1 f2 (fun t ht => absurd ht (Nat.not_lt_zero _))
    | succ m ih =>
      intro i u2 hi f1 f2
      have i10 : 0 ≤ (i : Int) ∧ (i : Int) < ((10 : Nat) : Int) := by omega
      rw [r219_12, cmp_ge, if_neg (by omega), call0 (show Call prog clsT X (d + 11) 218 _ _ = _ from m218 X h c s (d + 9) (k := i) (by omega) y f1), push0, r219_22, inb_is, if_pos i10, Int.toNat_natCast, w32_succ (by omega)]
      exact ih (i + 1) _ (by omega) (onQ_up f1 rfl) (fun j hj => by
        rw [up_at]
        by_cases z : j = i
        · rw [if_pos z, z]
        · rw [if_neg z]; exact f2 j (by omega))
  rw [rc219_, call0 (show Call prog clsT X (d + 11) 152 _ _ = _ from m152 X E c s (d + 10) _ _ _), push0, bI_t q, r219_7, cmp_ne, if_pos (by decide)]
  exact lp1 10 0 _ (by omega) u0 (fun j hj => absurd hj (Nat.not_lt_zero _))
theorem op_moves (y x : Int) : OpV X 116 219 13 [(0, y), (0, x)] := by
  intro N E c s d g h
  by_cases q : 0 ≤ x ∧ x ≤ 10
  case neg =>
    obtain ⟨g2, a, b⟩ := m219 X h y x c s (d + 1) (onQ_refl g)
    have e : mvV g y x = -1 := if_neg q
    rw [e] at b
    refine ⟨-1, g, g2, a, ?_, b⟩
    rw [rc116_, call0 (show Call prog clsT X (d + 12) 90 _ _ = _ from c90 X E c s (d + 11) _ _ _), push0, bI_f q, r116_4, cmp_eq, if_pos rfl]
  have ev : mvV g y x = if x = 0 then (mvB g y).1 else if 0 ≤ (mvB g y).1 then (mvB g y).2 (x - 1).toNat else (mvB g y).1 := if_pos q
  by_cases q2 : x ≠ 0 ∧ g 106 (x - 1).toNat = 0
  · obtain ⟨g2, a, b⟩ := m219 X h y x c s (d + 1) (onQ_refl g)
    have e : mvV g y x = -1 := by
      rw [ev, if_neg q2.1]
      rcases mvB_or g y with z | ⟨z1, z2⟩
      · rw [z]; rfl
      · rw [if_pos z1]
        exact mvW_untold g y _ _ _ _ _ _ z2 (x - 1).toNat (by omega) (by omega) q2.2
    rw [e] at b
    refine ⟨-1, g, g2, a, ?_, b⟩
    rw [rc116_, call0 (show Call prog clsT X (d + 12) 90 _ _ = _ from c90 X E c s (d + 11) _ _ _), push0, bI_t q, r116_4, cmp_eq, if_neg (by decide), cmp_le, if_neg (by omega), call2 (show Call prog clsT X (d + 12) 97 _ _ = _ from c97 X E c s (d + 10) _), push2, r116_12, w32_of (x := x - 1) (by omega) (by omega), nun (h.1.2.1.of (x - 1)), if_neg (fun w => w.2.2 q2.2)]
  obtain ⟨g1, a1, a2, a3, a4⟩ := c115 X h c s (d + 8) y (onQ_refl g)
  have e42 : ∀ i : Nat, g 42 i = g 132 i := h.1.1.2.2.2.1.2.2.1
  have e41 : ∀ i : Nat, g 41 i = g 131 i := h.1.1.2.2.2.1.1
  obtain ⟨g3, d1, d2, d3⟩ := c28 X h y c s d (u := g1) a4 (fun i => by rw [a2 42 i (by decide)]; exact e42 i) (fun i => by rw [a2 41 i (by decide)]; exact e41 i)
  have d2 : Call prog clsT X (d + 12) 28 [(2, 40)] (mk E c s (hh g1)) = some ((0, (mvB g y).1), mk E c s (hh g3)) := d2
  have d3 : 0 ≤ (mvB g y).1 → ∀ i : Nat, i < 10 → g 106 i ≠ 0 → g3 46 i = (mvB g y).2 i := d3
  have s3 : onQ g g3 := fun x i hs => (d1 x i (fun z => by rw [z] at hs; cases hs) (fun z => by rw [z] at hs; cases hs)).trans (a3 x i hs)
  obtain ⟨g2, b1, b2⟩ := m219 X h y x c s (d + 1) s3
  refine ⟨mvV g y x, g3, g2, b1, ?_, b2⟩
  have go : Ev prog clsT X (d + 12) mc116 18 [(2, 0), (0, y), (0, x), (3, 0)] [] (mk E c s (hh g1)) = some ((0, mvV g y x), mk E c s (hh g3)) := by
    rw [r116_18, call0 d2, push0, r116_21, ev, cmp_eq]
    by_cases z : x = 0
    · rw [if_pos z, if_pos z]
    rw [if_neg z, if_neg z, cmp_ne]
    rcases mvB_or g y with z2 | ⟨z1, _⟩
    · rw [z2]; rfl
    · rw [if_pos z1, if_pos (show ¬ (mvB g y).1 = -1 by omega), w32_of (x := x - 1) (by omega) (by omega), inb_is, if_pos (by omega), d3 z1 _ (by omega) (fun w => q2 ⟨z, w⟩)]
  rw [rc116_, call0 (show Call prog clsT X (d + 12) 90 _ _ = _ from c90 X E c s (d + 11) _ _ _), push0, bI_t q, r116_4, cmp_eq, if_neg (by decide), cmp_le]
  by_cases z : x ≤ 0
  · rw [if_pos z, call3 (show Call prog clsT X (d + 12) 115 _ _ = _ from a1), push3]
    exact go
  · rw [if_neg z, call2 (show Call prog clsT X (d + 12) 97 _ _ = _ from c97 X E c s (d + 10) _), push2, r116_12, w32_of (x := x - 1) (by omega) (by omega), nun (h.1.2.1.of (x - 1)), if_pos ⟨by omega, by omega, fun w => q2 ⟨by omega, w⟩⟩, call3 (show Call prog clsT X (d + 12) 115 _ _ = _ from a1), push3]
    exact go
end MOVES3
