/-! Part a7: what a class needs; taken. -/
def mostG (g : Gm) (k : Nat) : Nat → Int := fo (fun j a => if a < g 152 (5 * k + j) then g 152 (5 * k + j) else a) 0
def baG (g : Gm) (y : Int) (k : Nat) : Int := if y = 0 then stIn g (k : Int) else mostG g k 5
def ndG (g : Gm) (y : Int) (k : Nat) : Int := if g 106 k = 0 then 0 else baG g y k * g 133 k
theorem stIn_Q {g u : Gm} (h : onQ g u) (k : Int) : stIn u k = stIn g k := by
  unfold stIn
  rw [nE_Q h]
  exact sm_congr (fun i _ => by rw [h 104 i rfl, h 99 i rfl])
theorem ba_b {N : Int} {E : List (Nat × Nat)} {g : Gm} (h : ST N E g) (y : Int) {k : Nat} (hk : k < 10) : 0 ≤ baG g y k ∧ baG g y k ≤ 99 := by
  unfold baG
  split
  · have b := sm_bound (f := fun e => bI (g 104 e = 0 ∧ g 99 e = (k : Int))) (a := 0) (b := 1) (n := nE g) (fun i _ => bI_b _)
    have hle := h.1.1.1.rn.le
    unfold stIn
    omega
  · have b152 := h.1.1.2.2.2.1.2.2.2.2.2.2.2
    have key : ∀ n, n ≤ 5 → 0 ≤ mostG g k n ∧ mostG g k n ≤ 99 := by
      intro n
      induction n with
      | zero => intro _; exact ⟨Int.le_refl _, (by decide : (0 : Int) ≤ 99)⟩
      | succ n ih =>
        intro hn
        have ih := ih (by omega)
        have b := b152 (5 * k + n) (by omega)
        have e : mostG g k (n + 1) = if mostG g k n < g 152 (5 * k + n) then g 152 (5 * k + n) else mostG g k n := rfl
        rw [e]
        split <;> omega
    exact key 5 (Nat.le_refl _)
theorem nd_b {N : Int} {E : List (Nat × Nat)} {g : Gm} (h : ST N E g) (y : Int) {k : Nat} (hk : k < 10) : (0 ≤ baG g y k * g 133 k ∧ baG g y k * g 133 k ≤ 891) ∧ 0 ≤ ndG g y k ∧ ndG g y k ≤ 891 := by
  have b1 := ba_b h y hk
  have b2 := h.1.1.2.2.2.1.2.2.2.2.2.1 k
  have m1 : 0 ≤ baG g y k * g 133 k := Int.mul_nonneg b1.1 b2.1
  have m2 : baG g y k * g 133 k ≤ 99 * 9 := Int.mul_le_mul b1.2 b2.2 b2.1 (by decide)
  refine ⟨⟨m1, by omega⟩, ?_⟩
  unfold ndG
  split
  · decide
  · exact ⟨m1, by omega⟩
section TAKEN
variable (X : MExt) {E : List (Nat × Nat)} {g : Gm}
theorem m218 {N : Int} (h : ST N E g) (c s d : Nat) {k : Nat} (hk : k < 10) (y : Int) {u : Gm} (hu : onQ g u) : Call prog clsT X (d + 2) 218 [(2, 89), (0, (k : Int)), (0, y)] (mk E c s (hh u)) = some ((0, ndG g y k), mk E c s (hh u)) := by
  have i10 : 0 ≤ (k : Int) ∧ (k : Int) < ((10 : Nat) : Int) := by omega
  have hb := nd_b h y hk
  have e5 : w32 (5 * (k : Int)) = ((5 * k + 0 : Nat) : Int) := by rw [w32_of (by omega) (by omega)]; omega
  have e10 : w32 (w32 (5 * (k : Int)) + 5) = ((5 * k + 5 : Nat) : Int) := by rw [e5, w32_of (by omega) (by omega)]; omega
  have fin : ∀ b : Int, b = baG g y k → (if g 106 k = 0 then some (((0 : Nat), (0 : Int)), mk E c s (hh u)) else some ((0, w32 (b * g 133 k)), mk E c s (hh u))) = some ((0, ndG g y k), mk E c s (hh u)) := fun b hbb => by
    unfold ndG
    by_cases z : g 106 k = 0
    · rw [if_pos z, if_pos z]
    · rw [if_neg z, if_neg z, hbb, w32_of (by omega) (by omega)]
  rw [rc218_, cmp_eq]
  by_cases q : y = 0
  · rw [if_pos q, call0 (show Call prog clsT X (d + 1) 190 _ _ = _ from m190n X E c s (RN_Q h hu) d (k : Int)), push0, r218_8, e5, r218_13, cmp_ge, e10, if_neg (by omega), cmp_eq, if_pos q, inb_is, if_pos i10, Int.toNat_natCast, cmp_eq, hu 106 k rfl, hu 133 k rfl, inb_is, if_pos i10]
    exact fin _ (by unfold baG; rw [if_pos q, stIn_Q hu])
  rw [if_neg q, r218_8, e5]
  have loop : ∀ (m i : Nat), i + m = 5 → Ev prog clsT X (d + 1) mc218 13 [(2, 89), (0, (k : Int)), (0, y), (0, mostG g k i), (0, ((5 * k + i : Nat) : Int))] [] (mk E c s (hh u)) = some ((0, ndG g y k), mk E c s (hh u)) := by
    intro m
    induction m with
    | zero =>
      intro i hi
      have hi : i = 5 := by omega
      subst hi
      rw [r218_13, cmp_ge, e10, if_pos (by omega), inb_is, if_pos i10, Int.toNat_natCast, cmp_eq, hu 106 k rfl, hu 133 k rfl, inb_is, if_pos i10]
      exact fin _ (by unfold baG; rw [if_neg q])
    | succ m ih =>
      intro i hi
      have e : mostG g k (i + 1) = if mostG g k i < g 152 (5 * k + i) then g 152 (5 * k + i) else mostG g k i := rfl
      rw [r218_13, cmp_ge, e10, if_neg (by omega), cmp_eq, if_neg q, inb_is, if_pos (by omega), Int.toNat_natCast, hu 152 _ rfl, w32_succ (by omega), ← e]
      exact ih (i + 1) (by omega)
  exact loop 5 0 (by omega)
theorem c27 {N : Int} (h : ST N E g) (c s d : Nat) {k : Nat} (hk : k < 10) {u : Gm} (hu : onQ g u) : Call prog clsT X (d + 1) 27 [(2, 40), (0, (k : Int))] (mk E c s (hh u)) = some ((0, mostG g k 5), mk E c s (hh u)) := by
  have e44 : ∀ i : Nat, g 44 i = g 152 i := h.1.1.2.2.2.1.2.2.2.2.2.2.1
  have loop : ∀ (m i : Nat), i + m = 5 → Ev prog clsT X d mc27 4 [(2, 40), (0, (k : Int)), (0, mostG g k i), (0, (i : Int))] [] (mk E c s (hh u)) = some ((0, mostG g k 5), mk E c s (hh u)) := by
    intro m
    induction m with
    | zero =>
      intro i hi
      have hi : i = 5 := by omega
      subst hi
      rw [r27_4, cmp_ge, if_pos (by decide)]
    | succ m ih =>
      intro i hi
      have e : mostG g k (i + 1) = if mostG g k i < g 152 (5 * k + i) then g 152 (5 * k + i) else mostG g k i := rfl
      have e0 : w32 (w32 ((k : Int) * 5) + (i : Int)) = ((5 * k + i : Nat) : Int) := by
        rw [w32_of (x := (k : Int) * 5) (by omega) (by omega), w32_of (by omega) (by omega)]; omega
      rw [r27_4, cmp_ge, if_neg (by omega), e0, inb_is, if_pos (by omega), Int.toNat_natCast, hu 44 _ rfl, e44, w32_succ (by omega), ← e]
      exact ih (i + 1) (by omega)
  rw [rc27_]
  exact loop 5 0 (by omega)
/-- measure: the needs, -1 where nothing is told -/
theorem c115 {N : Int} (h : ST N E g) (c s d : Nat) (y : Int) {u : Gm} (hu : onQ g u) : ∃ u', Call prog clsT X (d + 4) 115 [(2, 0), (0, y)] (mk E c s (hh u)) = some ((3, 0), mk E c s (hh u')) ∧ (∀ x i, x ≠ 45 → u' x i = u x i) ∧ onQ g u' ∧ ∀ k : Nat, k < 10 → u' 45 k = if g 106 k = 0 then -1 else ndG g y k := by
  have e43 : ∀ i : Nat, g 43 i = g 133 i := h.1.1.2.2.2.1.2.2.2.2.1
  have q45 : ∀ i, scq 45 i = true := fun i => rfl
  have loop : ∀ (m i : Nat) (w3 : MV) (u1 : Gm), i + m = 10 → (∀ x i, x ≠ 45 → u1 x i = u x i) → onQ g u1 → (∀ k : Nat, k < i → u1 45 k = if g 106 k = 0 then -1 else ndG g y k) → ∃ u', Ev prog clsT X (d + 3) mc115 2 [(2, 0), (0, y), (0, (i : Int)), w3] [] (mk E c s (hh u1)) = some ((3, 0), mk E c s (hh u')) ∧ (∀ x i, x ≠ 45 → u' x i = u x i) ∧ onQ g u' ∧ ∀ k : Nat, k < 10 → u' 45 k = if g 106 k = 0 then -1 else ndG g y k := by
    intro m
    induction m with
    | zero =>
      intro i w3 u1 hi hf hu1 hk
      have hi : i = 10 := by omega
      subst hi
      refine ⟨u1, ?_, hf, hu1, hk⟩
      rw [r115_2, cmp_ge, if_pos (by decide)]
    | succ m ih =>
      intro i w3 u1 hi hf hu1 hk
      have i10 : 0 ≤ (i : Int) ∧ (i : Int) < ((10 : Nat) : Int) := by omega
      have hst := ST_Q h hu1
      have hb := nd_b h y (k := i) (by omega)
      have go : ∃ u', Ev prog clsT X (d + 3) mc115 16 [(2, 0), (0, y), (0, (i : Int)), (3, 0)] [(0, baG g y i)] (mk E c s (hh u1)) = some ((3, 0), mk E c s (hh u')) ∧ (∀ x i, x ≠ 45 → u' x i = u x i) ∧ onQ g u' ∧ ∀ k : Nat, k < 10 → u' 45 k = if g 106 k = 0 then -1 else ndG g y k := by
        have put : ∀ v : Int, v = (if g 106 i = 0 then -1 else ndG g y i) → ∃ u', Ev prog clsT X (d + 3) mc115 2 [(2, 0), (0, y), (0, ((i + 1 : Nat) : Int)), (0, baG g y i)] [] (mk E c s (hh (up u1 45 i v))) = some ((3, 0), mk E c s (hh u')) ∧ (∀ x i, x ≠ 45 → u' x i = u x i) ∧ onQ g u' ∧ ∀ k : Nat, k < 10 → u' 45 k = if g 106 k = 0 then -1 else ndG g y k := fun v hv => ih (i + 1) _ _ (by omega) (fun x j hx => by rw [up_cell hx]; exact hf x j hx) (onQ_up hu1 rfl) (fun k hk2 => by
          rw [up_at]
          by_cases z : k = i
          · rw [if_pos z, z]; exact hv
          · rw [if_neg z]; exact hk k (by omega))
        rw [r115_16, call2 (show Call prog clsT X (d + 3) 97 _ _ = _ from c97 X E c s (d + 1) (i : Int)), push2, r115_24, nun (hst.1.2.1.of (i : Int)), Int.toNat_natCast, hu1 106 i rfl]
        by_cases z : g 106 i = 0
        · rw [if_neg (fun w => w.2.2 z), inb_is, if_pos i10, w32_succ (by omega)]
          exact put (-1) (by rw [if_pos z])
        · rw [if_pos ⟨by omega, by omega, z⟩, inb_is, if_pos i10, inb_is, if_pos i10, hu1 43 i rfl, e43, Int.mul_comm (g 133 i), w32_of (x := baG g y i * g 133 i) (by omega) (by omega), w32_succ (by omega)]
          exact put _ (by rw [if_neg z]; unfold ndG; rw [if_neg z])
      rw [r115_2, cmp_ge, if_neg (by omega), cmp_eq]
      by_cases q : y = 0
      · have eb : baG g y i = stIn g (i : Int) := if_pos q
        rw [eb] at go
        rw [if_pos q, call0 (show Call prog clsT X (d + 3) 24 _ _ = _ from c24 X E c s hst.1.1.1 d (i : Int)), push0, stIn_Q hu1]
        exact go
      · have eb : baG g y i = mostG g i 5 := if_neg q
        rw [eb] at go
        rw [if_neg q, call0 (show Call prog clsT X (d + 3) 27 _ _ = _ from c27 X h c s (d + 2) (k := i) (by omega) hu1), push0, r115_11]
        exact go
  rw [rc115_]
  exact loop 10 0 (3, 0) u (by omega) (fun _ _ _ => rfl) hu (fun k hk => absurd hk (Nat.not_lt_zero _))
theorem op_taken (x1 y : Int) : OpV X 114 217 5 [(0, x1), (0, y)] := by
  intro N E c s d g h
  have e42 : ∀ i : Nat, g 42 i = g 132 i := h.1.1.2.2.2.1.2.2.1
  have g0 := onQ_0 (onQ_refl g) 0
  by_cases q : 0 ≤ x1 ∧ x1 ≤ 2
  case neg =>
    refine ⟨-1, g, up g 89 0 0, g0, ?_, ?_⟩
    · rw [rc114_, call0 (show Call prog clsT X (d + 4) 90 _ _ = _ from c90 X E c s (d + 3) _ _ _), push0, bI_f q, r114_4, cmp_ne, if_neg (by decide)]
    · rw [rc217_, call0 (show Call prog clsT X (d + 4) 152 _ _ = _ from m152 X E c s (d + 3) _ _ _), push0, bI_f q, r217_7, cmp_ne, if_neg (by decide)]
  obtain ⟨g1, a1, _, a3, a4⟩ := c115 X h c s d y (onQ_refl g)
  have u0 := onQ_0 a3 0
  let cc : Nat → Int := fun i => if g 132 i = x1 then ndG g y i else 0
  have ec : ∀ i : Nat, cc i = if g 132 i = x1 then ndG g y i else 0 := fun i => rfl
  have bc : ∀ i, i < 10 → 0 ≤ cc i ∧ cc i ≤ 891 := fun i hi => by
    rw [ec i]
    split
    · exact (nd_b h y hi).2
    · decide
  have st : ∀ i v, i < 10 → v = cc i → w32 (sm cc i + v) = sm cc (i + 1) := fun i v hi hv => sm_step 891 hv (fun j hj => bc j (by omega)) (by omega) (by omega)
  have s0 : ∀ i, cc i = 0 → sm cc (i + 1) = sm cc i := fun i hz => by
    show sm cc i + cc i = _
    rw [hz, Int.add_zero]
  have lpC : ∀ (m i : Nat) (w2 : MV), i + m = 10 → Ev prog clsT X (d + 4) mc114 14 [(2, 0), (0, x1), w2, (0, sm cc i), (0, (i : Int))] [] (mk E c s (hh g1)) = some ((0, sm cc 10), mk E c s (hh g1)) := by
    intro m
    induction m with
    | zero =>
      intro i w2 hi
      have hi : i = 10 := by omega
      subst hi
      rw [r114_14, cmp_ge, if_pos (by decide)]
    | succ m ih =>
      intro i w2 hi
      have i10 : 0 ≤ (i : Int) ∧ (i : Int) < ((10 : Nat) : Int) := by omega
      have b := nd_b h y (k := i) (by omega)
      rw [r114_14, cmp_ge, if_neg (by omega), inb_is, if_pos i10, Int.toNat_natCast, cmp_ne, a3 42 i rfl, e42, w32_succ (by omega)]
      by_cases z : g 132 i = x1
      case neg =>
        rw [if_pos z, ← s0 i (by rw [ec i, if_neg z])]
        exact ih (i + 1) _ (by omega)
      rw [if_neg (fun w => w z), inb_is, if_pos i10, cmp_le, a4 i (by omega)]
      by_cases z2 : g 106 i = 0
      · rw [if_pos z2, if_pos (by decide), ← s0 i (by rw [ec i, if_pos z]; unfold ndG; rw [if_pos z2])]
        exact ih (i + 1) _ (by omega)
      · rw [if_neg z2]
        by_cases z3 : ndG g y i ≤ 0
        · rw [if_pos z3, ← s0 i (by rw [ec i, if_pos z]; omega)]
          exact ih (i + 1) _ (by omega)
        · rw [if_neg z3, inb_is, if_pos i10, st i _ (by omega) (by rw [ec i, if_pos z])]
          exact ih (i + 1) _ (by omega)
  have lpM : ∀ (m i : Nat), i + m = 10 → Ev prog clsT X (d + 4) mc217 14 [(2, 89), (0, x1), (0, y), (0, sm cc i), (0, (i : Int))] [] (mk E c s (hh (up g1 89 0 0))) = some ((0, sm cc 10), mk E c s (hh (up g1 89 0 0))) := by
    intro m
    induction m with
    | zero =>
      intro i hi
      have hi : i = 10 := by omega
      subst hi
      rw [r217_14, cmp_ge, if_pos (by decide)]
    | succ m ih =>
      intro i hi
      have i10 : 0 ≤ (i : Int) ∧ (i : Int) < ((10 : Nat) : Int) := by omega
      rw [r217_14, cmp_ge, if_neg (by omega), inb_is, if_pos i10, Int.toNat_natCast, cmp_ne, u0 132 i rfl]
      by_cases z : g 132 i = x1
      case neg =>
        rw [if_pos z, st i 0 (by omega) (by rw [ec i, if_neg z]), w32_succ (by omega)]
        exact ih (i + 1) (by omega)
      rw [if_neg (fun w => w z), call0 (show Call prog clsT X (d + 4) 218 _ _ = _ from m218 X h c s (d + 2) (k := i) (by omega) y u0), push0, r217_28, st i _ (by omega) (by rw [ec i, if_pos z]), w32_succ (by omega)]
      exact ih (i + 1) (by omega)
  refine ⟨sm cc 10, g1, up g1 89 0 0, u0, ?_, ?_⟩
  · rw [rc114_, call0 (show Call prog clsT X (d + 4) 90 _ _ = _ from c90 X E c s (d + 3) _ _ _), push0, bI_t q, r114_4, cmp_ne, if_pos (by decide), call3 a1, push3, r114_10]
    exact lpC 10 0 _ (by omega)
  · rw [rc217_, call0 (show Call prog clsT X (d + 4) 152 _ _ = _ from m152 X E c s (d + 3) _ _ _), push0, bI_t q, r217_7, cmp_ne, if_pos (by decide)]
    exact lpM 10 0 (by omega)
end TAKEN
