/-! Part a5: money. -/
def feE (g : Gm) (e : Nat) : Int := g 89 68 + g 89 69 * g 103 e
def feS (g : Gm) (x n : Nat) : Int := sm (fun e => if g 100 e = x then feE g e else 0) n
theorem feE_b {N : Int} {E : List (Nat × Nat)} {g : Gm} (h : ST N E g) (e : Nat) : (0 ≤ g 89 69 * g 103 e ∧ g 89 69 * g 103 e ≤ 891) ∧ 0 ≤ feE g e ∧ feE g e ≤ 990 := by
  obtain ⟨_, _, _, _, _, _, y1, y2, y3, y4⟩ := h.1.1.2.2.2.2.1
  obtain ⟨_, _, _, _, _, _, _, _, _, e35, _, b35, _⟩ := h.1.1.1
  have b := b35 e
  rw [e35] at b
  have m1 : 0 ≤ g 89 69 * g 103 e := Int.mul_nonneg y3 b.1
  have m2 : g 89 69 * g 103 e ≤ 99 * 9 := Int.mul_le_mul y4 b.2 b.1 (by decide)
  unfold feE
  generalize g 89 69 * g 103 e = z at m1 m2
  omega
theorem feS_b {N : Int} {E : List (Nat × Nat)} {g : Gm} (h : ST N E g) (x n : Nat) (hn : n ≤ 40) : 0 ≤ feS g x n ∧ feS g x n ≤ 39600 := by
  have b1 := sm_bound (f := fun e => if g 100 e = x then feE g e else 0) (a := 0) (b := 990) (n := n) (fun e _ => by
    split
    · exact (feE_b h e).2
    · decide)
  unfold feS
  omega
section MONEY
variable (X : MExt)
theorem op_money (x1 : Int) : OpQ X 143 237 11 0 [(0, x1)] := by
  intro N E c s d g h
  have hre := h.1.1.1
  have hv := h.1.1.2.1
  have hle := hre.rn.le
  have hn := hre.n
  have hn2 := hre.n2
  have hC := C_b h.1.1.2.2.2.2.1
  obtain ⟨_, _, e61, _, e68, e69, y1, y2, y3, y4⟩ := h.1.1.2.2.2.2.1
  obtain ⟨_, _, _, _, _, _, e32, _, _, e35, _, _, _⟩ := hre
  have hre := h.1.1.1
  have c84' : Call prog clsT X (d + 10) 84 [(2, 1), (0, x1)] (mk E c s (hh g)) = _ := c84 X E c s hv (d + 8) x1
  have m154' : ∀ c s, Call prog clsT X (d + 10) 154 [(2, 89), (0, x1)] (mk E c s (hh g)) = _ := fun c s => m154 X E c s (g := g) (d + 8) x1
  by_cases q : 0 ≤ x1 ∧ x1 ≤ 9 ∧ g 90 x1.toNat ≠ 0
  case neg =>
    refine ⟨g, up g 89 0 1, onQ_0 (onQ_refl g) 1, Or.inr ⟨0, ?_, ?_, up_at⟩⟩
    · rw [rc143_, call0 c84', push0, bI_f q, r143_4, cmp_ne, if_neg (by decide)]
      rfl
    · rw [rc237_, call0 (m154' _ _), push0, bI_f q, r237_4, cmp_eq, if_pos rfl, r237_13, cmp_ge]
      by_cases z : up g 89 0 1 89 10 ≤ 0
      · rw [if_pos z]
      · rw [if_neg z, cmp_ne, if_pos (by rw [up_at, if_pos rfl]; decide)]
  obtain ⟨k, rfl⟩ := Int.eq_ofNat_of_zero_le q.1
  have hk : k < 10 := by omega
  have i10 : 0 ≤ (k : Int) ∧ (k : Int) < ((10 : Nat) : Int) := by omega
  obtain ⟨pl, p0, _, pc, pn, pm⟩ := PL X h
  obtain ⟨g1, a1, a2, a3⟩ := c123 X h ⟨p0, pc, pn⟩ (d + 3) c s g (onC_refl g)
  have a1 : Call prog clsT X (d + 10) 123 [(2, 0)] (mk E c s (hh g)) = some ((3, 0), mk E c s (hh g1)) := a1
  have q1 : onQ g g1 := onQ_su (onQ_refl g) a2
  have bM := sT_b (g := g) (pl := pl) (x := k) hle hC.2.1
  generalize hT : sT g pl (cM g) k (nE g) = T at bM
  have lpC : ∀ (m i : Nat), i + m = nE g → Ev prog clsT X (d + 10) mc143 20 [(2, 0), (0, (k : Int)), (0, T - feS g k i), (0, (i : Int))] [] (mk E c s (hh g1)) = some ((0, T - feS g k (nE g)), mk E c s (hh g1)) := by
    intro m
    induction m with
    | zero =>
      intro i hi
      have hi : i = nE g := by omega
      subst hi
      rw [r143_20, q1 30 0 rfl, hn, cmp_ge, if_pos (Int.le_refl _)]
    | succ m ih =>
      intro i hi
      have i40 : 0 ≤ (i : Int) ∧ (i : Int) < ((40 : Nat) : Int) := by omega
      have nx := ih (i + 1) (by omega)
      have nS : feS g k (i + 1) = feS g k i + if g 100 i = k then feE g i else 0 := rfl
      rw [r143_20, q1 30 0 rfl, hn, cmp_ge, if_neg (by omega), inb_is, if_pos i40, Int.toNat_natCast, cmp_ne, q1 32 i rfl, e32, w32_succ (by omega)]
      by_cases z : g 100 i = k
      case neg =>
        rw [if_neg z, Int.add_zero] at nS
        rw [if_pos z, ← nS]
        exact nx
      rw [if_pos z] at nS
      have bf := feE_b h i
      have bS := feS_b h k i (by omega)
      have e0 : w32 (T - feS g k i - w32 (g 89 68 + w32 (g 89 69 * g 103 i))) = T - feS g k (i + 1) := by
        rw [nS, w32_of (x := g 89 69 * g 103 i) (by omega) (by omega)]
        show w32 (T - feS g k i - w32 (feE g i)) = _
        rw [w32_of (x := feE g i) (by omega) (by omega), w32_of (by omega) (by omega)]
        omega
      rw [if_neg (fun w => w z), inb_is, if_pos i40, q1 55 6 rfl, q1 55 7 rfl, q1 35 i rfl, e68, e69, e35, e0]
      exact nx
  have lpC : Ev prog clsT X (d + 10) mc143 20 [(2, 0), (0, (k : Int)), (0, T - 0), (0, 0)] [] (mk E c s (hh g1)) = some ((0, T - feS g k (nE g)), mk E c s (hh g1)) := lpC (nE g) 0 (by omega)
  rw [Int.sub_zero] at lpC
  have u0 := onQ_0 q1 0
  have m154u : Call prog clsT X (d + 10) 154 [(2, 89), (0, (k : Int))] (mk E c s (hh g1)) = some ((0, bI (0 ≤ (k : Int) ∧ (k : Int) ≤ 9 ∧ g 90 (k : Int).toNat ≠ 0)), mk E c s (hh g1)) := by
    rw [show d + 10 = (d + 8) + 2 from rfl, m154 X E c s (d + 8) (k : Int), q1 90 _ rfl]
  have lpM : ∀ (m i : Nat) (w4 : MV) (u : Gm), i + m = nE g → onQ g u → u 89 0 = 0 → ∃ u', Ev prog clsT X (d + 10) mc237 13 [(2, 89), (0, (k : Int)), (0, sT g pl (cM g) k i - feS g k i), (0, (i : Int)), w4] [] (mk E c s (hh u)) = some ((0, T - feS g k (nE g)), mk E c s (hh u')) ∧ onQ g u' ∧ u' 89 0 = 0 := by
    intro m
    induction m with
    | zero =>
      intro i w4 u hi hu hu0
      have hi : i = nE g := by omega
      subst hi
      refine ⟨u, ?_, hu, hu0⟩
      rw [r237_13, hu 89 10 rfl, hn2, cmp_ge, if_pos (Int.le_refl _), hT]
    | succ m ih =>
      intro i w4 u hi hu hu0
      have hi2 : i < nE g := by omega
      have i40 : 0 ≤ (i : Int) ∧ (i : Int) < ((40 : Nat) : Int) := by omega
      have nS : feS g k (i + 1) = feS g k i + if g 100 i = k then feE g i else 0 := rfl
      have nT : sT g pl (cM g) k (i + 1) = sT g pl (cM g) k i + if g 100 i = k then cM g (pl i) else 0 := rfl
      rw [r237_13, hu 89 10 rfl, hn2, cmp_ge, if_neg (by omega), cmp_ne, if_neg (fun w => w hu0), inb_is, if_pos i40, Int.toNat_natCast, cmp_eq, hu 100 i rfl]
      by_cases z : g 100 i = k
      case neg =>
        rw [if_neg z, Int.add_zero] at nS nT
        rw [if_neg z, w32_succ (by omega), ← nS, ← nT]
        exact ih (i + 1) _ u (by omega) hu hu0
      rw [if_pos z] at nS nT
      have bf := feE_b h i
      have bS := feS_b h k i (by omega)
      have bT := sT_b (g := g) (pl := pl) (x := k) (i := i) (by omega) hC.2.1
      have bc := hC.2.1 (pl i)
      obtain ⟨u2, b1, b2, b3⟩ := pm i hi2 d c s u (M_of hu)
      have hu2 : onQ g u2 := onQ_rf hu b3
      have hu20 : u2 89 0 = 0 := (b3 89 0 (by decide)).trans hu0
      have p0i := p0 i
      rw [if_pos z, call0 b1, push0, r237_30, call0 (show Call prog clsT X (d + 10) 152 _ _ = _ from m152 X E c s (d + 9) _ _ _), push0, r237_36, cmp_eq, bI_eq0, w32_succ (by omega)]
      by_cases z2 : 1 ≤ pl i ∧ pl i ≤ 3
      · have c1 : cM g (pl i) = g 143 (pl i - 1).toNat := if_pos z2
        have e1 : w32 (pl i - 1) = pl i - 1 := w32_of (by omega) (by omega)
        have i3 : 0 ≤ pl i - 1 ∧ pl i - 1 < ((3 : Nat) : Int) := by omega
        rw [if_pos (show 0 < pl i by omega), if_neg (fun w => w z2), e1, inb_is, if_pos i3, inb_is, if_pos i40, Int.toNat_natCast, hu2 143 _ rfl, hu2 89 68 rfl, hu2 89 69 rfl, hu2 103 i rfl, ← c1]
        have e0 : w32 (sT g pl (cM g) k i - feS g k i + w32 (w32 (cM g (pl i) - g 89 68) - w32 (g 89 69 * g 103 i))) = sT g pl (cM g) k (i + 1) - feS g k (i + 1) := by
          have ef : feE g i = g 89 68 + g 89 69 * g 103 i := rfl
          rw [nS, nT, ef]
          generalize g 89 69 * g 103 i = w at bf ef
          rw [w32_of (x := w) (by omega) (by omega), w32_of (x := cM g (pl i) - g 89 68) (by omega) (by omega), w32_of (x := cM g (pl i) - g 89 68 - w) (by omega) (by omega), w32_of (by omega) (by omega)]
          omega
        rw [e0]
        exact ih (i + 1) _ u2 (by omega) hu2 hu20
      · have hz : ¬ (1 ≤ (if 0 < pl i then pl i else -1) ∧ (if 0 < pl i then pl i else -1) ≤ 3) := fun w => by
          split at w
          · exact z2 w
          · omega
        have c1 : cM g (pl i) = 0 := if_neg z2
        rw [if_pos hz, inb_is, if_pos i40, Int.toNat_natCast, hu2 89 68 rfl, hu2 89 69 rfl, hu2 103 i rfl]
        have e0 : w32 (sT g pl (cM g) k i - feS g k i + w32 (w32 (0 - g 89 68) - w32 (g 89 69 * g 103 i))) = sT g pl (cM g) k (i + 1) - feS g k (i + 1) := by
          have ef : feE g i = g 89 68 + g 89 69 * g 103 i := rfl
          rw [nS, nT, ef, c1]
          generalize g 89 69 * g 103 i = w at bf ef
          rw [w32_of (x := w) (by omega) (by omega), w32_of (x := 0 - g 89 68) (by omega) (by omega), w32_of (x := 0 - g 89 68 - w) (by omega) (by omega), w32_of (by omega) (by omega)]
          omega
        rw [e0]
        exact ih (i + 1) _ u2 (by omega) hu2 hu20
  obtain ⟨g2, b1, b2, b3⟩ := lpM (nE g) 0 (3, 0) (up g1 89 0 0) (by omega) u0 up_at
  have b1 : Ev prog clsT X (d + 10) mc237 13 [(2, 89), (0, (k : Int)), (0, 0), (0, 0), (3, 0)] [] (mk E c s (hh (up g1 89 0 0))) = _ := b1
  refine ⟨g1, g2, b2, Or.inl ⟨T - feS g k (nE g), ?_, ?_, b3⟩⟩
  · rw [rc143_, call0 c84', push0, bI_t q, r143_4, cmp_ne, if_pos (by decide), call3 a1, push3, r143_12, inb_is, if_pos i10, Int.toNat_natCast, (a3 k hk).2.2, hT]
    exact lpC
  · rw [rc237_, call0 m154u, push0, bI_t q, r237_4, cmp_eq, if_neg (by decide)]
    exact b1
end MONEY
