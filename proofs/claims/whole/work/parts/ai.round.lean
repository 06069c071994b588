/-! Part ai: the round, on both sides. -/
section ROUND
variable (X : MExt) {E : List (Nat × Nat)} {g : Gm}
theorem m222 {N : Int} (h : ST N E g) (x : Int) (c s d : Nat) {u : Gm} (hu : onQ g u) : ∃ u', onQ g u' ∧ Call prog clsT X (d + 13) 222 [(2, 89), (0, x)] (mk E c s (hh u)) = some ((0, rdV g x), mk E c s (hh u')) := by
  have hcap : 1 ≤ g 89 61 ∧ g 89 61 ≤ 10 := h.1.1.2.2.1.2.2.2.2.2.2.2.2.2
  have u0 := onQ_0 hu 0
  by_cases q : 0 ≤ x ∧ x ≤ 10
  case neg =>
    refine ⟨_, u0, ?_⟩
    unfold rdV
    rw [if_neg q, rc222_, call0 (show Call prog clsT X (d + 12) 152 _ _ = _ from m152 X E c s (d + 11) _ _ _), push0, bI_f q, r222_7, cmp_ne, if_neg (by decide)]
  have fin : ∀ (w3 : MV) (u2 : Gm), onQ g u2 → (∀ i : Nat, i < 10 → u2 141 i = chB (fun j => g 127 j ≠ 0 ∧ kinP g (j : Int) (i : Int)) 4) → (∀ t, t < 4 → u2 138 t = 0) → ∃ u', onQ g u' ∧ Ev prog clsT X (d + 12) mc222 53 [(2, 89), (0, x), (0, 4), w3] [] (mk E c s (hh u2)) = some ((0, rdV g x), mk E c s (hh u')) := by
    intro w3 u2 f1 f2 f3
    have f4 := onQ_up (x := 89) (i := 60) (v := -1) f1 rfl
    have ne : ∀ x i, x ≠ 89 → up u2 89 60 (-1) x i = u2 x i := fun x i hx => up_cell hx
    obtain ⟨u', a1, a2, a3, a4, _, _⟩ := m223 X h c s 10 (d + 12) 0 rdZ rdZ rdZ 0 rdZ (up u2 89 60 (-1)) (-1, rdZ) (by omega) (by omega) f4 (fun i hi => by rw [ne 141 i (by decide)]; exact f2 i hi) (fun t ht => by rw [ne 138 t (by decide)]; exact f3 t ht) (fun j _ h => absurd rfl h) (rdI_0 hcap) (fun i hi => absurd hi (Nat.not_lt_zero _)) (by rw [up_at, if_pos rfl]) (fun z => absurd z (show ¬ (0 : Int) ≤ -1 by decide))
    have a3 : u' 89 60 = (rdBs g).1 := a3
    have a4 : 0 ≤ (rdBs g).1 → ∀ i, i < 10 → u' 137 i = (rdBs g).2 i := a4
    refine ⟨u', fun x i hs => (a1 x i (fun z => by rw [z] at hs; cases hs) (fun z => by rw [z] at hs; cases hs) (fun z => by rw [z] at hs; cases hs) (fun z => by rw [z] at hs; cases hs) (fun z => by rw [z] at hs; cases hs) (fun z => by rw [z.1, z.2] at hs; exact absurd hs (by decide))).trans (f4 x i hs), ?_⟩
    unfold rdV
    rw [if_pos q, r222_53, cmp_ge, if_pos (by decide), call3 (show Call prog clsT X (d + 12) 223 [(2, 89), (0, 0)] _ = _ from a2), push3, r222_69, cmp_eq, a3, cmp_ge]
    by_cases z : x = 0
    · rw [if_pos z, if_pos z]
    · rw [if_neg z, if_neg z]
      by_cases z2 : 0 ≤ (rdBs g).1
      · rw [if_pos z2, if_pos z2, w32_of (x := x - 1) (by omega) (by omega), inb_is, if_pos (by omega), a4 z2 _ (by omega)]
      · rw [if_neg z2, if_neg z2]
  have lp2 : ∀ (m i : Nat) (w3 : MV) (u2 : Gm), i + m = 4 → onQ g u2 → (∀ i : Nat, i < 10 → u2 141 i = chB (fun j => g 127 j ≠ 0 ∧ kinP g (j : Int) (i : Int)) 4) → (∀ t, t < i → u2 138 t = 0) → ∃ u', onQ g u' ∧ Ev prog clsT X (d + 12) mc222 53 [(2, 89), (0, x), (0, (i : Int)), w3] [] (mk E c s (hh u2)) = some ((0, rdV g x), mk E c s (hh u')) := by
    intro m
    induction m with
    | zero =>
      intro i w3 u2 hi f1 f2 f3
      have hi : i = 4 := by omega
      subst hi
      exact fin w3 u2 f1 f2 f3
    | succ m ih =>
      intro i w3 u2 hi f1 f2 f3
      have i4 : 0 ≤ (i : Int) ∧ (i : Int) < ((4 : Nat) : Int) := by omega
      rw [r222_53, cmp_ge, if_neg (by omega), inb_is, if_pos i4, Int.toNat_natCast, w32_succ (by omega)]
      exact ih (i + 1) _ _ (by omega) (onQ_up f1 rfl) (fun j hj => by rw [up_cell (by decide)]; exact f2 j hj) (fun t ht => by
        rw [up_at]
        by_cases z : t = i
        · rw [if_pos z]
        · rw [if_neg z]; exact f3 t (by omega))
  have lp1 : ∀ (m i : Nat) (w3 : MV) (u2 : Gm), i + m = 10 → onQ g u2 → (∀ k : Nat, k < i → u2 141 k = chB (fun j => g 127 j ≠ 0 ∧ kinP g (j : Int) (k : Int)) 4) → ∃ u', onQ g u' ∧ Ev prog clsT X (d + 12) mc222 12 [(2, 89), (0, x), (0, (i : Int)), w3] [] (mk E c s (hh u2)) = some ((0, rdV g x), mk E c s (hh u')) := by
    intro m
    induction m with
    | zero =>
      intro i w3 u2 hi f1 f2
      have hi : i = 10 := by omega
      subst hi
      rw [r222_12, cmp_ge, if_pos (by decide)]
      exact lp2 4 0 _ u2 (by omega) f1 f2 (fun t ht => absurd ht (Nat.not_lt_zero _))
    | succ m ih =>
      intro i w3 u2 hi f1 f2
      have i10 : 0 ≤ (i : Int) ∧ (i : Int) < ((10 : Nat) : Int) := by omega
      have inn : ∀ (m2 j : Nat) (u3 : Gm), j + m2 = 4 → onQ g u3 → (∀ k : Nat, k < i → u3 141 k = chB (fun j => g 127 j ≠ 0 ∧ kinP g (j : Int) (k : Int)) 4) → u3 141 i = chB (fun j => g 127 j ≠ 0 ∧ kinP g (j : Int) (i : Int)) j → ∃ u', onQ g u' ∧ Ev prog clsT X (d + 12) mc222 22 [(2, 89), (0, x), (0, (i : Int)), (0, (j : Int))] [] (mk E c s (hh u3)) = some ((0, rdV g x), mk E c s (hh u')) := by
        intro m2
        induction m2 with
        | zero =>
          intro j u3 hj k1 k2 k3
          have hj : j = 4 := by omega
          subst hj
          rw [r222_22, cmp_ge, if_pos (by decide), w32_succ (by omega)]
          exact ih (i + 1) _ u3 (by omega) k1 (fun k hk => by
            by_cases z : k = i
            · rw [z]; exact k3
            · exact k2 k (by omega))
        | succ m2 ih2 =>
          intro j u3 hj k1 k2 k3
          have i4 : 0 ≤ (j : Int) ∧ (j : Int) < ((4 : Nat) : Int) := by omega
          have e : chB (fun j => g 127 j ≠ 0 ∧ kinP g (j : Int) (i : Int)) (j + 1) = ior32 (chB (fun j => g 127 j ≠ 0 ∧ kinP g (j : Int) (i : Int)) j) (if g 127 j ≠ 0 ∧ kinP g (j : Int) (i : Int) then ishl32 1 (j : Int) else 0) := rfl
          have nx : ∀ v : Int, v = (if g 127 j ≠ 0 ∧ kinP g (j : Int) (i : Int) then ishl32 1 (j : Int) else 0) → ∃ u', onQ g u' ∧ Ev prog clsT X (d + 12) mc222 22 [(2, 89), (0, x), (0, (i : Int)), (0, ((j + 1 : Nat) : Int))] [] (mk E c s (hh (up u3 141 i (ior32 (u3 141 i) v)))) = some ((0, rdV g x), mk E c s (hh u')) := fun v hv => ih2 (j + 1) _ (by omega) (onQ_up k1 rfl) (fun k hk => by rw [up_at, if_neg (by omega)]; exact k2 k hk) (by rw [up_at, if_pos rfl, k3, e, hv])
          rw [r222_22, cmp_ge, if_neg (by omega), inb_is, if_pos i10, inb_is, if_pos i4, cmp_eq, Int.toNat_natCast, Int.toNat_natCast, k1 127 j rfl, w32_succ (by omega)]
          by_cases z : g 127 j = 0
          · rw [if_pos z, inb_is, if_pos i10]
            exact nx 0 (by rw [if_neg (fun w => w.1 z)])
          have hst := ST_Q h k1
          have hq := kinP_Q k1 (j : Int) (i : Int)
          rw [if_neg z, call0 (show Call prog clsT X (d + 12) 204 [(2, 89), (0, (j : Int)), (0, (i : Int))] (mk E c s (hh u3)) = _ from m204 X E c s hst.1.1.1 (d + 11) (j : Int) (i : Int) ⟨by omega, by omega⟩), push0, r222_39, cmp_eq, bI_eq0, inb_is, if_pos i10, inb_is, if_pos i10, w32_succ (by omega)]
          by_cases z2 : kinP g (j : Int) (i : Int)
          · rw [if_neg (fun w => w (hq.mpr z2)), Int.toNat_natCast]
            exact nx _ (by rw [if_pos ⟨z, z2⟩])
          · rw [if_pos (fun w => z2 (hq.mp w)), Int.toNat_natCast]
            exact nx 0 (by rw [if_neg (fun w => z2 w.2)])
      rw [r222_12, cmp_ge, if_neg (by omega), inb_is, if_pos i10, Int.toNat_natCast]
      exact inn 4 0 _ (by omega) (onQ_up f1 rfl) (fun k hk => by rw [up_at, if_neg (by omega)]; exact f2 k hk) (by rw [up_at, if_pos rfl]; rfl)
  rw [rc222_, call0 (show Call prog clsT X (d + 12) 152 _ _ = _ from m152 X E c s (d + 11) _ _ _), push0, bI_t q, r222_7, cmp_ne, if_pos (by decide)]
  exact lp1 10 0 _ _ (by omega) u0 (fun j hj => absurd hj (Nat.not_lt_zero _))
theorem op_round (x : Int) : OpV X 118 222 24 [(0, x)] := by
  intro N E c s d g h
  obtain ⟨g1, a1, a2⟩ := c118 X h x c s d
  obtain ⟨g2, b1, b2⟩ := m222 X h x c s (d + 11) a1
  exact ⟨rdV g x, g1, g2, b1, a2, b2⟩
end ROUND
