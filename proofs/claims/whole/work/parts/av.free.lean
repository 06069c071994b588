/-! Part av: the pieces that are free, and those that a set names. -/
def FRp (g : Gm) (x p : Nat) : Prop := g 94 p ≠ 0 ∧ g 95 p = (x : Int) ∧ ¬ (tb (laid g) p = true)
def frN (g : Gm) (x p : Nat) : Nat := if g 94 p ≠ 0 ∧ g 95 p = (x : Int) ∧ ¬ (tb (laid g) p = true) then 1 else 0
theorem frN_1 {g : Gm} {x p : Nat} (h : FRp g x p) : frN g x p = 1 := if_pos h
theorem frN_0 {g : Gm} {x p : Nat} (h : ¬ FRp g x p) : frN g x p = 0 := if_neg h
theorem lnK_le (N : Nat → Nat) : ∀ k, lnK N k ≤ k
  | 0 => Nat.le_refl 0
  | k + 1 => by
    have ih := lnK_le N k
    rw [lnK_s]
    split <;> omega
theorem lnK_mono (N : Nat → Nat) {k : Nat} : ∀ m, lnK N k ≤ lnK N (k + m)
  | 0 => Nat.le_refl _
  | m + 1 => by
    have ih := lnK_mono N (k := k) m
    rw [← Nat.add_assoc, lnK_s]
    split <;> omega
theorem lwK_ok (N : Nat → Nat) : ∀ k q, q < lnK N k → lwK N k q < k ∧ 0 < N (lwK N k q)
  | 0, q, h => absurd h (Nat.not_lt_zero q)
  | k + 1, q, h => by
    rw [lnK_s] at h
    rw [lwK_s]
    by_cases z : 0 < N k
    · rw [if_pos z] at h ⊢
      by_cases y : q = lnK N k
      · rw [if_pos y]; exact ⟨by omega, z⟩
      · rw [if_neg y]
        have := lwK_ok N k q (by omega)
        exact ⟨by omega, this.2⟩
    · rw [if_neg z] at h ⊢
      have := lwK_ok N k q h
      exact ⟨by omega, this.2⟩
theorem laid_Q {g u : Gm} (h : onQ g u) : laid u = laid g := by
  unfold laid
  rw [nE_Q h]
  have : ∀ n, laidTo u n = laidTo g n := fun n => by
    induction n with
    | zero => rfl
    | succ n ih =>
      show lor64 (laidTo u n) (if u 104 n = 0 then u 101 n else 0) = lor64 (laidTo g n) (if g 104 n = 0 then g 101 n else 0)
      rw [ih, h 104 n rfl, h 101 n rfl]
  exact this _
section FREE
variable (X : MExt) {E : List (Nat × Nat)} {g : Gm}
/-- listFreePieces -/
theorem c145x {N : Int} (h : ST N E g) {x : Nat} (hx : x < 10) (d c s : Nat) : ∃ u', Call prog clsT X (d + 5) 145 [(2, 0), (0, (x : Int))] (mk E c s (hh g)) = some ((0, (lnK (frN g x) 40 : Int)), mk E c s (hh u')) ∧ (∀ y i, y ≠ 86 → u' y i = g y i) ∧ ∀ i, i < 10 → i < lnK (frN g x) 40 → u' 86 i = (lwK (frN g x) 40 i : Int) := by
  have e1 : ∀ p, p < 40 → (tb (land64 (ofTo g (x : Int) 40) (lxor64 (laid g) (-1))) p = true ↔ FRp g x p) := fun p hp => by
    rw [tb_and, tb_xor, tb_m1 p (by omega), tb_ofTo g (x : Int) 40 (Nat.le_refl _) p, Bool.and_eq_true, decide_eq_true_eq, Bool.xor_true]
    unfold FRp
    constructor
    · intro ⟨z1, z2⟩
      refine ⟨z1.2.1, z1.2.2, fun z => ?_⟩
      rw [z] at z2; cases z2
    · intro ⟨z1, z2, z3⟩
      exact ⟨⟨hp, z1, z2⟩, by rw [bool_f z3]; rfl⟩
  have loop : ∀ (m p : Nat) (w1 w3 : MV) (u : Gm), p + m = 40 → (∀ y i, y ≠ 86 → u y i = g y i) → (∀ i, i < 10 → i < lnK (frN g x) p → u 86 i = (lwK (frN g x) p i : Int)) → ∃ u', Ev prog clsT X (d + 4) mc145 15 [(2, 0), w1, (1, land64 (ofTo g (x : Int) 40) (lxor64 (laid g) (-1))), w3, (0, (lnK (frN g x) p : Int)), (0, (p : Int))] [] (mk E c s (hh u)) = some ((0, (lnK (frN g x) 40 : Int)), mk E c s (hh u')) ∧ (∀ y i, y ≠ 86 → u' y i = g y i) ∧ ∀ i, i < 10 → i < lnK (frN g x) 40 → u' 86 i = (lwK (frN g x) 40 i : Int) := by
    intro m
    induction m with
    | zero =>
      intro p w1 w3 u hp hu hv
      have hp : p = 40 := by omega
      subst hp
      refine ⟨u, ?_, hu, hv⟩
      rw [r145_15, cmp_ge, if_pos (by decide)]
    | succ m ih =>
      intro p w1 w3 u hp hu hv
      have hp40 : p < 40 := by omega
      have hle := lnK_le (frN g x) p
      rw [r145_15, cmp_ge, if_neg (by omega), cmp_eq, bit_at _ _ (by omega), lc0, w32_succ (i := p) (by omega)]
      by_cases z : FRp g x p
      case neg =>
        have e2 : lnK (frN g x) (p + 1) = lnK (frN g x) p := by rw [lnK_s, frN_0 z, if_neg (by decide)]
        have e3 : lwK (frN g x) (p + 1) = lwK (frN g x) p := by rw [lwK_s, frN_0 z, if_neg (by decide)]
        rw [if_pos (fun y => z ((e1 p hp40).1 y)), ← e2]
        exact ih (p + 1) _ _ u (by omega) hu (fun i h1 h2 => by rw [e3]; exact hv i h1 (by rw [← e2]; exact h2))
      have e2 : lnK (frN g x) (p + 1) = lnK (frN g x) p + 1 := by rw [lnK_s, frN_1 z, if_pos (by decide)]
      have e3 : lwK (frN g x) (p + 1) = fun q => if q = lnK (frN g x) p then p else lwK (frN g x) p q := by rw [lwK_s, frN_1 z, if_pos (by decide)]
      rw [if_neg (fun y => y ((e1 p hp40).2 z)), cmp_ge, w32_succ (i := lnK (frN g x) p) (by omega), ← e2]
      by_cases y : 10 ≤ (lnK (frN g x) p : Int)
      · rw [if_pos y]
        refine ih (p + 1) _ _ u (by omega) hu (fun i h1 h2 => ?_)
        rw [e3]
        dsimp only
        rw [if_neg (by omega)]
        exact hv i h1 (by omega)
      · have i10 : 0 ≤ (lnK (frN g x) p : Int) ∧ (lnK (frN g x) p : Int) < ((10 : Nat) : Int) := by omega
        rw [if_neg y, inb_is, if_pos i10, Int.toNat_natCast]
        refine ih (p + 1) _ _ _ (by omega) (fun y i hy => by rw [up_cell hy]; exact hu y i hy) (fun i h1 h2 => ?_)
        rw [e3, up_at]
        dsimp only
        by_cases v : i = lnK (frN g x) p
        · rw [if_pos v, if_pos v]
        · rw [if_neg v, if_neg v]
          exact hv i h1 (by omega)
  obtain ⟨u', a1, a2⟩ := loop 40 0 (0, (x : Int)) (3, 0) g (by omega) (fun _ _ _ => rfl) (fun i _ h2 => absurd h2 (Nat.not_lt_zero _))
  refine ⟨u', ?_, a2⟩
  have s85 := c85 X E c s h.1.1.2.1 (d + 3) (x : Int) (by omega)
  have s85 : Call prog clsT X (d + 4) 85 [(2, 1), (0, (x : Int))] (mk E c s (hh g)) = _ := s85
  have s18 := c18 X E c s h.1.1.1 d
  rw [show d + 5 = (d + 4) + 1 from rfl, rc145_, call1 s85, push1, r145_4, call1 s18, push1, r145_7]
  exact a1
/-- finds -/
theorem m239x {N : Int} (h : ST N E g) {x : Nat} (hx : x < 10) (d c s : Nat) {u : Gm} (hu : onQ g u) : ∃ u', onQ g u' ∧ ((10 < lnK (frN g x) 40 ∧ Call prog clsT X (d + 2) 239 [(2, 89), (0, (x : Int))] (mk E c s (hh u)) = some ((0, 0), mk E c s (hh u'))) ∨ (lnK (frN g x) 40 ≤ 10 ∧ Call prog clsT X (d + 2) 239 [(2, 89), (0, (x : Int))] (mk E c s (hh u)) = some ((0, 1), mk E c s (hh u')) ∧ u' 89 76 = (lnK (frN g x) 40 : Int) ∧ ∀ i, i < lnK (frN g x) 40 → u' 149 i = (lwK (frN g x) 40 i : Int))) := by
  have loop : ∀ (m p : Nat) (w3 : MV) (u : Gm), p + m = 40 → onQ g u → lnK (frN g x) p ≤ 10 → u 89 76 = (lnK (frN g x) p : Int) → (∀ i, i < lnK (frN g x) p → u 149 i = (lwK (frN g x) p i : Int)) → ∃ u', onQ g u' ∧ ((10 < lnK (frN g x) 40 ∧ Ev prog clsT X (d + 1) mc239 8 [(2, 89), (0, (x : Int)), (1, laid g), w3, (0, (p : Int))] [] (mk E c s (hh u)) = some ((0, 0), mk E c s (hh u'))) ∨ (lnK (frN g x) 40 ≤ 10 ∧ Ev prog clsT X (d + 1) mc239 8 [(2, 89), (0, (x : Int)), (1, laid g), w3, (0, (p : Int))] [] (mk E c s (hh u)) = some ((0, 1), mk E c s (hh u')) ∧ u' 89 76 = (lnK (frN g x) 40 : Int) ∧ ∀ i, i < lnK (frN g x) 40 → u' 149 i = (lwK (frN g x) 40 i : Int))) := by
    intro m
    induction m with
    | zero =>
      intro p w3 u hp hu h10 h76 hv
      have hp : p = 40 := by omega
      subst hp
      refine ⟨u, hu, Or.inr ⟨h10, ?_, h76, hv⟩⟩
      rw [r239_8, cmp_ge, if_pos (by decide)]
    | succ m ih =>
      intro p w3 u hp hu h10 h76 hv
      have hp40 : p < 40 := by omega
      have i40 : 0 ≤ (p : Int) ∧ (p : Int) < ((40 : Nat) : Int) := by omega
      have skip : ¬ FRp g x p → ∃ u', onQ g u' ∧ ((10 < lnK (frN g x) 40 ∧ Ev prog clsT X (d + 1) mc239 8 [(2, 89), (0, (x : Int)), (1, laid g), (3, 0), (0, ((p + 1 : Nat) : Int))] [] (mk E c s (hh u)) = some ((0, 0), mk E c s (hh u'))) ∨ (lnK (frN g x) 40 ≤ 10 ∧ Ev prog clsT X (d + 1) mc239 8 [(2, 89), (0, (x : Int)), (1, laid g), (3, 0), (0, ((p + 1 : Nat) : Int))] [] (mk E c s (hh u)) = some ((0, 1), mk E c s (hh u')) ∧ u' 89 76 = (lnK (frN g x) 40 : Int) ∧ ∀ i, i < lnK (frN g x) 40 → u' 149 i = (lwK (frN g x) 40 i : Int))) := fun z => by
        have e2 : lnK (frN g x) (p + 1) = lnK (frN g x) p := by rw [lnK_s, frN_0 z, if_neg (by decide)]
        have e3 : lwK (frN g x) (p + 1) = lwK (frN g x) p := by rw [lwK_s, frN_0 z, if_neg (by decide)]
        exact ih (p + 1) _ u (by omega) hu (by rw [e2]; exact h10) (by rw [e2]; exact h76) (fun i h2 => by rw [e3]; exact hv i (by rw [← e2]; exact h2))
      rw [r239_8, cmp_ge, if_neg (by omega), inb_is, if_pos i40, Int.toNat_natCast, cmp_eq, hu 94 p rfl, w32_succ (by omega)]
      by_cases z1 : g 94 p = 0
      · rw [if_pos z1]
        exact skip (fun v => v.1 z1)
      rw [if_neg z1, inb_is, if_pos i40, cmp_ne, hu 95 p rfl]
      by_cases z2 : g 95 p = (x : Int)
      case neg =>
        rw [if_pos z2]
        exact skip (fun v => z2 v.2.1)
      rw [if_neg (fun v => v z2), cmp_ne, bit_at _ _ (by omega), lc1]
      by_cases z3 : tb (laid g) p = true
      · rw [if_neg (fun v => v z3)]
        exact skip (fun v => v.2.2 z3)
      have z : FRp g x p := ⟨z1, z2, z3⟩
      have e2 : lnK (frN g x) (p + 1) = lnK (frN g x) p + 1 := by rw [lnK_s, frN_1 z, if_pos (by decide)]
      have e3 : lwK (frN g x) (p + 1) = fun q => if q = lnK (frN g x) p then p else lwK (frN g x) p q := by rw [lwK_s, frN_1 z, if_pos (by decide)]
      rw [if_pos z3, cmp_ne, h76]
      by_cases y : (lnK (frN g x) p : Int) = 10
      · rw [if_neg (fun v => v y)]
        have hm := lnK_mono (frN g x) (k := p + 1) m
        rw [show p + 1 + m = 40 by omega] at hm
        exact ⟨u, hu, Or.inl ⟨by omega, rfl⟩⟩
      · have i10 : 0 ≤ (lnK (frN g x) p : Int) ∧ (lnK (frN g x) p : Int) < ((10 : Nat) : Int) := by omega
        rw [if_pos y, inb_is, if_pos i10, Int.toNat_natCast, w32_succ (by omega)]
        refine ih (p + 1) _ _ (by omega) (onQ_up (onQ_up hu rfl) rfl) (by omega) (by rw [up_same, e2]) (fun i h2 => ?_)
        rw [e3, up_cell (by decide), up_at]
        dsimp only
        by_cases v : i = lnK (frN g x) p
        · rw [if_pos v, if_pos v]
        · rw [if_neg v, if_neg v]
          exact hv i (by omega)
  have s155 := m155 X E c s (RN_Q h hu) d
  rw [laid_Q hu] at s155
  obtain ⟨u', a1, a2⟩ := loop 40 0 (3, 0) (up u 89 76 0) (by omega) (onQ_up hu rfl) (Nat.zero_le _) (by rw [up_same]; rfl) (fun i h2 => absurd h2 (Nat.not_lt_zero _))
  refine ⟨u', a1, ?_⟩
  have e : Call prog clsT X (d + 2) 239 [(2, 89), (0, (x : Int))] (mk E c s (hh u)) = Ev prog clsT X (d + 1) mc239 8 [(2, 89), (0, (x : Int)), (1, laid g), (3, 0), (0, 0)] [] (mk E c s (hh (up u 89 76 0))) := by
    rw [show d + 2 = (d + 1) + 1 from rfl, rc239_, call1 s155, push1, r239_2]
  rw [e]
  exact a2
/-- bitsOf -/
theorem c148x {fp : Nat → Nat} {n S : Nat} (hn : n ≤ 10) (hS : S < 2 ^ n) (d c s : Nat) {u : Gm} (hf : ∀ i, i < n → u 86 i = (fp i : Int)) : Call prog clsT X (d + 1) 148 [(2, 0), (0, (S : Int))] (mk E c s (hh u)) = some ((1, pB fp S n), mk E c s (hh u)) := by
  have loop : ∀ (m i : Nat) (w3 : MV), i + m = 10 → Ev prog clsT X d mc148 4 [(2, 0), (0, (S : Int)), (1, pB fp S i), w3, (0, (i : Int))] [] (mk E c s (hh u)) = some ((1, pB fp S 10), mk E c s (hh u)) := by
    intro m
    induction m with
    | zero =>
      intro i w3 hi
      have hi : i = 10 := by omega
      subst hi
      rw [r148_4, cmp_ge, if_pos (by decide)]
    | succ m ih =>
      intro i w3 hi
      have i10 : 0 ≤ (i : Int) ∧ (i : Int) < ((10 : Nat) : Int) := by omega
      rw [r148_4, cmp_ge, if_neg (by omega), cmp_eq, bit3_at _ _ (by omega), tb3_nat S (by omega), bI_eq0, w32_succ (by omega)]
      by_cases z : S.testBit i = true
      · have hin : i < n := by
          by_cases y : i < n
          · exact y
          · have := bit_far hS (i - n)
            rw [show n + (i - n) = i by omega, z] at this
            cases this
        rw [if_neg (fun y => y z), inb_is, if_pos i10, Int.toNat_natCast, hf i hin]
        have e : pB fp S (i + 1) = lor64 (pB fp S i) (lshl64 1 (fp i : Int)) := by rw [pB_s, if_pos z]
        rw [← e]
        exact ih (i + 1) _ (by omega)
      · have e : pB fp S (i + 1) = pB fp S i := by rw [pB_s, if_neg z]
        rw [if_pos z, lor_0 (pB_in fp S i), ← e]
        exact ih (i + 1) _ (by omega)
  rw [rc148_]
  have := loop 10 0 (3, 0) (by omega)
  rw [pB_more hS (fun _ _ => rfl) 10 hn] at this
  exact this
/-- piecesBy -/
theorem m241x {fp : Nat → Nat} {n S : Nat} (hn : n ≤ 10) (d c s : Nat) {u : Gm} (h76 : u 89 76 = (n : Int)) (hf : ∀ i, i < n → u 149 i = (fp i : Int)) : Call prog clsT X (d + 1) 241 [(2, 89), (0, (S : Int))] (mk E c s (hh u)) = some ((1, pB fp S n), mk E c s (hh u)) := by
  have loop : ∀ (m i : Nat) (w3 : MV), i + m = n → Ev prog clsT X d mc241 4 [(2, 89), (0, (S : Int)), (1, pB fp S i), w3, (0, (i : Int))] [] (mk E c s (hh u)) = some ((1, pB fp S n), mk E c s (hh u)) := by
    intro m
    induction m with
    | zero =>
      intro i w3 hi
      have hi : i = n := by omega
      rw [r241_4, h76, cmp_ge, if_pos (by omega), hi]
    | succ m ih =>
      intro i w3 hi
      have i10 : 0 ≤ (i : Int) ∧ (i : Int) < ((10 : Nat) : Int) := by omega
      rw [r241_4, h76, cmp_ge, if_neg (by omega), cmp_ne, bit3_at _ _ (by omega), tb3_nat S (by omega), w32_succ (by omega)]
      by_cases z : S.testBit i = true
      · have e : pB fp S (i + 1) = lor64 (pB fp S i) (lshl64 1 (fp i : Int)) := by rw [pB_s, if_pos z]
        rw [bI_t z, if_neg (fun y => y rfl), inb_is, if_pos i10, Int.toNat_natCast, hf i (by omega), ← e]
        exact ih (i + 1) _ (by omega)
      · have e : pB fp S (i + 1) = pB fp S i := by rw [pB_s, if_neg z]
        rw [bI_f z, if_pos (by decide), lor_0 (pB_in fp S i), ← e]
        exact ih (i + 1) _ (by omega)
  rw [rc241_]
  exact loop n 0 (3, 0) (by omega)
end FREE
