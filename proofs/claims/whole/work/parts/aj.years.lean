/-! Part aj: the facts of a class for the plan, the worth of a line of the plan. -/
theorem cellR {g u : Gm} (hu : sameR g u) {x : Nat} (hx : (11 ≤ x ∧ x ≤ 26) ∨ 159 ≤ x) (i : Nat) : u x i = g x i := hu x i (by
  rcases hx with q | q
  · have : x = 11 ∨ x = 12 ∨ x = 13 ∨ x = 14 ∨ x = 15 ∨ x = 16 ∨ x = 17 ∨ x = 18 ∨ x = 19 ∨ x = 20 ∨ x = 21 ∨ x = 22 ∨ x = 23 ∨ x = 24 ∨ x = 25 ∨ x = 26 := by omega
    rcases this with z | z | z | z | z | z | z | z | z | z | z | z | z | z | z | z <;> subst z <;> rfl
  · unfold sRX; rw [decide_eq_true q]; rfl)
theorem cst_congr8 {row row' : Nat → Int} {st : List Int} {o : Int} (hv : vof true o) (h : ∀ f, f < 8 → row f = row' f) : cst row st o = cst row' st o := by
  have h1 := hv.1
  have h2 := hv.2 rfl
  unfold vop at h1
  unfold cst
  by_cases q : o < 20000
  · rw [if_pos q, if_pos q]
    by_cases q2 : st.length < 32
    · rw [if_pos q2, if_pos q2]
      by_cases q3 : o < 10000
      · rw [if_pos q3, if_pos q3]
      · rw [if_neg q3, if_neg q3, h (o - 10000).toNat (by omega)]
    · rw [if_neg q2, if_neg q2]
  · rw [if_neg q, if_neg q]
theorem crun_congr8 {row row' : Nat → Int} (h : ∀ f, f < 8 → row f = row' f) : ∀ (P : List Int) (st : List Int), (∀ x, x ∈ P → vof true x) → crun row st P = crun row' st P
  | [], _, _ => rfl
  | o :: P, st, hv => by
    show crun row (cst row st o) P = crun row' (cst row' st o) P
    rw [cst_congr8 (hv o List.mem_cons_self) h]
    exact crun_congr8 h P _ (fun x hx => hv x (List.mem_cons_of_mem _ hx))
section PVAL
variable (X : MExt)
/-- a line of the plan -/
theorem val_eq2 {r k : Nat} {E : List (Nat × Nat)} {g : Gm} (h : RG 2 E r k g) (hk : k ≤ 11) {j : Nat} (hj : j < 3) {row : Nat → Int} (hrow : rowOK row) : ∃ v, in32 v ∧ (∀ d c s u, sameR g u → (∀ f, f < 8 → u 28 f = row f) → ∃ u', Call prog clsT X (d + 3) 74 [(2, 27), (2, (r : Int)), (0, ((8 + j : Nat) : Int))] (mk E c s (hh u)) = some ((0, v), mk E c s (hh u')) ∧ off29 u u') ∧ ((g 110 (9 * k + j) = 0 ∧ v = 0) ∨ (g 110 (9 * k + j) = 1 ∧ ∀ t c s w, sameR g w → (∀ f, f < 8 → w 126 (f + 1) = row f) → ∃ w', Call prog clsT X (t + 4) 194 [(2, 89), (0, ((9 * k + j : Nat) : Int))] (mk E c s (hh w)) = some ((0, v), mk E c s (hh w')) ∧ offR w w')) := by
  have hl := RG_lt h
  have hne : ¬ (r ≤ 29 ∧ 29 ≤ r + 4) := by omega
  have hj9 : j < 9 := by omega
  obtain ⟨cap, a1, a2, a3, a4, a5, a6, a7, a8, a9, a10, a11, a12, a13⟩ := h
  have cellC : ∀ u, sameR g u → ∀ x i, r ≤ x → x ≤ r + 4 → u x i = g x i := fun u hu x i h1 h2 => cellR hu (by omega) i
  have rp : ∀ u, sameR g u → RP u r := fun u hu => by
    unfold RP at a3 ⊢
    rw [cellC u hu _ _ (by omega) (by omega), cellC u hu _ _ (by omega) (by omega), cellC u hu _ _ (by omega) (by omega), cellC u hu _ _ (by omega) (by omega)]
    exact a3
  have a13j : lnR true g r cap k (8 + j) (9 * k + j) := a13 j hj
  rcases a13j with q | ⟨q, a, b, u0, v0, d1, d2, d3, d4, d5, d6, d7, d8, d9, d10⟩
  · refine ⟨0, in32_0, fun d c s u hu hr => ⟨u, ?_, fun _ _ _ => rfl⟩, Or.inl ⟨q.2, rfl⟩⟩
    exact c74n X E c s a1 (rp u hu) d (8 + j) (by omega) (by rw [cellC u hu _ _ (by omega) (by omega)]; exact q.1)
  · obtain ⟨vp, hs⟩ := d10
    obtain ⟨v, hv, h1, h2⟩ := hs row hrow
    refine ⟨v, hv, fun d c s u hu hr => ?_, Or.inr ⟨q, fun t c s w hw hf => ?_⟩⟩
    · have es : seg (u (r + 4)) a (b - a) = seg (g (r + 4)) a (b - a) := seg_congr _ _ (fun i _ _ => cellC u hu _ _ (by omega) (by omega))
      obtain ⟨u', k1, k2⟩ := c74v X E c s a1 (rp u hu) a2 hne d (8 + j) (by omega) (a := a) (b := b) (by rw [cellC u hu _ _ (by omega) (by omega)]; exact d1) (by rw [cellC u hu _ _ (by omega) (by omega)]; exact d2) d3 d4 (by rw [es]; exact fun x hx => (vp x hx).1)
      refine ⟨u', ?_, k2⟩
      rw [k1, es, crun_congr8 (row' := row) hr _ _ vp, h1 [] (by decide)]
      rfl
    · have es : seg (w 114) u0 (v0 - u0) = seg (g 114) u0 (v0 - u0) := seg_congr _ _ (fun i _ _ => hw 114 i rfl)
      have ho := opn_v w 0
      have hfo : fitp true row (opn w 0) := fun f hl h8 => by
        rw [offR_opn (g := w) (fun x i _ => rfl) 126 (f + 1) (by omega)]; exact hf f (h8 rfl)
      obtain ⟨g1, k1, k2, k3, k4⟩ := h2 (opn w 0) hfo (Or.inl rfl) ⟨ho.2.2.1, ho.2.2.2.1, ho.2.2.2.2.1⟩ ho.2.1 ho.1
      obtain ⟨w', m1, m2⟩ := m194 X E c s (g := w) t (9 * k + j) u0 v0 (by omega) (by rw [hw 112 _ rfl]; exact d5) (by rw [hw 113 _ rfl]; exact d6) d8 (by omega) (by rw [es]; exact k4)
      refine ⟨w', ?_, m2⟩
      rw [m1, es, k1]
      show some (((0 : Nat), tv2 g1 0), _) = _
      rw [k3]
end PVAL
/-- years told, their sum, the least -/
def yrT (g : Gm) (k : Nat) : Nat → Int := sm (fun j => bI (0 ≤ g 152 (5 * k + j)))
def yrS (g : Gm) (k : Nat) : Nat → Int := sm (fun j => if g 152 (5 * k + j) < 0 then 0 else g 152 (5 * k + j))
def yrL (g : Gm) (k : Nat) : Nat → Int := fo (fun j a => if g 152 (5 * k + j) = -1 then a else if a = -1 then g 152 (5 * k + j) else if a ≤ g 152 (5 * k + j) then a else g 152 (5 * k + j)) (-1)
theorem yr_n {g : Gm} {k : Nat} (hy : ∀ j, j < 5 → -1 ≤ g 152 (5 * k + j) ∧ g 152 (5 * k + j) ≤ 99) : ∀ n, n ≤ 5 → (0 ≤ yrT g k n ∧ yrT g k n ≤ n) ∧ (0 ≤ yrS g k n ∧ yrS g k n ≤ 99 * n) ∧ (0 ≤ mostG g k n ∧ mostG g k n ≤ 99) ∧ (-1 ≤ yrL g k n ∧ yrL g k n ≤ 99) ∧ ((yrT g k n = 0 ∧ mostG g k n = 0 ∧ yrL g k n = -1) ∨ (0 < yrT g k n ∧ 0 ≤ yrL g k n)) := by
  intro n
  induction n with
  | zero => intro _; exact ⟨⟨Int.le_refl _, Int.le_refl _⟩, ⟨Int.le_refl _, Int.le_refl _⟩, ⟨Int.le_refl _, (by decide : (0 : Int) ≤ 99)⟩, ⟨Int.le_refl _, (by decide : (-1 : Int) ≤ 99)⟩, Or.inl ⟨rfl, rfl, rfl⟩⟩
  | succ n ih =>
    intro hn
    obtain ⟨i1, i2, i3, i4, i5⟩ := ih (by omega)
    have b := hy n (by omega)
    have eT : yrT g k (n + 1) = yrT g k n + bI (0 ≤ g 152 (5 * k + n)) := rfl
    have eS : yrS g k (n + 1) = yrS g k n + if g 152 (5 * k + n) < 0 then 0 else g 152 (5 * k + n) := rfl
    have eM : mostG g k (n + 1) = if mostG g k n < g 152 (5 * k + n) then g 152 (5 * k + n) else mostG g k n := rfl
    have eL : yrL g k (n + 1) = if g 152 (5 * k + n) = -1 then yrL g k n else if yrL g k n = -1 then g 152 (5 * k + n) else if yrL g k n ≤ g 152 (5 * k + n) then yrL g k n else g 152 (5 * k + n) := rfl
    rw [eT, eS, eM, eL]
    push_cast
    by_cases z : g 152 (5 * k + n) = -1
    · rw [bI_f (by omega), if_pos (show g 152 (5 * k + n) < 0 by omega), if_neg (show ¬ mostG g k n < g 152 (5 * k + n) by omega), if_pos z]
      refine ⟨by omega, by omega, i3, i4, ?_⟩
      rcases i5 with q | q
      · exact Or.inl ⟨by omega, q.2⟩
      · exact Or.inr ⟨by omega, q.2⟩
    · have eM2 : 0 ≤ (if mostG g k n < g 152 (5 * k + n) then g 152 (5 * k + n) else mostG g k n) ∧ (if mostG g k n < g 152 (5 * k + n) then g 152 (5 * k + n) else mostG g k n) ≤ 99 := by
        split <;> omega
      have eL2 : 0 ≤ (if yrL g k n = -1 then g 152 (5 * k + n) else if yrL g k n ≤ g 152 (5 * k + n) then yrL g k n else g 152 (5 * k + n)) ∧ (if yrL g k n = -1 then g 152 (5 * k + n) else if yrL g k n ≤ g 152 (5 * k + n) then yrL g k n else g 152 (5 * k + n)) ≤ 99 := by
        split
        · omega
        · split <;> omega
      rw [bI_t (by omega), if_neg (show ¬ g 152 (5 * k + n) < 0 by omega), if_neg z]
      exact ⟨by omega, by omega, eM2, ⟨by omega, eL2.2⟩, Or.inr ⟨by omega, eL2.1⟩⟩
def yrA (g : Gm) (k : Nat) : Int := if 0 < yrT g k 5 then tdv (yrS g k 5) (yrT g k 5) else 0
/-- the facts -/
def plRow (g : Gm) (k f : Nat) : Int := [stIn g (k : Int), (if g 152 (5 * k) < 0 then 0 else g 152 (5 * k)), mostG g k 5, (if yrL g k 5 < 0 then 0 else yrL g k 5), yrA g k, yrT g k 5, g 108 k, g 107 k].getD f 0
section YEARS
variable (X : MExt) {E : List (Nat × Nat)} {g : Gm}
theorem f8 {f : Nat} (h : f < 8) : f = 0 ∨ f = 1 ∨ f = 2 ∨ f = 3 ∨ f = 4 ∨ f = 5 ∨ f = 6 ∨ f = 7 := by omega
theorem yr_b {N : Int} (h : ST N E g) {k : Nat} (hk : k < 10) : ∀ j, j < 5 → -1 ≤ g 152 (5 * k + j) ∧ g 152 (5 * k + j) ≤ 99 := fun j hj => h.1.1.2.2.2.1.2.2.2.2.2.2.2 (5 * k + j) (by omega)
theorem yr_e {k j : Nat} (hk : k < 10) (hj : j < 5) : w32 (w32 ((k : Int) * 5) + (j : Int)) = ((5 * k + j : Nat) : Int) := by
  rw [w32_of (x := (k : Int) * 5) (by omega) (by omega), w32_of (by omega) (by omega)]; omega
/-- Hall.yearsTold -/
theorem c30 {N : Int} (h : ST N E g) (c s d : Nat) {k : Nat} (hk : k < 10) {u : Gm} (hu : onQ g u) : Call prog clsT X (d + 1) 30 [(2, 40), (0, (k : Int))] (mk E c s (hh u)) = some ((0, yrT g k 5), mk E c s (hh u)) := by
  have e44 : ∀ i : Nat, g 44 i = g 152 i := h.1.1.2.2.2.1.2.2.2.2.2.2.1
  have loop : ∀ (m i : Nat), i + m = 5 → Ev prog clsT X d mc30 4 [(2, 40), (0, (k : Int)), (0, yrT g k i), (0, (i : Int))] [] (mk E c s (hh u)) = some ((0, yrT g k 5), mk E c s (hh u)) := by
    intro m
    induction m with
    | zero =>
      intro i hi
      have hi : i = 5 := by omega
      subst hi
      rw [r30_4, cmp_ge, if_pos (by decide)]
    | succ m ih =>
      intro i hi
      have b := yr_b h hk i (by omega)
      have st : ∀ v, v = bI (0 ≤ g 152 (5 * k + i)) → w32 (yrT g k i + v) = yrT g k (i + 1) := fun v hv => sm_step (f := fun j => bI (0 ≤ g 152 (5 * k + j))) 1 hv (fun j _ => bI_b _) (by omega) (by omega)
      rw [r30_4, cmp_ge, if_neg (by omega), yr_e hk (by omega), inb_is, if_pos (by omega), Int.toNat_natCast, hu 44 _ rfl, e44, cmp_eq, w32_succ (by omega)]
      by_cases z : g 152 (5 * k + i) = -1
      · rw [if_pos z, st 0 (bI_f (by omega)).symm]
        exact ih (i + 1) (by omega)
      · rw [if_neg z, st 1 (bI_t (by omega)).symm]
        exact ih (i + 1) (by omega)
  rw [rc30_]
  exact loop 5 0 (by omega)
/-- Hall.sumOf -/
theorem c32 {N : Int} (h : ST N E g) (c s d : Nat) {k : Nat} (hk : k < 10) {u : Gm} (hu : onQ g u) : Call prog clsT X (d + 1) 32 [(2, 40), (0, (k : Int))] (mk E c s (hh u)) = some ((0, yrS g k 5), mk E c s (hh u)) := by
  have e44 : ∀ i : Nat, g 44 i = g 152 i := h.1.1.2.2.2.1.2.2.2.2.2.2.1
  have loop : ∀ (m i : Nat), i + m = 5 → Ev prog clsT X d mc32 4 [(2, 40), (0, (k : Int)), (0, yrS g k i), (0, (i : Int))] [] (mk E c s (hh u)) = some ((0, yrS g k 5), mk E c s (hh u)) := by
    intro m
    induction m with
    | zero =>
      intro i hi
      have hi : i = 5 := by omega
      subst hi
      rw [r32_4, cmp_ge, if_pos (by decide)]
    | succ m ih =>
      intro i hi
      have bb : ∀ j, j < 5 → 0 ≤ (if g 152 (5 * k + j) < 0 then 0 else g 152 (5 * k + j)) ∧ (if g 152 (5 * k + j) < 0 then 0 else g 152 (5 * k + j)) ≤ 99 := fun j hj => by
        have b := yr_b h hk j hj
        split <;> omega
      have st : w32 (yrS g k i + if g 152 (5 * k + i) < 0 then 0 else g 152 (5 * k + i)) = yrS g k (i + 1) := sm_step (f := fun j => if g 152 (5 * k + j) < 0 then 0 else g 152 (5 * k + j)) 99 rfl (fun j hj => bb j (by omega)) (by omega) (by omega)
      rw [r32_4, cmp_ge, if_neg (by omega), yr_e hk (by omega), inb_is, if_pos (by omega), Int.toNat_natCast, hu 44 _ rfl, e44, w32_succ (by omega), st]
      exact ih (i + 1) (by omega)
  rw [rc32_]
  exact loop 5 0 (by omega)
/-- Hall.leastIn -/
theorem c31 {N : Int} (h : ST N E g) (c s d : Nat) {k : Nat} (hk : k < 10) {u : Gm} (hu : onQ g u) : Call prog clsT X (d + 1) 31 [(2, 40), (0, (k : Int))] (mk E c s (hh u)) = some ((0, if yrL g k 5 < 0 then 0 else yrL g k 5), mk E c s (hh u)) := by
  have e44 : ∀ i : Nat, g 44 i = g 152 i := h.1.1.2.2.2.1.2.2.2.2.2.2.1
  have loop : ∀ (m i : Nat) (w : MV), i + m = 5 → Ev prog clsT X d mc31 4 [(2, 40), (0, (k : Int)), (0, yrL g k i), (0, (i : Int)), w] [] (mk E c s (hh u)) = some ((0, if yrL g k 5 < 0 then 0 else yrL g k 5), mk E c s (hh u)) := by
    intro m
    induction m with
    | zero =>
      intro i w hi
      have hi : i = 5 := by omega
      subst hi
      rw [r31_4, cmp_ge, if_pos (by decide)]
    | succ m ih =>
      intro i w hi
      have eL : yrL g k (i + 1) = if g 152 (5 * k + i) = -1 then yrL g k i else if yrL g k i = -1 then g 152 (5 * k + i) else if yrL g k i ≤ g 152 (5 * k + i) then yrL g k i else g 152 (5 * k + i) := rfl
      have nx : ∀ (v : Int) (w : MV), v = yrL g k (i + 1) → Ev prog clsT X d mc31 4 [(2, 40), (0, (k : Int)), (0, v), (0, ((i + 1 : Nat) : Int)), w] [] (mk E c s (hh u)) = some ((0, if yrL g k 5 < 0 then 0 else yrL g k 5), mk E c s (hh u)) := fun v w hv => by
        rw [hv]; exact ih (i + 1) w (by omega)
      rw [r31_4, cmp_ge, if_neg (by omega), yr_e hk (by omega), inb_is, if_pos (by omega), Int.toNat_natCast, hu 44 _ rfl, e44, cmp_eq, w32_succ (by omega)]
      by_cases z : g 152 (5 * k + i) = -1
      · rw [if_pos z]
        exact nx _ _ (by rw [eL, if_pos z])
      rw [if_neg z, cmp_eq]
      by_cases z2 : yrL g k i = -1
      · rw [if_pos z2]
        exact nx _ _ (by rw [eL, if_neg z, if_pos z2])
      rw [if_neg z2, cmp_ge]
      by_cases z3 : yrL g k i ≤ g 152 (5 * k + i)
      · rw [if_pos z3]
        exact nx _ _ (by rw [eL, if_neg z, if_neg z2, if_pos z3])
      · rw [if_neg z3]
        exact nx _ _ (by rw [eL, if_neg z, if_neg z2, if_neg z3])
  rw [rc31_]
  exact loop 5 0 (3, 0) (by omega)
end YEARS
