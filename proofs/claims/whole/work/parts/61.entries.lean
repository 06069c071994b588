/-! Part 61: entries (class and reference). -/
/-- how many entries there are; an entry lies in the reference's cells -/
def nE (g : Nat → Nat → Int) : Nat := (g 89 10).toNat
/-- the class's entries are the reference's -/
def RE (g : Nat → Nat → Int) : Prop := g 30 0 = g 89 10 ∧ 0 ≤ g 89 10 ∧ g 89 10 ≤ 40 ∧ in64 (g 30 1) ∧ (∀ e : Nat, e < 64 → tb (g 30 1) e = decide (e < nE g ∧ g 104 e = 0)) ∧ (∀ e, g 31 e = g 99 e) ∧ (∀ e, g 32 e = g 100 e) ∧ (∀ e, g 33 e = g 101 e) ∧ (∀ e, g 34 e = g 102 e) ∧ (∀ e, g 35 e = g 103 e) ∧ (∀ e, in64 (g 33 e)) ∧ (∀ e, 0 ≤ g 35 e ∧ g 35 e ≤ 9) ∧ (∀ e, 0 ≤ g 102 e ∧ g 102 e ≤ 9) ∧ (∀ e, 0 ≤ g 99 e ∧ g 99 e ≤ 9) ∧ (∀ e, 0 ≤ g 100 e ∧ g 100 e ≤ 9) ∧ (∀ e, g 104 e = 0 ∨ g 104 e = 1) ∧ (∀ e, 0 ≤ g 101 e ∧ g 101 e < 1099511627776)
theorem RE.n {g : Nat → Nat → Int} (h : RE g) : g 30 0 = nE g := by
  unfold nE; rw [h.1]; have := h.2.1; omega
theorem RE.n2 {g : Nat → Nat → Int} (h : RE g) : g 89 10 = nE g := by rw [← h.1]; exact h.n
theorem RE.le {g : Nat → Nat → Int} (h : RE g) : nE g ≤ 40 := by unfold nE; have := h.2.2.1; omega
/-- what of it is the reference's own -/
def RN (g : Nat → Nat → Int) : Prop := 0 ≤ g 89 10 ∧ g 89 10 ≤ 40
theorem RE.rn {g : Nat → Nat → Int} (h : RE g) : RN g := ⟨h.2.1, h.2.2.1⟩
theorem RN.n2 {g : Nat → Nat → Int} (h : RN g) : g 89 10 = nE g := by unfold nE; have := h.1; omega
theorem RN.le {g : Nat → Nat → Int} (h : RN g) : nE g ≤ 40 := by unfold nE; have := h.2; omega
/-- counting loops -/
theorem sm_step {f : Nat → Int} {i : Nat} {v : Int} (B : Int) (hv : v = f i) (hb : ∀ j, j ≤ i → 0 ≤ f j ∧ f j ≤ B) (hB : 0 ≤ B) (hi : B * (i + 1) < 2147483648) : w32 (sm f i + v) = sm f (i + 1) := by
  have h := sm_bound (f := f) (a := 0) (b := B) (n := i + 1) (fun j hj => hb j (by omega))
  have e : sm f (i + 1) = sm f i + f i := rfl
  rw [hv, ← e]
  refine w32_of ?_ ?_
  · have h1 := h.1; rw [Int.zero_mul] at h1; omega
  · have h2 := h.2
    have : B * ((i + 1 : Nat) : Int) = B * (i + 1) := by push_cast; rfl
    omega
theorem w32_succ {i : Nat} (h : i < 1000000) : w32 ((i : Int) + 1) = ((i + 1 : Nat) : Int) := by
  rw [w32_of (by omega) (by omega)]; push_cast; rfl
theorem bI_b (p : Prop) [Decidable p] : 0 ≤ bI p ∧ bI p ≤ 1 := by rcases bI_01 p with h | h <;> omega
theorem lc0 {p : Prop} [Decidable p] {α : Type} {a b : α} : (if lcmpI (bI p) 0 = 0 then a else b) = if ¬ p then a else b := by
  unfold lcmpI bI
  split <;> simp_all
section ENT
variable (X : MExt) (E : List (Nat × Nat)) (c s : Nat) {g : Nat → Nat → Int}
/-- Entries.has -/
theorem c20 (h : RE g) (d : Nat) (x : Int) : Call prog clsT X (d + 1) 20 [(2, 30), (0, x)] (mk E c s (hh g)) = some ((0, bI (0 ≤ x ∧ x < nE g)), mk E c s (hh g)) := by
  rw [rc20_]
  simp only [cmp_lt, cmp_ge, h.n]
  have := h.le
  split
  · rw [bI_f (by omega)]
  · split
    · rw [bI_f (by omega)]
    · split
      · omega
      · rw [bI_t (by omega)]
/-- Entries.stands -/
theorem c19 (h : RE g) (d : Nat) (x : Int) : Call prog clsT X (d + 2) 19 [(2, 30), (0, x)] (mk E c s (hh g)) = some ((0, bI (0 ≤ x ∧ x < nE g ∧ g 104 x.toNat = 0)), mk E c s (hh g)) := by
  rw [rc19_, call0 (c20 X E c s h d x), push0, r19_3]
  simp only [cmp_eq, bI_eq0]
  by_cases h1 : 0 ≤ x ∧ x < nE g
  · rw [if_neg (fun q => q h1)]
    obtain ⟨k, rfl⟩ := Int.eq_ofNat_of_zero_le h1.1
    have hk : k < nE g := by omega
    have := h.le
    rw [bit_at _ _ (by omega), lc0, h.2.2.2.2.1 k (by omega), dec_not]
    by_cases h2 : g 104 k = 0
    · rw [if_neg (fun q => q ⟨hk, h2⟩), bI_t ⟨h1.1, h1.2, h2⟩]
    · rw [if_pos (fun q => h2 q.2), bI_f (fun q => h2 q.2.2)]
  · rw [if_pos h1, bI_f (fun q => h1 ⟨q.1, q.2.1⟩)]
/-- Entries.standsIn -/
theorem c22 (h : RE g) (d : Nat) (x k : Int) : Call prog clsT X (d + 2) 22 [(2, 30), (0, x), (0, k)] (mk E c s (hh g)) = some ((0, bI (0 ≤ x ∧ x < nE g ∧ g 104 x.toNat = 0 ∧ g 99 x.toNat = k)), mk E c s (hh g)) := by
  rw [rc22_, call0 (c20 X E c s h d x), push0, r22_3]
  simp only [cmp_eq, cmp_ne, bI_eq0, inb_is]
  by_cases h1 : 0 ≤ x ∧ x < nE g
  · rw [if_neg (fun q => q h1)]
    obtain ⟨j, rfl⟩ := Int.eq_ofNat_of_zero_le h1.1
    have hk : j < nE g := by omega
    have := h.le
    rw [bit_at _ _ (by omega), lc0, h.2.2.2.2.1 j (by omega), dec_not, h.2.2.2.2.2.1, Int.toNat_natCast]
    by_cases h2 : g 104 j = 0
    · rw [if_neg (fun q => q ⟨hk, h2⟩), if_pos (by omega)]
      by_cases h3 : g 99 j = k
      · rw [if_neg (fun q => q h3), bI_t ⟨h1.1, h1.2, h2, h3⟩]
      · rw [if_pos h3, bI_f (fun q => h3 q.2.2.2)]
    · rw [if_pos (fun q => h2 q.2), bI_f (fun q => h2 q.2.2.1)]
  · rw [if_pos h1, bI_f (fun q => h1 ⟨q.1, q.2.1⟩)]
/-- how many of a class stand, of an exhibitor, of anyone -/
def stIn (g : Nat → Nat → Int) (k : Int) : Int := sm (fun e => bI (g 104 e = 0 ∧ g 99 e = k)) (nE g)
def stOf (g : Nat → Nat → Int) (x k : Int) : Int := sm (fun e => bI (g 104 e = 0 ∧ g 99 e = k ∧ g 100 e = x)) (nE g)
/-- Entries.standingIn -/
theorem c24 (h : RE g) (d : Nat) (k : Int) : Call prog clsT X (d + 3) 24 [(2, 30), (0, k)] (mk E c s (hh g)) = some ((0, stIn g k), mk E c s (hh g)) := by
  rw [rc24_]
  have hle := h.le
  have loop : ∀ (m i : Nat), i + m = nE g → Ev prog clsT X (d + 2) mc24 4 [(2, 30), (0, k), (0, sm (fun e => bI (g 104 e = 0 ∧ g 99 e = k)) i), (0, (i : Int))] [] (mk E c s (hh g)) = some ((0, stIn g k), mk E c s (hh g)) := by
    intro m
    induction m with
    | zero =>
      intro i hi
      rw [r24_4, cmp_ge, h.n, if_pos (by omega), show i = nE g by omega]
      rfl
    | succ m ih =>
      intro i hi
      rw [r24_4, cmp_ge, h.n, if_neg (by omega), call0 (c22 X E c s h d i k), push0, r24_13, cmp_eq, bI_eq0, w32_succ (by omega)]
      have hst : ∀ v, v = bI (g 104 i = 0 ∧ g 99 i = k) → w32 (sm (fun e => bI (g 104 e = 0 ∧ g 99 e = k)) i + v) = sm (fun e => bI (g 104 e = 0 ∧ g 99 e = k)) (i + 1) := fun v hv => sm_step 1 hv (fun j _ => bI_b _) (by omega) (by omega)
      have hc : (0 ≤ (i : Int) ∧ (i : Int) < nE g ∧ g 104 (i : Int).toNat = 0 ∧ g 99 (i : Int).toNat = k) ↔ (g 104 i = 0 ∧ g 99 i = k) := by
        rw [Int.toNat_natCast]
        exact ⟨fun q => q.2.2, fun q => ⟨by omega, by omega, q⟩⟩
      by_cases h1 : g 104 i = 0 ∧ g 99 i = k
      · rw [if_neg (fun q => q (hc.mpr h1)), hst 1 (bI_t h1).symm]
        exact ih (i + 1) (by omega)
      · rw [if_pos (fun q => h1 (hc.mp q)), hst 0 (bI_f h1).symm]
        exact ih (i + 1) (by omega)
  exact loop (nE g) 0 (by omega)
/-- the pieces that stand out of e entries -/
def laidTo (g : Nat → Nat → Int) : Nat → Int
  | 0 => 0
  | e + 1 => lor64 (laidTo g e) (if g 104 e = 0 then g 101 e else 0)
def laid (g : Nat → Nat → Int) : Int := laidTo g (nE g)
/-- Entries.piecesThatStand -/
theorem c18 (h : RE g) (d : Nat) : Call prog clsT X (d + 4) 18 [(2, 30)] (mk E c s (hh g)) = some ((1, laid g), mk E c s (hh g)) := by
  rw [rc18_]
  have hle := h.le
  have loop : ∀ (m i : Nat) (w : MV), i + m = nE g → Ev prog clsT X (d + 3) mc18 4 [(2, 30), (1, laidTo g i), w, (0, (i : Int))] [] (mk E c s (hh g)) = some ((1, laid g), mk E c s (hh g)) := by
    intro m
    induction m with
    | zero =>
      intro i w hi
      rw [r18_4, cmp_ge, h.n, if_pos (by omega), show i = nE g by omega]
      rfl
    | succ m ih =>
      intro i w hi
      rw [r18_4, cmp_ge, h.n, if_neg (by omega), call0 (c19 X E c s h (d + 1) i), push0, r18_12, cmp_eq, bI_eq0, w32_succ (by omega), Int.toNat_natCast, inb_is, if_pos (show 0 ≤ (i : Int) ∧ (i : Int) < (40 : Nat) by omega), h.2.2.2.2.2.2.2.1]
      by_cases h1 : g 104 i = 0
      · rw [if_neg (fun q => q ⟨by omega, by omega, h1⟩)]
        have e : lor64 (laidTo g i) (g 101 i) = laidTo g (i + 1) := by show _ = lor64 _ (if g 104 i = 0 then _ else _); rw [if_pos h1]
        rw [e]
        exact ih (i + 1) _ (by omega)
      · rw [if_pos (fun q => h1 q.2.2)]
        have e : lor64 (laidTo g i) 0 = laidTo g (i + 1) := by show _ = lor64 _ (if g 104 i = 0 then _ else _); rw [if_neg h1]
        rw [e]
        exact ih (i + 1) _ (by omega)
  exact loop (nE g) 0 _ (by omega)
/-- Model.laidOut -/
theorem m155 (h : RN g) (d : Nat) : Call prog clsT X (d + 1) 155 [(2, 89)] (mk E c s (hh g)) = some ((1, laid g), mk E c s (hh g)) := by
  rw [rc155_]
  have hle := h.le
  have loop : ∀ (m i : Nat) (w : MV), i + m = nE g → Ev prog clsT X d mc155 4 [(2, 89), (1, laidTo g i), w, (0, (i : Int))] [] (mk E c s (hh g)) = some ((1, laid g), mk E c s (hh g)) := by
    intro m
    induction m with
    | zero =>
      intro i w hi
      rw [r155_4, cmp_ge, h.n2, if_pos (by omega), show i = nE g by omega]
      rfl
    | succ m ih =>
      intro i w hi
      rw [r155_4, cmp_ge, h.n2, if_neg (by omega), w32_succ (by omega), Int.toNat_natCast, inb_is, cmp_eq, if_pos (show 0 ≤ (i : Int) ∧ (i : Int) < (40 : Nat) by omega)]
      by_cases h1 : g 104 i = 0
      · rw [if_pos h1, inb_is, if_pos (show 0 ≤ (i : Int) ∧ (i : Int) < (40 : Nat) by omega)]
        have e : lor64 (laidTo g i) (g 101 i) = laidTo g (i + 1) := by show _ = lor64 _ (if g 104 i = 0 then _ else _); rw [if_pos h1]
        rw [e]
        exact ih (i + 1) _ (by omega)
      · rw [if_neg h1]
        have e : lor64 (laidTo g i) 0 = laidTo g (i + 1) := by show _ = lor64 _ (if g 104 i = 0 then _ else _); rw [if_neg h1]
        rw [e]
        exact ih (i + 1) _ (by omega)
  exact loop (nE g) 0 _ (by omega)
/-- Model.isEntry -/
theorem m162 (h : RN g) (d : Nat) (x : Int) : Call prog clsT X (d + 1) 162 [(2, 89), (0, x)] (mk E c s (hh g)) = some ((0, bI (0 ≤ x ∧ x < nE g)), mk E c s (hh g)) := by
  rw [rc162_]
  simp only [cmp_lt, cmp_ge, h.n2]
  split
  · rw [bI_f (by omega)]
  · split
    · rw [bI_f (by omega)]
    · rw [bI_t (by omega)]
/-- Model.standsAt -/
theorem m161 (h : RN g) (d : Nat) (x : Int) : Call prog clsT X (d + 2) 161 [(2, 89), (0, x)] (mk E c s (hh g)) = some ((0, bI (0 ≤ x ∧ x < nE g ∧ g 104 x.toNat = 0)), mk E c s (hh g)) := by
  rw [rc161_, call0 (m162 X E c s h d x), push0, r161_3]
  simp only [cmp_eq, cmp_ne, bI_eq0, inb_is]
  have := h.le
  by_cases h1 : 0 ≤ x ∧ x < nE g
  · rw [if_neg (fun q => q h1), if_pos (by omega)]
    by_cases h2 : g 104 x.toNat = 0
    · rw [if_neg (fun q => q h2), bI_t ⟨h1.1, h1.2, h2⟩]
    · rw [if_pos h2, bI_f (fun q => h2 q.2.2)]
  · rw [if_pos h1, bI_f (fun q => h1 ⟨q.1, q.2.1⟩)]
/-- Entries.standingOf -/
theorem c23 (h : RE g) (d : Nat) (x k : Int) : Call prog clsT X (d + 3) 23 [(2, 30), (0, x), (0, k)] (mk E c s (hh g)) = some ((0, stOf g x k), mk E c s (hh g)) := by
  rw [rc23_]
  have hle := h.le
  have loop : ∀ (m i : Nat), i + m = nE g → Ev prog clsT X (d + 2) mc23 4 [(2, 30), (0, x), (0, k), (0, sm (fun e => bI (g 104 e = 0 ∧ g 99 e = k ∧ g 100 e = x)) i), (0, (i : Int))] [] (mk E c s (hh g)) = some ((0, stOf g x k), mk E c s (hh g)) := by
    intro m
    induction m with
    | zero =>
      intro i hi
      rw [r23_4, cmp_ge, h.n, if_pos (by omega), show i = nE g by omega]
      rfl
    | succ m ih =>
      intro i hi
      rw [r23_4, cmp_ge, h.n, if_neg (by omega), call0 (c22 X E c s h d i k), push0, r23_13, cmp_eq, bI_eq0, w32_succ (by omega), Int.toNat_natCast, inb_is, if_pos (show 0 ≤ (i : Int) ∧ (i : Int) < (40 : Nat) by omega), cmp_ne, h.2.2.2.2.2.2.1]
      have hst : ∀ v, v = bI (g 104 i = 0 ∧ g 99 i = k ∧ g 100 i = x) → w32 (sm (fun e => bI (g 104 e = 0 ∧ g 99 e = k ∧ g 100 e = x)) i + v) = sm (fun e => bI (g 104 e = 0 ∧ g 99 e = k ∧ g 100 e = x)) (i + 1) := fun v hv => sm_step 1 hv (fun j _ => bI_b _) (by omega) (by omega)
      by_cases h1 : g 104 i = 0 ∧ g 99 i = k
      · rw [if_neg (fun q => q ⟨by omega, by omega, h1.1, h1.2⟩)]
        by_cases h2 : g 100 i = x
        · rw [if_neg (fun q => q h2), hst 1 (bI_t ⟨h1.1, h1.2, h2⟩).symm]
          exact ih (i + 1) (by omega)
        · rw [if_pos h2, hst 0 (bI_f (fun q => h2 q.2.2)).symm]
          exact ih (i + 1) (by omega)
      · rw [if_pos (fun q => h1 ⟨q.2.2.1, q.2.2.2⟩), hst 0 (bI_f (fun q => h1 ⟨q.1, q.2.1⟩)).symm]
        exact ih (i + 1) (by omega)
  exact loop (nE g) 0 (by omega)
/-- Entries.allJarsLost -/
theorem c25 (h : RE g) (d : Nat) : Call prog clsT X (d + 1) 25 [(2, 30)] (mk E c s (hh g)) = some ((0, sm (fun e => g 103 e) (nE g)), mk E c s (hh g)) := by
  rw [rc25_]
  have hle := h.le
  have loop : ∀ (m i : Nat), i + m = nE g → Ev prog clsT X d mc25 4 [(2, 30), (0, sm (fun e => g 103 e) i), (0, (i : Int))] [] (mk E c s (hh g)) = some ((0, sm (fun e => g 103 e) (nE g)), mk E c s (hh g)) := by
    intro m
    induction m with
    | zero =>
      intro i hi
      rw [r25_4, cmp_ge, h.n, if_pos (by omega), show i = nE g by omega]
    | succ m ih =>
      intro i hi
      have h35 := h.2.2.2.2.2.2.2.2.2.1
      have hb := h.2.2.2.2.2.2.2.2.2.2.2.1
      rw [r25_4, cmp_ge, h.n, if_neg (by omega), w32_succ (by omega), Int.toNat_natCast, inb_is, if_pos (show 0 ≤ (i : Int) ∧ (i : Int) < (40 : Nat) by omega), sm_step (f := fun e => g 103 e) 9 (h35 i) (fun j _ => by rw [← h35]; exact hb j) (by omega) (by omega)]
      exact ih (i + 1) (by omega)
  exact loop (nE g) 0 (by omega)
end ENT
