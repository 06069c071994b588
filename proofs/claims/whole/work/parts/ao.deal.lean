/-! Part ao: the class tries the places that are still open. -/
/-- how many of a name are left -/
def cnU (nm : Nat → Nat) (U : Nat → Bool) (n : Nat) (x : Nat) : Int := sm (fun i => bI (U i = false ∧ nm i = x)) n
theorem cnU_0 (nm : Nat → Nat) (U : Nat → Bool) (n x : Nat) : 0 ≤ cnU nm U n x := by
  have := sm_bound (f := fun i => bI (U i = false ∧ nm i = x)) (a := 0) (b := 1) (n := n) (fun i _ => bI_b _)
  unfold cnU; omega
theorem sm_has {f : Nat → Int} (hf : ∀ i, 0 ≤ f i) : ∀ n, 0 < sm f n → ∃ i, i < n ∧ 0 < f i
  | 0, h => absurd h (Int.lt_irrefl 0)
  | n + 1, h => by
    by_cases z : 0 < f n
    · exact ⟨n, Nat.lt_succ_self n, z⟩
    · have e : sm f (n + 1) = sm f n + f n := rfl
      obtain ⟨i, h1, h2⟩ := sm_has hf n (by omega)
      exact ⟨i, by omega, h2⟩
theorem sm_pos {f : Nat → Int} (hf : ∀ i, 0 ≤ f i) : ∀ n i, i < n → 0 < f i → 0 < sm f n
  | 0, i, h, _ => absurd h (Nat.not_lt_zero i)
  | n + 1, i, h, h2 => by
    have e : sm f (n + 1) = sm f n + f n := rfl
    have hn := hf n
    by_cases z : i = n
    · subst z
      have := sm_bound (f := f) (a := 0) (b := sm f i + 0) (n := 0) (fun _ h => absurd h (Nat.not_lt_zero _))
      have h0 : 0 ≤ sm f i := by
        clear this e h hn h2
        induction i with
        | zero => exact Int.le_refl 0
        | succ i ih => have := hf i; show 0 ≤ sm f i + f i; omega
      omega
    · have := sm_pos hf n i (by omega) h2
      omega
theorem bI_pos {p : Prop} [Decidable p] (h : 0 < bI p) : p := by
  by_cases z : p
  · exact z
  · rw [bI_f z] at h; exact absurd h (Int.lt_irrefl 0)
theorem bI_nn (p : Prop) [Decidable p] : 0 ≤ bI p := (bI_b p).1
/-- a name is left where one of its entries is -/
theorem cnU_has {nm : Nat → Nat} {U : Nat → Bool} {n x : Nat} : 0 < cnU nm U n x ↔ ∃ i, i < n ∧ U i = false ∧ nm i = x := by
  constructor
  · intro h
    obtain ⟨i, h1, h2⟩ := sm_has (fun i => bI_nn _) n h
    exact ⟨i, h1, bI_pos h2⟩
  · intro ⟨i, h1, h2⟩
    exact sm_pos (fun i => bI_nn _) n i h1 (by rw [bI_t h2]; decide)
abbrev usd (U : Nat → Bool) (i : Nat) : Nat → Bool := fun j => U j || decide (j = i)
theorem cnU_use {nm : Nat → Nat} {U : Nat → Bool} {n i : Nat} (hi : i < n) (hU : U i = false) : cnU nm (usd U i) n = pt (cnU nm U n) (nm i) (cnU nm U n (nm i) - 1) := by
  funext x
  have e := sm_upd (f := fun j => bI (U j = false ∧ nm j = x)) (f' := fun j => bI (usd U i j = false ∧ nm j = x)) (j := i) n hi (fun j _ hne => bI_iff (by
    show (U j || decide (j = i)) = false ∧ nm j = x ↔ _
    rw [decide_eq_false hne, Bool.or_false]))
  have e1 : bI (usd U i i = false ∧ nm i = x) = 0 := bI_f (fun z => by
    have : (U i || decide (i = i)) = false := z.1
    rw [decide_eq_true rfl, Bool.or_true] at this
    cases this)
  show sm _ n = _
  rw [e, pt_at, e1]
  by_cases z : x = nm i
  · subst z
    rw [if_pos rfl, bI_t ⟨hU, rfl⟩]
    unfold cnU
    omega
  · rw [if_neg z, bI_f (fun w => z w.2.symm)]
    unfold cnU
    omega
theorem free_use {U : Nat → Bool} {n i : Nat} (hi : i < n) (hU : U i = false) : sm (fun j => bI (usd U i j = false)) n = sm (fun j => bI (U j = false)) n - 1 := by
  have e := sm_upd (f := fun j => bI (U j = false)) (f' := fun j => bI (usd U i j = false)) (j := i) n hi (fun j _ hne => bI_iff (by
    show (U j || decide (j = i)) = false ↔ _
    rw [decide_eq_false hne, Bool.or_false]))
  have e1 : bI (usd U i i = false) = 0 := bI_f (fun z => by
    have : (U i || decide (i = i)) = false := z
    rw [decide_eq_true rfl, Bool.or_true] at this
    cases this)
  rw [e, e1, bI_t hU]
  omega
/-- none is left: none of any name -/
theorem cnU_none {nm : Nat → Nat} {U : Nat → Bool} {n : Nat} (h : sm (fun j => bI (U j = false)) n ≤ 0) : ∀ x, cnU nm U n x = 0 := fun x => by
  have h0 := cnU_0 nm U n x
  by_cases z : 0 < cnU nm U n x
  · obtain ⟨i, h1, h2, _⟩ := cnU_has.1 z
    have := sm_pos (f := fun j => bI (U j = false)) (fun i => bI_nn _) n i h1 (by rw [bI_t h2]; decide)
    omega
  · omega
theorem cnU_some {nm : Nat → Nat} {U : Nat → Bool} {n : Nat} (h : 0 < sm (fun j => bI (U j = false)) n) : ¬ ∀ x, cnU nm U n x = 0 := fun z => by
  obtain ⟨i, h1, h2⟩ := sm_has (f := fun j => bI (U j = false)) (fun i => bI_nn _) n h
  have := (cnU_has (nm := nm) (U := U) (n := n) (x := nm i)).2 ⟨i, h1, bI_pos h2, rfl⟩
  rw [z] at this
  exact absurd this (Int.lt_irrefl 0)
theorem cpI_none {K : CpT} {Z : Nat → Int} {q : Nat} {c : Nat → Int} {P F : Nat → Int} (h : ∀ x, c x = 0) : cpI K Z (q + 1) c P F ↔ K P F := by
  constructor
  · intro z
    rcases z with z | ⟨x, z, _⟩
    · exact z.2
    · rw [h x] at z; exact absurd z (Int.lt_irrefl 0)
  · intro z; exact Or.inl ⟨h, z⟩
theorem cpI_some {K : CpT} {Z : Nat → Int} {q : Nat} {c : Nat → Int} {P F : Nat → Int} (h : ¬ ∀ x, c x = 0) : cpI K Z (q + 1) c P F ↔ ∃ x, 0 < c x ∧ cpI K Z q (pt c x (c x - 1)) (pt P x (P x + Z (2 - q))) (pt F x (F x + (if q = 2 then 1 else 0))) := by
  constructor
  · intro z
    rcases z with z | z
    · exact absurd z.1 h
    · exact z
  · intro z; exact Or.inr z
theorem hop_b {C : Nat → Nat → Int} {B : Int} {n T : Nat} (hB : 0 ≤ B ∧ B ≤ 99) (hC : ∀ k x, 0 ≤ C k x) : ∀ m, 0 ≤ hop C B n T m ∧ hop C B n T m ≤ 297 * m
  | 0 => by show (0 : Int) ≤ 0 ∧ (0 : Int) ≤ _; omega
  | m + 1 => by
    have ih := hop_b hB hC (n := n) (T := T) m
    have c := hC (n - (m + 1)) T
    have b : 0 ≤ mn (C (n - (m + 1)) T) 3 ∧ mn (C (n - (m + 1)) T) 3 ≤ 3 := by unfold mn; split <;> omega
    have m1 := Int.mul_nonneg hB.1 b.1
    have m2 := Int.mul_le_mul hB.2 b.2 b.1 (by decide)
    show 0 ≤ hop C B n T m + B * mn (C (n - (m + 1)) T) 3 ∧ hop C B n T m + B * mn (C (n - (m + 1)) T) 3 ≤ _
    omega
theorem ret01 {v : Int} (h : v = 0 ∨ v = 1) {o : Option MRes} : (if (0 : Nat) = 0 ∧ one01 v = true then o else none) = o := if_pos ⟨rfl, by rw [one01_is]; exact h⟩
/-- sums come back, but for the name that is nobody's -/
def nb (u u' : Gm) : Prop := ∀ y i, ¬ ((y = 66 ∨ y = 67) ∧ i = 10) → u' y i = u y i
theorem nb_refl (u : Gm) : nb u u := fun _ _ _ => rfl
theorem nb_tr {u v w : Gm} (h : nb u v) (h2 : nb v w) : nb u w := fun y i a => (h2 y i a).trans (h y i a)
def cpM (g : Gm) (n T : Nat) (sz : Nat → Nat) (nm : Nat → Nat → Nat) (H : Nat → Int) (u : Gm) : Prop := u 65 2 = n ∧ u 65 7 = T ∧ (∀ k, k < n → u 68 k = sz k) ∧ (∀ k i, k < n → i < sz k → u 69 (5 * k + i) = nm k i) ∧ (∀ k, k ≤ n → u 70 k = H (n - k)) ∧ ∀ i, i < 3 → u 71 i = g 142 i
theorem cpM_of {g : Gm} {n T : Nat} {sz : Nat → Nat} {nm : Nat → Nat → Nat} {H : Nat → Int} {u u' : Gm} (h : cpM g n T sz nm H u) (e : ∀ y i, y ≠ 66 → y ≠ 67 → u' y i = u y i) : cpM g n T sz nm H u' := by
  obtain ⟨a1, a2, a3, a4, a5, a6⟩ := h
  refine ⟨?_, ?_, fun k hk => ?_, fun k i hk hi => ?_, fun k hk => ?_, fun i hi => ?_⟩
  · rw [e 65 2 (by decide) (by decide)]; exact a1
  · rw [e 65 7 (by decide) (by decide)]; exact a2
  · rw [e 68 k (by decide) (by decide)]; exact a3 k hk
  · rw [e 69 _ (by decide) (by decide)]; exact a4 k i hk hi
  · rw [e 70 k (by decide) (by decide)]; exact a5 k hk
  · rw [e 71 i (by decide) (by decide)]; exact a6 i hi
theorem cpM_nb {g : Gm} {n T : Nat} {sz : Nat → Nat} {nm : Nat → Nat → Nat} {H : Nat → Int} {u u' : Gm} (h : cpM g n T sz nm H u) (e : nb u u') : cpM g n T sz nm H u' := cpM_of h (fun y i a b => e y i (fun z => by rcases z.1 with w | w <;> omega))
def cpW (g : Gm) (r : Nat) (P F : Nat → Int) (u : Gm) : Prop := ∀ x, x < 10 → u 66 x = P x ∧ u 67 x = F x ∧ 0 ≤ P x ∧ P x + 99 * r ≤ 100000 ∧ 0 ≤ F x ∧ F x + r ≤ 100000 ∧ (¬ (g 90 x ≠ 0 ∧ g 93 x = 0) → P x = 0)
theorem cpW_nb {g : Gm} {r : Nat} {P F : Nat → Int} {u u' : Gm} (h : cpW g r P F u) (e : nb u u') : cpW g r P F u' := fun x hx => by
  rw [e 66 x (fun z => by omega), e 67 x (fun z => by omega)]; exact h x hx
section DEAL
variable (X : MExt) {E : List (Nat × Nat)} {g : Gm}
theorem c16x {n T : Nat} {sz : Nat → Nat} {nm : Nat → Nat → Nat} {H : Nat → Int} {r : Nat} {P F : Nat → Int} (d c s : Nat) {u : Gm} (hM : cpM g n T sz nm H u) (hW : cpW g r P F u) (b : Int) : ∃ v, Call prog clsT X (d + 1) 16 [(2, 65), (0, b)] (mk E c s (hh u)) = some ((0, v), mk E c s (hh u)) ∧ (v = 0 ∨ v = 1) ∧ (v = 0 ↔ 0 < b ∧ ∀ y, y < 10 → y ≠ T → P y ≤ b) := by
  have loop : ∀ (p i : Nat), i + p = 10 → (∀ y, y < i → y ≠ T → P y ≤ b) → ∃ v, Ev prog clsT X d mc16 2 [(2, 65), (0, b), (0, (i : Int))] [] (mk E c s (hh u)) = some ((0, v), mk E c s (hh u)) ∧ (v = 0 ∨ v = 1) ∧ (v = 0 ↔ 0 < b ∧ ∀ y, y < 10 → y ≠ T → P y ≤ b) := by
    intro p
    induction p with
    | zero =>
      intro i hi hp
      have hi : i = 10 := by omega
      subst hi
      rw [r16_2, cmp_ge, if_pos (by decide), cmp_gt]
      by_cases z : 0 < b
      · rw [if_pos z]
        exact ⟨0, rfl, Or.inl rfl, fun _ => ⟨z, hp⟩, fun _ => rfl⟩
      · rw [if_neg z]
        exact ⟨1, rfl, Or.inr rfl, fun w => absurd w (by decide), fun w => absurd w.1 z⟩
    | succ p ih =>
      intro i hi hp
      have i11 : 0 ≤ (i : Int) ∧ (i : Int) < ((11 : Nat) : Int) := by omega
      rw [r16_2, cmp_ge, if_neg (by omega), cmp_eq, hM.2.1, w32_succ (by omega)]
      by_cases z : (i : Int) = (T : Int)
      · rw [if_pos z]
        exact ih (i + 1) (by omega) (fun y hy hne => hp y (by omega) hne)
      · rw [if_neg z, inb_is, if_pos i11, Int.toNat_natCast, cmp_le, (hW i (by omega)).1]
        by_cases w : P i ≤ b
        · rw [if_pos w]
          refine ih (i + 1) (by omega) (fun y hy hne => ?_)
          by_cases v : y = i
          · rw [v]; exact w
          · exact hp y (by omega) hne
        · rw [if_neg w]
          exact ⟨1, rfl, Or.inr rfl, fun v => absurd v (by decide), fun v => absurd (v.2 i (by omega) (fun q => z (by omega))) w⟩
  rw [rc16_]
  exact loop 10 0 (by omega) (fun y hy => absurd hy (Nat.not_lt_zero _))
theorem c15x {n T : Nat} {sz : Nat → Nat} {nm : Nat → Nat → Nat} {H : Nat → Int} {r : Nat} {P F : Nat → Int} (hT : T < 10) (d c s : Nat) {u : Gm} (hM : cpM g n T sz nm H u) (hW : cpW g r P F u) : ∃ v, Call prog clsT X (d + 2) 15 [(2, 65)] (mk E c s (hh u)) = some ((0, v), mk E c s (hh u)) ∧ (v = 0 ∨ v = 1) ∧ (v = 1 ↔ cpL g T P F) := by
  have t11 : 0 ≤ (T : Int) ∧ (T : Int) < ((11 : Nat) : Int) := by omega
  have loop : ∀ (p i : Nat), i + p = 10 → 0 < P T → (∀ y, y < 10 → y ≠ T → P y ≤ P T) → (∀ y, y < i → P y = P T → F y ≤ F T) → ∃ v, Ev prog clsT X (d + 1) mc15 12 [(2, 65), (0, (i : Int))] [] (mk E c s (hh u)) = some ((0, v), mk E c s (hh u)) ∧ (v = 0 ∨ v = 1) ∧ (v = 1 ↔ cpL g T P F) := by
    intro p
    induction p with
    | zero =>
      intro i hi h0 h1 hp
      have hi : i = 10 := by omega
      subst hi
      rw [r15_12, cmp_ge, if_pos (by decide)]
      refine ⟨1, rfl, Or.inr rfl, fun _ => ⟨h0, fun y hy _ _ => ⟨?_, hp y hy⟩⟩, fun _ => rfl⟩
      by_cases w : y = T
      · rw [w]; exact Int.le_refl _
      · exact h1 y hy w
    | succ p ih =>
      intro i hi h0 h1 hp
      have i11 : 0 ≤ (i : Int) ∧ (i : Int) < ((11 : Nat) : Int) := by omega
      have wi := hW i (by omega)
      have wT := hW T hT
      rw [r15_12, cmp_ge, if_neg (by omega), inb_is, if_pos i11, hM.2.1, inb_is, if_pos t11, Int.toNat_natCast, Int.toNat_natCast, cmp_ne, wi.1, wT.1, w32_succ (by omega)]
      by_cases z : P i = P T
      · rw [if_neg (fun w => w z), inb_is, if_pos i11, inb_is, if_pos t11, cmp_le, wi.2.1, wT.2.1]
        by_cases w : F i ≤ F T
        · rw [if_pos w]
          refine ih (i + 1) (by omega) h0 h1 (fun y hy he => ?_)
          by_cases v : y = i
          · rw [v]; exact w
          · exact hp y (by omega) he
        · rw [if_neg w]
          refine ⟨0, rfl, Or.inl rfl, fun v => absurd v (by decide), fun v => absurd ((v.2 i (by omega) ?_ ?_).2 z) w⟩
          · exact fun q => by have := wi.2.2.2.2.2.2 (fun k => k.1 q); omega
          · refine Decidable.byContradiction (fun q => ?_)
            have := wi.2.2.2.2.2.2 (fun k => q k.2); omega
      · rw [if_pos z]
        refine ih (i + 1) (by omega) h0 h1 (fun y hy he => ?_)
        by_cases v : y = i
        · rw [v] at he; exact absurd he z
        · exact hp y (by omega) he
  obtain ⟨b, b1, b2, b3⟩ := c16x X (E := E) d c s hM hW (P T)
  rw [rc15_, hM.2.1, inb_is, if_pos t11, Int.toNat_natCast, (hW T hT).1, call0 b1, push0, r15_7, cmp_eq]
  by_cases z : b = 0
  · rw [if_pos z]
    obtain ⟨y1, y2⟩ := b3.1 z
    exact loop 10 0 (by omega) y1 y2 (fun y hy => absurd hy (Nat.not_lt_zero _))
  · rw [if_neg z]
    refine ⟨0, rfl, Or.inl rfl, fun v => absurd v (by decide), fun v => absurd (b3.2 ⟨v.1, fun y hy hne => ?_⟩) z⟩
    by_cases w : g 90 y ≠ 0 ∧ g 93 y = 0
    · exact (v.2 y hy w.1 w.2).1
    · have := (hW y hy).2.2.2.2.2.2 w
      have := v.1
      omega
/-- one place given in every way -/
theorem c14_loop {n T : Nat} {sz : Nat → Nat} {nm : Nat → Nat → Nat} {H : Nat → Int} (hn : n ≤ 3) (hsz : ∀ k, k < n → 1 ≤ sz k ∧ sz k ≤ 5) (hnm : ∀ k i, k < n → i < sz k → nm k i < 11 ∧ (nm k i < 10 → g 90 (nm k i) ≠ 0 ∧ g 93 (nm k i) = 0)) (hZ : ∀ i, i < 3 → 0 ≤ g 142 i ∧ g 142 i ≤ 99) {K : CpT} {a q r D : Nat} (ha : a < n) (hq : q ≤ 2)
  (rec : ∀ (U : Nat → Bool) (used : Int) (P F : Nat → Int) (u : Gm) (c s : Nat), (∀ j, j < 5 → tb3 used j = U j) → sm (fun i => bI (U i = false)) (sz a) = (sz a : Int) - ((3 - q : Nat) : Int) → cpM g n T sz nm H u → cpW g r P F u → ∃ v u', Call prog clsT X D 14 [(2, 65), (0, (a : Int)), (0, ((3 - q : Nat) : Int)), (0, used)] (mk E c s (hh u)) = some ((0, v), mk E c s (hh u')) ∧ nb u u' ∧ (v = 0 ∨ v = 1) ∧ (v = 1 ↔ cpI K (g 142) q (cnU (nm a) U (sz a)) P F))
  (U : Nat → Bool) (used : Int) (P F : Nat → Int) (hU : ∀ j, j < 5 → tb3 used j = U j) (hfr : sm (fun i => bI (U i = false)) (sz a) = (sz a : Int) - ((2 - q : Nat) : Int)) (c s : Nat) : ∀ (p i : Nat) (tried : Int) (w6 w7 : MV) (u : Gm), i + p = sz a → cpM g n T sz nm H u → cpW g (r + 1) P F u → (∀ x, x < 11 → tb3 tried x = true → ¬ cpI K (g 142) q (pt (cnU (nm a) U (sz a)) x (cnU (nm a) U (sz a) x - 1)) (pt P x (P x + g 142 (2 - q))) (pt F x (F x + (if q = 2 then 1 else 0)))) → (∀ j, j < i → U j = false → tb3 tried (nm a j) = true) → ∃ v u', Ev prog clsT X D mc14 45 [(2, 65), (0, (a : Int)), (0, ((2 - q : Nat) : Int)), (0, used), (0, tried), (0, (i : Int)), w6, w7] [] (mk E c s (hh u)) = some ((0, v), mk E c s (hh u')) ∧ nb u u' ∧ (v = 0 ∨ v = 1) ∧ (v = 1 ↔ ∃ x, 0 < cnU (nm a) U (sz a) x ∧ cpI K (g 142) q (pt (cnU (nm a) U (sz a)) x (cnU (nm a) U (sz a) x - 1)) (pt P x (P x + g 142 (2 - q))) (pt F x (F x + (if q = 2 then 1 else 0)))) := by
  have a3 : 0 ≤ (a : Int) ∧ (a : Int) < ((3 : Nat) : Int) := by omega
  have hs := hsz a ha
  intro p
  induction p with
  | zero =>
    intro i tried w6 w7 u hi hM hW ht hj
    have hi : i = sz a := by omega
    subst hi
    refine ⟨0, u, ?_, nb_refl u, Or.inl rfl, fun z => absurd z (by decide), fun ⟨x, x1, x2⟩ => ?_⟩
    · rw [r14_45, inb_is, if_pos a3, Int.toNat_natCast, hM.2.2.1 a ha, cmp_ge, if_pos (Int.le_refl _)]
    · obtain ⟨j, j1, j2, j3⟩ := cnU_has.1 x1
      have := hj j j1 j2
      rw [j3] at this
      exact absurd x2 (ht x (by rw [← j3]; exact (hnm a j ha j1).1) this)
  | succ p ih =>
    intro i tried w6 w7 u hi hM hW ht hj
    have hi2 : i < sz a := by omega
    have e0 : w32 (w32 ((a : Int) * 5) + (i : Int)) = ((5 * a + i : Nat) : Int) := by
      rw [w32_of (x := (a : Int) * 5) (by omega) (by omega), w32_of (by omega) (by omega)]; omega
    have i15 : 0 ≤ ((5 * a + i : Nat) : Int) ∧ ((5 * a + i : Nat) : Int) < ((15 : Nat) : Int) := by omega
    have i11 : 0 ≤ (nm a i : Int) ∧ (nm a i : Int) < ((11 : Nat) : Int) := by
      have := (hnm a i ha hi2).1; omega
    rw [r14_45, inb_is, if_pos a3, Int.toNat_natCast, hM.2.2.1 a ha, cmp_ge, if_neg (by omega), e0, inb_is, if_pos i15, Int.toNat_natCast, hM.2.2.2.1 a i ha hi2, cmp_ne, bit3_at _ _ (by omega), hU i (by omega), bI_ne0, w32_succ (by omega)]
    by_cases z1 : U i = true
    · rw [if_pos (fun w => w z1)]
      refine ih (i + 1) tried _ _ u (by omega) hM hW ht (fun j h1 h2 => ?_)
      by_cases w : j = i
      · rw [w, z1] at h2; cases h2
      · exact hj j (by omega) h2
    have hUi : U i = false := by cases hb : U i with
      | true => exact absurd hb z1
      | false => rfl
    rw [if_neg (fun w => w z1), r14_66, cmp_eq, bit3_at _ _ (by omega), bI_eq0]
    by_cases z2 : tb3 tried (nm a i) = true
    · rw [if_neg (fun w => w z2), r14_72, w32_succ (by omega)]
      refine ih (i + 1) tried _ _ u (by omega) hM hW ht (fun j h1 h2 => ?_)
      by_cases w : j = i
      · rw [w]; exact z2
      · exact hj j (by omega) h2
    have q3 : 0 ≤ ((2 - q : Nat) : Int) ∧ ((2 - q : Nat) : Int) < ((3 : Nat) : Int) := by omega
    rw [if_pos z2, r14_73, inb_is, if_pos i11, inb_is, if_pos q3, inb_is, if_pos i11, Int.toNat_natCast, Int.toNat_natCast, hM.2.2.2.2.2 (2 - q) (by omega)]
    have hz := hZ (2 - q) (by omega)
    generalize hzz : g 142 (2 - q) = zz at hz ht ih ⊢
    have hfi : ∀ k : Int, (k = if q = 2 then (1 : Int) else 0) → ∀ {α : Type} (F1 : Int → α), (if ¬ (((2 - q : Nat) : Int) = 0) then F1 0 else F1 1) = F1 k := fun k hk α F1 => by
      by_cases w : q = 2
      · rw [if_neg (by omega), hk, if_pos w]
      · rw [if_pos (by omega), hk, if_neg w]
    generalize hff : (if q = 2 then (1 : Int) else 0) = ff at ht ih hfi ⊢
    have hff01 : 0 ≤ ff ∧ ff ≤ 1 := by
      rw [← hff]; split <;> decide
    -- the memory with the place given
    have key : ∀ u1 : Gm, u1 = up (up u 66 (nm a i) (w32 (u 66 (nm a i) + zz))) 67 (nm a i) (w32 (u 67 (nm a i) + ff)) → cpM g n T sz nm H u1 ∧ cpW g r (pt P (nm a i) (P (nm a i) + zz)) (pt F (nm a i) (F (nm a i) + ff)) u1 := fun u1 hu1 => by
      refine ⟨cpM_of hM (fun y j h1 h2 => by rw [hu1, up_cell h2, up_cell h1]), fun x hx => ?_⟩
      have wx := hW x hx
      rw [hu1, up_cell (by decide), up_at, up_at, up_cell (by decide), pt_at, pt_at]
      by_cases w : x = nm a i
      · have rv := (hnm a i ha hi2).2 (by omega)
        rw [if_pos w, if_pos w, if_pos w, if_pos w, ← w, wx.1, wx.2.1]
        refine ⟨w32_of (by omega) (by omega), w32_of (by omega) (by omega), by omega, by omega, by omega, by omega, fun k => absurd ?_ k⟩
        rw [w]; exact rv
      · rw [if_neg w, if_neg w, if_neg w, if_neg w]
        refine ⟨wx.1, wx.2.1, wx.2.2.1, by omega, wx.2.2.2.2.1, by omega, wx.2.2.2.2.2.2⟩
    have e67 : up u 66 (nm a i) (w32 (u 66 (nm a i) + zz)) 67 (nm a i) = u 67 (nm a i) := up_cell (by decide)
    obtain ⟨k1, k2⟩ := key _ rfl
    obtain ⟨v, u2, b1, b2, b3, b4⟩ := rec (usd U i) (ior32 used (ishl32 1 (i : Int))) _ _ _ c s (fun j hj => by rw [tb3_set (by omega), hU j hj]) (by rw [free_use hi2 hUi, hfr]; omega) k1 k2
    rw [cnU_use hi2 hUi] at b4
    have ep : w32 (((2 - q : Nat) : Int) + 1) = ((3 - q : Nat) : Int) := by rw [w32_succ (by omega)]; omega
    have step1 : Ev prog clsT X D mc14 90 [(2, 65), (0, (a : Int)), (0, ((2 - q : Nat) : Int)), (0, used), (0, ior32 tried (ishl32 1 (nm a i : Int))), (0, (i : Int)), (0, (nm a i : Int)), (3, 0)] [] (mk E c s (hh (up u 66 (nm a i) (w32 (u 66 (nm a i) + zz))))) = Ev prog clsT X D mc14 113 [(2, 65), (0, (a : Int)), (0, ((2 - q : Nat) : Int)), (0, used), (0, ior32 tried (ishl32 1 (nm a i : Int))), (0, (i : Int)), (0, (nm a i : Int)), (3, 0)] [(0, v)] (mk E c s (hh u2)) := by
      rw [r14_90, inb_is, if_pos i11, Int.toNat_natCast, cmp_ne, inb_is, if_pos i11, inb_is, if_pos i11, e67, ep]
      refine (hfi ff rfl (fun w => ((Call prog clsT X D 14 [(2, 65), (0, (a : Int)), (0, ((3 - q : Nat) : Int)), (0, (ior32 used (ishl32 1 (i : Int))))] (mk E c s (hh (up (up u 66 (nm a i) (w32 (u 66 (nm a i) + zz))) 67 (nm a i) (w32 (u 67 (nm a i) + w)))))).bind fun r1 => if r1.1.1 = 4 then none else Ev prog clsT X D mc14 113 [(2, 65), (0, (a : Int)), (0, ((2 - q : Nat) : Int)), (0, used), (0, ior32 tried (ishl32 1 (nm a i : Int))), (0, (i : Int)), (0, (nm a i : Int)), (3, 0)] (pushR r1.1 []) r1.2))).trans ?_
      rw [call0 b1, push0]
    rw [step1]
    -- taken back
    have back : ∀ u3 : Gm, u3 = up (up u2 66 (nm a i) (w32 (u2 66 (nm a i) - zz))) 67 (nm a i) (w32 (u2 67 (nm a i) - ff)) → nb u u3 := fun u3 hu3 y j hne => by
      rw [hu3]
      by_cases y7 : y = 67 ∧ j = nm a i
      · have h10 : nm a i < 10 := by
          have := (hnm a i ha hi2).1
          refine Decidable.byContradiction (fun q => hne ⟨Or.inr y7.1, by omega⟩)
        have wx := hW (nm a i) h10
        rw [y7.1, y7.2, up_at, if_pos rfl, b2 67 _ (fun z => by omega), up_at, if_pos rfl, wx.2.1, w32_of (x := F (nm a i) + ff) (by omega) (by omega), w32_of (by omega) (by omega)]
        omega
      · by_cases y6 : y = 66 ∧ j = nm a i
        · have h10 : nm a i < 10 := by
            have := (hnm a i ha hi2).1
            refine Decidable.byContradiction (fun q => hne ⟨Or.inl y6.1, by omega⟩)
          have wx := hW (nm a i) h10
          rw [y6.1, y6.2, up_cell (by decide), up_at, if_pos rfl, b2 66 _ (fun z => by omega), up_cell (by decide), up_at, if_pos rfl, wx.1, w32_of (x := P (nm a i) + zz) (by omega) (by omega), w32_of (by omega) (by omega)]
          omega
        · rw [up_ne y7, up_ne y6, b2 y j hne, up_ne y7, up_ne y6]
    have hM2 := cpM_nb k1 b2

    have step2 : Ev prog clsT X D mc14 113 [(2, 65), (0, (a : Int)), (0, ((2 - q : Nat) : Int)), (0, used), (0, ior32 tried (ishl32 1 (nm a i : Int))), (0, (i : Int)), (0, (nm a i : Int)), (3, 0)] [(0, v)] (mk E c s (hh u2)) = if v = 0 then Ev prog clsT X D mc14 45 [(2, 65), (0, (a : Int)), (0, ((2 - q : Nat) : Int)), (0, used), (0, ior32 tried (ishl32 1 (nm a i : Int))), (0, ((i + 1 : Nat) : Int)), (0, (nm a i : Int)), (0, v)] [] (mk E c s (hh (up (up u2 66 (nm a i) (w32 (u2 66 (nm a i) - zz))) 67 (nm a i) (w32 (u2 67 (nm a i) - ff))))) else some ((0, 1), mk E c s (hh (up (up u2 66 (nm a i) (w32 (u2 66 (nm a i) - zz))) 67 (nm a i) (w32 (u2 67 (nm a i) - ff))))) := by
      rw [r14_113, inb_is, if_pos i11, inb_is, if_pos q3, inb_is, if_pos i11, inb_is, if_pos i11, cmp_ne, inb_is, if_pos i11, inb_is, if_pos i11, cmp_eq, cmp_eq, Int.toNat_natCast, Int.toNat_natCast, hM2.2.2.2.2.2 (2 - q) (by omega), hzz, w32_succ (by omega)]
      exact hfi ff rfl (fun w => if v = 0 then Ev prog clsT X D mc14 45 [(2, 65), (0, (a : Int)), (0, ((2 - q : Nat) : Int)), (0, used), (0, ior32 tried (ishl32 1 (nm a i : Int))), (0, ((i + 1 : Nat) : Int)), (0, (nm a i : Int)), (0, v)] [] (mk E c s (hh (up (up u2 66 (nm a i) (w32 (u2 66 (nm a i) - zz))) 67 (nm a i) (w32 (u2 67 (nm a i) - w))))) else some (((0 : Nat), (1 : Int)), mk E c s (hh (up (up u2 66 (nm a i) (w32 (u2 66 (nm a i) - zz))) 67 (nm a i) (w32 (u2 67 (nm a i) - w))))))
    rw [step2]
    have nb3 := back _ rfl
    by_cases hv : v = 0
    · rw [if_pos hv]
      have hno : ¬ cpI K (g 142) q (pt (cnU (nm a) U (sz a)) (nm a i) (cnU (nm a) U (sz a) (nm a i) - 1)) (pt P (nm a i) (P (nm a i) + zz)) (pt F (nm a i) (F (nm a i) + ff)) := fun w => by
        have := b4.2 w; omega
      obtain ⟨v', u', d1, d2, d3, d4⟩ := ih (i + 1) (ior32 tried (ishl32 1 (nm a i : Int))) (0, (nm a i : Int)) (0, v) _ (by omega) (cpM_nb hM nb3) (cpW_nb hW nb3) (fun x hx hb => by
        rw [tb3_set (by omega), Bool.or_eq_true, decide_eq_true_eq] at hb
        rcases hb with hb | hb
        · exact ht x hx hb
        · rw [hb]; exact hno) (fun j h1 h2 => by
        rw [tb3_set (by omega), Bool.or_eq_true, decide_eq_true_eq]
        by_cases w : j = i
        · rw [w]; exact Or.inr rfl
        · exact Or.inl (hj j (by omega) h2))
      exact ⟨v', u', d1, nb_tr nb3 d2, d3, d4⟩
    · rw [if_neg hv]
      refine ⟨1, _, rfl, nb3, Or.inr rfl, fun _ => ⟨nm a i, cnU_has.2 ⟨i, hi2, hUi, rfl⟩, b4.1 (by omega)⟩, fun _ => rfl⟩
theorem free_all : ∀ n, sm (fun i => bI (((fun _ => false) : Nat → Bool) i = false)) n = (n : Int)
  | 0 => rfl
  | n + 1 => by
    have ih := free_all n
    show sm _ n + bI (false = false) = _
    rw [ih, bI_t rfl]
    omega
theorem cpW_le {r r' : Nat} {P F : Nat → Int} {u : Gm} (h : cpW g r P F u) (hr : r' ≤ r) : cpW g r' P F u := fun x hx => by
  have := h x hx
  exact ⟨this.1, this.2.1, this.2.2.1, by omega, this.2.2.2.2.1, by omega, this.2.2.2.2.2.2⟩
/-- deal -/
theorem c14x {n T : Nat} {sz : Nat → Nat} {nm : Nat → Nat → Nat} {C : Nat → Nat → Int} {B : Int} (hn : n ≤ 3) (hT : T < 10) (h90 : g 90 T ≠ 0) (h93 : g 93 T = 0) (hsz : ∀ k, k < n → 1 ≤ sz k ∧ sz k ≤ 5) (hnm : ∀ k i, k < n → i < sz k → nm k i < 11 ∧ (nm k i < 10 → g 90 (nm k i) ≠ 0 ∧ g 93 (nm k i) = 0)) (hZ : ∀ i, i < 3 → 0 ≤ g 142 i ∧ g 142 i ≤ B) (hB : B ≤ 99) (hC : ∀ k, k < n → C k = cnU (nm k) (fun _ => false) (sz k)) (hC0 : ∀ k x, 0 ≤ C k x) : ∀ m, m ≤ n → ∀ (P F : Nat → Int) (u : Gm) (d c s : Nat), cpM g n T sz nm (hop C B n T) u → cpW g (3 * m) P F u → ∃ v u', Call prog clsT X (d + (3 + 4 * m)) 14 [(2, 65), (0, ((n - m : Nat) : Int)), (0, 0), (0, 0)] (mk E c s (hh u)) = some ((0, v), mk E c s (hh u')) ∧ nb u u' ∧ (v = 0 ∨ v = 1) ∧ (v = 1 ↔ cpO C (g 142) n (cpL g T) m P F) := by
  have hB0 : 0 ≤ B := by have := hZ 0 (by decide); omega
  have hZ9 : ∀ i, i < 3 → 0 ≤ g 142 i ∧ g 142 i ≤ 99 := fun i hi => by have := hZ i hi; omega
  have t11 : 0 ≤ (T : Int) ∧ (T : Int) < ((11 : Nat) : Int) := by omega
  intro m
  induction m with
  | zero =>
    intro _ P F u d c s hM hW
    obtain ⟨v, b1, b2, b3⟩ := c15x X (E := E) hT d c s hM hW
    refine ⟨v, u, ?_, nb_refl u, b2, b3⟩
    rw [show d + (3 + 4 * 0) = (d + 2) + 1 from rfl, rc14_, hM.1, cmp_lt, if_neg (by omega), call0 b1, push0, r14_6, ret01 b2]
  | succ m ih =>
    intro hm P F u d c s hM hW
    obtain ⟨a, hav⟩ : ∃ a, a = n - (m + 1) := ⟨_, rfl⟩
    have ha : a < n := by omega
    have ea : a + 1 = n - m := by omega
    have na : n - a = m + 1 := by omega
    have a3 : 0 ≤ (a : Int) ∧ (a : Int) < ((3 : Nat) : Int) := by omega
    have a4 : 0 ≤ (a : Int) ∧ (a : Int) < ((4 : Nat) : Int) := by omega
    have hs := hsz a ha
    have next : ∀ (P F : Nat → Int) (u : Gm) (d c s : Nat), cpM g n T sz nm (hop C B n T) u → cpW g (3 * m) P F u → ∃ v u', Call prog clsT X (d + (3 + 4 * m)) 14 [(2, 65), (0, w32 ((a : Int) + 1)), (0, 0), (0, 0)] (mk E c s (hh u)) = some ((0, v), mk E c s (hh u')) ∧ nb u u' ∧ (v = 0 ∨ v = 1) ∧ (v = 1 ↔ cpO C (g 142) n (cpL g T) m P F) := fun P F u d c s hM hW => by
      rw [w32_succ (by omega), ea]
      exact ih (by omega) P F u d c s hM hW
    have inner : ∀ q, q ≤ 2 → ∀ (U : Nat → Bool) (used : Int) (P F : Nat → Int) (u : Gm) (d c s : Nat), (∀ j, j < 5 → tb3 used j = U j) → sm (fun i => bI (U i = false)) (sz a) = (sz a : Int) - ((3 - q : Nat) : Int) → cpM g n T sz nm (hop C B n T) u → cpW g (3 * m + q) P F u → ∃ v u', Call prog clsT X (d + (4 + 4 * m + q)) 14 [(2, 65), (0, (a : Int)), (0, ((3 - q : Nat) : Int)), (0, used)] (mk E c s (hh u)) = some ((0, v), mk E c s (hh u')) ∧ nb u u' ∧ (v = 0 ∨ v = 1) ∧ (v = 1 ↔ cpI (cpO C (g 142) n (cpL g T) m) (g 142) q (cnU (nm a) U (sz a)) P F) := by
      intro q
      induction q with
      | zero =>
        intro _ U used P F u d c s hU hf hM hW
        obtain ⟨v, u', b1, b2, b3, b4⟩ := next P F u d c s hM hW
        refine ⟨v, u', ?_, b2, b3, b4⟩
        rw [show d + (4 + 4 * m + 0) = (d + (3 + 4 * m)) + 1 by omega, rc14_, hM.1, cmp_lt, if_pos (by omega), cmp_ge, if_pos (by omega), call0 b1, push0, r14_23, ret01 b3]
      | succ q ihq =>
        intro hq U used P F u d c s hU hf hM hW
        have e0 : d + (4 + 4 * m + (q + 1)) = (d + (4 + 4 * m + q)) + 1 := by omega
        have e1 : 3 - (q + 1) = 2 - q := by omega
        rw [e1] at hf ⊢
        by_cases z : ((2 - q : Nat) : Int) < (sz a : Int)
        · obtain ⟨v, u', b1, b2, b3, b4⟩ := c14_loop X (E := E) hn hsz hnm hZ9 (K := cpO C (g 142) n (cpL g T) m) (a := a) (q := q) (r := 3 * m + q) (D := d + (4 + 4 * m + q)) ha (by omega) (fun U used P F u c s h1 h2 h3 h4 => ihq (by omega) U used P F u d c s h1 h2 h3 h4) U used P F hU hf c s (sz a) 0 0 (3, 0) (3, 0) u (by omega) hM hW (fun x _ hb => by rw [tb3_0] at hb; cases hb) (fun j hj => absurd hj (Nat.not_lt_zero _))
          refine ⟨v, u', ?_, b2, b3, ?_⟩
          · rw [e0, rc14_, hM.1, cmp_lt, if_pos (by omega), cmp_ge, if_neg (by omega), inb_is, if_pos a3, Int.toNat_natCast, cmp_lt, hM.2.2.1 a ha, if_pos z, cmp_ne, if_pos (by omega)]
            exact b1
          · rw [cpI_some (cnU_some (by rw [hf]; omega))]
            exact b4
        · have hz : ∀ x, cnU (nm a) U (sz a) x = 0 := cnU_none (by rw [hf]; omega)
          obtain ⟨v, u', b1, b2, b3, b4⟩ := next P F u (d + 1 + q) c s hM (cpW_le hW (by omega))
          rw [show d + 1 + q + (3 + 4 * m) = d + (4 + 4 * m + q) by omega] at b1
          refine ⟨v, u', ?_, b2, b3, ?_⟩
          · rw [e0, rc14_, hM.1, cmp_lt, if_pos (by omega), cmp_ge, if_neg (by omega), inb_is, if_pos a3, Int.toNat_natCast, cmp_lt, hM.2.2.1 a ha, if_neg z, call0 b1, push0, r14_23, ret01 b3]
          · rw [cpI_none hz]
            exact b4
    have hW3 : cpW g (3 * m + 2 + 1) P F u := cpW_le hW (by omega)
    have hf : sm (fun i => bI (((fun _ => false) : Nat → Bool) i = false)) (sz a) = (sz a : Int) - ((2 - 2 : Nat) : Int) := by rw [free_all]; omega
    obtain ⟨v, u', b1, b2, b3, b4⟩ := c14_loop X (E := E) hn hsz hnm hZ9 (K := cpO C (g 142) n (cpL g T) m) (a := a) (q := 2) (r := 3 * m + 2) (D := d + (4 + 4 * m + 2)) ha (by omega) (fun U used P F u c s h1 h2 h3 h4 => inner 2 (by omega) U used P F u d c s h1 h2 h3 h4) (fun _ => false) 0 P F (fun j _ => tb3_0 j) hf c s (sz a) 0 0 (3, 0) (3, 0) u (by omega) hM hW3 (fun x _ hb => by rw [tb3_0] at hb; cases hb) (fun j hj => absurd hj (Nat.not_lt_zero _))
    have b1 : Ev prog clsT X (d + (4 + 4 * m + 2)) mc14 45 [(2, 65), (0, (a : Int)), (0, 0), (0, 0), (0, 0), (0, 0), (3, 0), (3, 0)] [] (mk E c s (hh u)) = some ((0, v), mk E c s (hh u')) := b1
    obtain ⟨bt, e1, e2, e3⟩ := c16x X (E := E) (d + (4 + 4 * m + 1)) c s hM hW (P T + hop C B n T (m + 1))
    rw [show d + (4 + 4 * m + 1) + 1 = d + (4 + 4 * m + 2) by omega] at e1
    have hb := hop_b (n := n) (T := T) ⟨hB0, hB⟩ hC0 (m + 1)
    have wT := hW T hT
    have go : Call prog clsT X (d + (3 + 4 * (m + 1))) 14 [(2, 65), (0, ((n - (m + 1) : Nat) : Int)), (0, 0), (0, 0)] (mk E c s (hh u)) = if bt = 0 then Ev prog clsT X (d + (4 + 4 * m + 2)) mc14 45 [(2, 65), (0, (a : Int)), (0, 0), (0, 0), (0, 0), (0, 0), (3, 0), (3, 0)] [] (mk E c s (hh u)) else some ((0, 0), mk E c s (hh u)) := by
      rw [← hav, show d + (3 + 4 * (m + 1)) = (d + (4 + 4 * m + 2)) + 1 by omega, rc14_, hM.1, cmp_lt, if_pos (by omega), cmp_ge, if_neg (by decide), inb_is, if_pos a3, Int.toNat_natCast, cmp_lt, hM.2.2.1 a ha, if_pos (by omega), cmp_ne, if_neg (fun w => w rfl), hM.2.1, inb_is, if_pos t11, inb_is, if_pos a4, Int.toNat_natCast, wT.1, hM.2.2.2.2.1 a (by omega), na, w32_of (by omega) (by omega), call0 e1, push0, r14_38, cmp_eq]
    rw [go]
    by_cases z : bt = 0
    · rw [if_pos z]
      refine ⟨v, u', b1, b2, b3, ?_⟩
      rw [cpO_s, ← hav, hC a ha, cpI_some (cnU_some (by rw [hf]; omega))]
      exact b4
    · rw [if_neg z]
      refine ⟨0, u, rfl, nb_refl u, Or.inl rfl, fun w => absurd w (by decide), fun w => absurd (e3.2 ?_) z⟩
      have k := cpO_up hT h90 h93 hZ hC0 (m + 1) P F w
      refine ⟨k.1, fun y hy hne => ?_⟩
      by_cases rv : g 90 y ≠ 0 ∧ g 93 y = 0
      · exact k.2 y hy hne rv.1 rv.2
      · have := (hW y hy).2.2.2.2.2.2 rv
        have := k.1
        omega
/-- the best prize -/
def bstZ (Z : Nat → Int) : Int := if Z 0 < (if Z 1 < Z 2 then Z 2 else Z 1) then (if Z 1 < Z 2 then Z 2 else Z 1) else Z 0
theorem bstZ_b {Z : Nat → Int} {M : Int} (h : ∀ i, i < 3 → 0 ≤ Z i ∧ Z i ≤ M) : (∀ i, i < 3 → 0 ≤ Z i ∧ Z i ≤ bstZ Z) ∧ bstZ Z ≤ M := by
  have h0 := h 0 (by decide)
  have h1 := h 1 (by decide)
  have h2 := h 2 (by decide)
  refine ⟨fun i hi => ⟨(h i hi).1, ?_⟩, ?_⟩
  · have : i = 0 ∨ i = 1 ∨ i = 2 := by omega
    unfold bstZ
    rcases this with q | q | q <;> subst q <;> split <;> split <;> omega
  · unfold bstZ
    split <;> split <;> omega
theorem c13x {n T a : Nat} {sz : Nat → Nat} {nm : Nat → Nat → Nat} (ha : a < n) (hn : n ≤ 3) (hs : sz a ≤ 5) (hZ : ∀ i, i < 3 → 0 ≤ g 142 i ∧ g 142 i ≤ 99) (d c s : Nat) {u : Gm} (h7 : u 65 7 = T) (h68 : u 68 a = sz a) (h69 : ∀ i, i < sz a → u 69 (5 * a + i) = nm a i) (h71 : ∀ i, i < 3 → u 71 i = g 142 i) : Call prog clsT X (d + 1) 13 [(2, 65), (0, (a : Int))] (mk E c s (hh u)) = some ((0, bstZ (g 142) * mn (cnU (nm a) (fun _ => false) (sz a) T) 3), mk E c s (hh u)) := by
  have a3 : 0 ≤ (a : Int) ∧ (a : Int) < ((3 : Nat) : Int) := by omega
  have bb := bstZ_b hZ
  have b0 : 0 ≤ bstZ (g 142) := by have := bb.1 0 (by decide); omega
  have loop : ∀ (p i : Nat), i + p = sz a → Ev prog clsT X d mc13 19 [(2, 65), (0, (a : Int)), (0, bstZ (g 142)), (0, cnU (nm a) (fun _ => false) i T), (0, (i : Int))] [] (mk E c s (hh u)) = some ((0, bstZ (g 142) * mn (cnU (nm a) (fun _ => false) (sz a) T) 3), mk E c s (hh u)) := by
    intro p
    induction p with
    | zero =>
      intro i hi
      have hi : i = sz a := by omega
      subst hi
      have c0 := cnU_0 (nm a) (fun _ => false) (sz a) T
      have m3 : 0 ≤ mn (cnU (nm a) (fun _ => false) (sz a) T) 3 ∧ mn (cnU (nm a) (fun _ => false) (sz a) T) 3 ≤ 3 := by unfold mn; split <;> omega
      have m1 := Int.mul_nonneg b0 m3.1
      have m2 := Int.mul_le_mul bb.2 m3.2 m3.1 (by decide)
      rw [r13_19, inb_is, if_pos a3, Int.toNat_natCast, h68, cmp_ge, if_pos (Int.le_refl _)]
      show some (((0 : Nat), w32 (bstZ (g 142) * mn (cnU (nm a) (fun _ => false) (sz a) T) 3)), mk E c s (hh u)) = _
      rw [w32_of (by omega) (by omega)]
    | succ p ih =>
      intro i hi
      have e0 : w32 (w32 ((a : Int) * 5) + (i : Int)) = ((5 * a + i : Nat) : Int) := by
        rw [w32_of (x := (a : Int) * 5) (by omega) (by omega), w32_of (by omega) (by omega)]; omega
      have i15 : 0 ≤ ((5 * a + i : Nat) : Int) ∧ ((5 * a + i : Nat) : Int) < ((15 : Nat) : Int) := by omega
      have hst : ∀ v, v = bI (((fun _ => false) : Nat → Bool) i = false ∧ nm a i = T) → w32 (cnU (nm a) (fun _ => false) i T + v) = cnU (nm a) (fun _ => false) (i + 1) T := fun v hv => sm_step 1 hv (fun j _ => bI_b _) (by omega) (by omega)
      rw [r13_19, inb_is, if_pos a3, Int.toNat_natCast, h68, cmp_ge, if_neg (by omega), e0, inb_is, if_pos i15, Int.toNat_natCast, h69 i (by omega), h7, cmp_ne, w32_succ (by omega)]
      by_cases z : (nm a i : Int) = (T : Int)
      · rw [if_neg (fun w => w z), hst 1 (bI_t ⟨rfl, by omega⟩).symm]
        exact ih (i + 1) (by omega)
      · rw [if_pos z, hst 0 (bI_f (fun w => z (by have := w.2; omega))).symm]
        exact ih (i + 1) (by omega)
  rw [rc13_, h71 0 (by decide), h71 1 (by decide), h71 2 (by decide)]
  exact loop (sz a) 0 (by omega)
/-- canLead -/
theorem c12x {N : Int} (h : ST N E g) {n T : Nat} {sz : Nat → Nat} {nm : Nat → Nat → Nat} {C : Nat → Nat → Int} (hn : n ≤ 3) (hT : T < 10) (h90 : g 90 T ≠ 0) (h93 : g 93 T = 0) (hsz : ∀ k, k < n → 1 ≤ sz k ∧ sz k ≤ 5) (hnm : ∀ k i, k < n → i < sz k → nm k i < 11 ∧ (nm k i < 10 → g 90 (nm k i) ≠ 0 ∧ g 93 (nm k i) = 0)) (hC : ∀ k, k < n → C k = cnU (nm k) (fun _ => false) (sz k)) (hC0 : ∀ k x, 0 ≤ C k x) {P F : Nat → Int} (d c s : Nat) {u : Gm} (hu : onQ g u) (h2 : u 65 2 = n) (h68 : ∀ k, k < n → u 68 k = sz k) (h69 : ∀ k i, k < n → i < sz k → u 69 (5 * k + i) = nm k i) (hW : cpW g 9 P F u) : ∃ v u', Call prog clsT X (d + 16) 12 [(2, 65), (0, (T : Int)), (2, 60)] (mk E c s (hh u)) = some ((0, v), mk E c s (hh u')) ∧ onQ g u' ∧ (v = 0 ∨ v = 1) ∧ (v = 1 ↔ cpO C (g 142) n (cpL g T) n P F) := by
  have hZ : ∀ i, i < 3 → 0 ≤ g 142 i ∧ g 142 i ≤ 99 := fun i _ => h.1.1.2.2.2.2.1.2.1 i
  have e60 := h.1.1.2.2.2.2.1.1
  have bb := bstZ_b hZ
  have b0 : 0 ≤ bstZ (g 142) := by have := bb.1 0 (by decide); omega
  have n4 : 0 ≤ (n : Int) ∧ (n : Int) < ((4 : Nat) : Int) := by omega
  -- the state of the loop
  have loop : ∀ (p m : Nat) (w1 w2 : MV) (x3 : Int) (v : Gm), m + p = n → x3 = (p : Int) - 1 → onQ g v → v 65 2 = n → v 65 7 = T → (∀ k, k < n → v 68 k = sz k) → (∀ k i, k < n → i < sz k → v 69 (5 * k + i) = nm k i) → (∀ i, i < 3 → v 71 i = g 142 i) → cpW g 9 P F v → (∀ k, p ≤ k → k ≤ n → v 70 k = hop C (bstZ (g 142)) n T (n - k)) → ∃ r u', Ev prog clsT X (d + 15) mc12 21 [(2, 65), w1, w2, (0, x3)] [] (mk E c s (hh v)) = some ((0, r), mk E c s (hh u')) ∧ onQ g u' ∧ (r = 0 ∨ r = 1) ∧ (r = 1 ↔ cpO C (g 142) n (cpL g T) n P F) := by
    intro p
    induction p with
    | zero =>
      intro m w1 w2 x3 v hm hx hv v2 v7 v68 v69 v71 vW v70
      obtain ⟨r, u', b1, b2, b3, b4⟩ := c14x X (E := E) hn hT h90 h93 hsz hnm bb.1 bb.2 hC hC0 n (Nat.le_refl n) P F v (d + (12 - 4 * n)) c s ⟨v2, v7, v68, v69, fun k hk => v70 k (Nat.zero_le k) hk, v71⟩ (cpW_le vW (by omega))
      rw [show d + (12 - 4 * n) + (3 + 4 * n) = d + 15 by omega, Nat.sub_self] at b1
      have b1 : Call prog clsT X (d + 15) 14 [(2, 65), (0, 0), (0, 0), (0, 0)] (mk E c s (hh v)) = _ := b1
      refine ⟨r, u', ?_, fun x i hs => ?_, b3, b4⟩
      · rw [r12_21, cmp_lt, if_pos (by omega), call0 b1, push0, r12_44, ret01 b3]
      · rw [b2 x i (fun z => by rcases z.1 with w | w <;> rw [w] at hs <;> cases hs)]
        exact hv x i hs
    | succ p ih =>
      intro m w1 w2 x3 v hm hx hv v2 v7 v68 v69 v71 vW v70
      have hx : x3 = (p : Int) := by omega
      subst hx
      have hp : p < n := by omega
      have p4 : 0 ≤ ((p + 1 : Nat) : Int) ∧ ((p + 1 : Nat) : Int) < ((4 : Nat) : Int) := by omega
      have q4 : 0 ≤ (p : Int) ∧ (p : Int) < ((4 : Nat) : Int) := by omega
      have s13 := c13x X (E := E) (a := p) (T := T) hp hn (hsz p hp).2 hZ (d + 14) c s v7 (v68 p hp) (fun i hi => v69 p i hp hi) v71
      have s13 : Call prog clsT X (d + 15) 13 [(2, 65), (0, (p : Int))] (mk E c s (hh v)) = _ := s13
      have hb := hop_b (n := n) (T := T) ⟨b0, bb.2⟩ hC0 (n - (p + 1))
      have c0 := cnU_0 (nm p) (fun _ => false) (sz p) T
      have m3 : 0 ≤ mn (cnU (nm p) (fun _ => false) (sz p) T) 3 ∧ mn (cnU (nm p) (fun _ => false) (sz p) T) 3 ≤ 3 := by unfold mn; split <;> omega
      have m1 := Int.mul_nonneg b0 m3.1
      have m2 := Int.mul_le_mul bb.2 m3.2 m3.1 (by decide)
      have hs : hop C (bstZ (g 142)) n T (n - (p + 1)) + bstZ (g 142) * mn (cnU (nm p) (fun _ => false) (sz p) T) 3 = hop C (bstZ (g 142)) n T (n - p) := by
        rw [show n - p = (n - (p + 1)) + 1 by omega]
        show _ = hop C (bstZ (g 142)) n T (n - (p + 1)) + bstZ (g 142) * mn (C (n - (n - (p + 1) + 1)) T) 3
        rw [show n - (n - (p + 1) + 1) = p by omega, hC p hp]
      rw [r12_21, cmp_lt, if_neg (by omega), w32_succ (by omega), inb_is, if_pos p4, call0 s13, push0, r12_35, inb_is, if_pos q4, Int.toNat_natCast, Int.toNat_natCast, v70 (p + 1) (Nat.le_refl _) (by omega), hs, w32_of (x := hop C (bstZ (g 142)) n T (n - p)) (by omega) (by omega), w32_of (x := (p : Int) + -1) (by omega) (by omega)]
      refine ih (m + 1) _ _ _ _ (by omega) (by omega) (onQ_up hv rfl) ?_ ?_ (fun k hk => ?_) (fun k i hk hi => ?_) (fun i hi => ?_) (fun x hx => ?_) (fun k h1 h2 => ?_)
      · rw [up_cell (by decide)]; exact v2
      · rw [up_cell (by decide)]; exact v7
      · rw [up_cell (by decide)]; exact v68 k hk
      · rw [up_cell (by decide)]; exact v69 k i hk hi
      · rw [up_cell (by decide)]; exact v71 i hi
      · rw [up_cell (by decide), up_cell (by decide)]; exact vW x hx
      · rw [up_at]
        by_cases w : k = p
        · rw [if_pos w, w]
        · rw [if_neg w]; exact v70 k (by omega) h2
  have n1 : w32 ((n : Int) - 1) = (n : Int) - 1 := w32_of (by omega) (by omega)
  rw [rc12_, h2, inb_is, if_pos n4, Int.toNat_natCast, n1]
  have c71 : ∀ w : Gm, ∀ x i, x ≠ 71 → cpy w 60 71 3 x i = w x i := fun w x i hx => cpy_cell hx
  refine loop n 0 _ _ _ _ (by omega) rfl (onQ_up (fun x i hs => ?_) rfl) ?_ ?_ (fun k hk => ?_) (fun k i hk hi => ?_) (fun i hi => ?_) (fun x hx => ?_) (fun k k1 k2 => ?_)
  · rw [c71 _ x i (fun z => by rw [z] at hs; cases hs)]
    exact onQ_up hu rfl x i hs
  · rw [up_cell (by decide), c71 _ _ _ (by decide), up_place (by decide)]; exact h2
  · rw [up_cell (by decide), c71 _ _ _ (by decide), up_same]
  · rw [up_cell (by decide), c71 _ _ _ (by decide), up_cell (by decide)]; exact h68 k hk
  · rw [up_cell (by decide), c71 _ _ _ (by decide), up_cell (by decide)]; exact h69 k i hk hi
  · rw [up_cell (by decide)]
    show (if 71 = 71 ∧ 0 ≤ i ∧ i < 0 + 3 then up u 65 7 T 60 (0 + (i - 0)) else up u 65 7 T 71 i) = g 142 i
    rw [if_pos ⟨rfl, Nat.zero_le i, by omega⟩, Nat.zero_add, Nat.sub_zero, up_cell (by decide), hu 60 i rfl, e60]
  · rw [up_cell (by decide), up_cell (by decide), c71 _ _ _ (by decide), c71 _ _ _ (by decide), up_cell (by decide), up_cell (by decide)]; exact hW x hx
  · have : k = n := by omega
    rw [up_at, if_pos this, this, Nat.sub_self]
    rfl
end DEAL
