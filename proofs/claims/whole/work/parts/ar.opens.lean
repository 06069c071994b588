/-! Part ar: the lists whole. -/
theorem sm_bI_split {p q r : Nat → Prop} [DecidablePred p] [DecidablePred q] [DecidablePred r] (n : Nat) (hp : ∀ e, q e ↔ (p e ∧ r e)) {q' : Nat → Prop} [DecidablePred q'] (hq : ∀ e, q' e ↔ (¬ p e ∧ r e)) : sm (fun e => bI (q e)) n + sm (fun e => bI (q' e)) n = sm (fun e => bI (r e)) n := by
  rw [sm_add]
  refine sm_congr (fun e _ => ?_)
  by_cases z : r e
  · by_cases y : p e
    · rw [bI_t ((hp e).2 ⟨y, z⟩), bI_f (fun v => ((hq e).1 v).1 y), bI_t z]; rfl
    · rw [bI_f (fun v => y ((hp e).1 v).1), bI_t ((hq e).2 ⟨y, z⟩), bI_t z]; rfl
  · rw [bI_f (fun v => z ((hp e).1 v).2), bI_f (fun v => z ((hq e).1 v).2), bI_f z]; rfl
theorem idx5 {a i : Nat} (ha : a < 3) (hi : i < 5) : w32 (w32 (5 * (a : Int)) + (i : Int)) = ((5 * a + i : Nat) : Int) := by
  rw [w32_of (x := 5 * (a : Int)) (by omega) (by omega), w32_of (by omega) (by omega)]; omega
section OPENS2
variable (X : MExt) {E : List (Nat × Nat)} {g : Gm}
/-- listOpenEntries -/
theorem c128x {N : Int} (h : ST N E g) {w : Nat → Int} (ev : evW X E g w) {k T cl : Nat} (hk : k < 10) (h3 : cl ≤ 3) (d c s : Nat) {u : Gm} (hu : onQ g u) (hcl : u 65 2 = cl) : ∃ u', Call prog clsT X (d + 6) 128 [(2, 0), (0, (k : Int)), (0, (T : Int))] (mk E c s (hh u)) = some ((0, nK g w k), mk E c s (hh u')) ∧ lsQ cl u u' ∧ (cl < 3 → nK g w k ≤ 5 → nmL g w u' cl k (nK g w k).toNat) := by
  have hle := h.1.1.1.rn.le
  obtain ⟨f1, u1, a1, a2, a3, a4⟩ := c128_loop X h ev (T := T) hk h3 d c s 0 (fun e => g 100 e = T) (Or.inl rfl) (fun e => by rw [if_pos rfl]) (fun _ => 0) 0 (by decide) (nE g) 0 0 (3, 0) u (by omega) hu hcl rfl (fun _ _ => ⟨fun x => rfl, fun j hj => absurd hj (Nat.not_lt_zero _)⟩)
  have b1 := sm_bound (f := fun e => bI (g 100 e = T ∧ inK g w (k : Int) e)) (a := 0) (b := 1) (n := nE g) (fun j _ => bI_b _)
  obtain ⟨f2, u2, b1, b2, b3, b4⟩ := c128_loop X h ev (T := T) hk h3 d c s 1 (fun e => ¬ (g 100 e = T)) (Or.inr rfl) (fun e => by rw [if_neg (by decide)]) (fun x => sm (fun e => bI (g 100 e = T ∧ inK g w (k : Int) e ∧ phi g (g 100 e).toNat = x)) (nE g)) f1 (by omega) (nE g) 0 f1 (3, 0) u1 (by omega) (onQ_ls hu a2) ((a2.1 65 2 (by decide) (by decide) (by decide)).trans hcl) (by show (f1 : Int) = f1 + 0; omega) (fun c1 c2 => by
    obtain ⟨n1, n2⟩ := a4 c1 c2
    refine ⟨fun x => ?_, n2⟩
    rw [n1 x]
    show 0 + _ = _ + 0
    omega)
  have e2 : (f2 : Int) = nK g w k := by
    rw [b3, a3]
    have := sm_bI_split (p := fun e => g 100 e = T) (q := fun e => g 100 e = T ∧ inK g w (k : Int) e) (q' := fun e => ¬ (g 100 e = T) ∧ inK g w (k : Int) e) (r := fun e => inK g w (k : Int) e) (nE g) (fun e => Iff.rfl) (fun e => Iff.rfl)
    unfold nK
    omega
  refine ⟨u2, ?_, lsQ_tr a2 b2, fun c1 c2 => ?_⟩
  · have a1 : Ev prog clsT X (d + 5) mc128 9 [(2, 0), (0, (k : Int)), (0, (T : Int)), (0, 0), (0, 0), (0, 0), (3, 0)] [] (mk E c s (hh u)) = Ev prog clsT X (d + 5) mc128 4 [(2, 0), (0, (k : Int)), (0, (T : Int)), (0, (f1 : Int)), (0, 1), (0, (nE g : Int)), (3, 0)] [] (mk E c s (hh u1)) := a1
    have b1 : Ev prog clsT X (d + 5) mc128 9 [(2, 0), (0, (k : Int)), (0, (T : Int)), (0, (f1 : Int)), (0, 1), (0, 0), (3, 0)] [] (mk E c s (hh u1)) = Ev prog clsT X (d + 5) mc128 4 [(2, 0), (0, (k : Int)), (0, (T : Int)), (0, (f2 : Int)), (0, 2), (0, (nE g : Int)), (3, 0)] [] (mk E c s (hh u2)) := b1
    rw [rc128_, r128_4, cmp_ge, if_neg (by decide), a1, r128_4, cmp_ge, if_neg (by decide), b1, r128_4, cmp_ge, if_pos (by decide), e2]
  · obtain ⟨n1, n2⟩ := b4 c1 (by omega)
    rw [show (nK g w k).toNat = f2 by omega]
    refine ⟨fun x => ?_, n2⟩
    rw [n1 x]
    exact sm_bI_split (p := fun e => g 100 e = T) (q := fun e => g 100 e = T ∧ inK g w (k : Int) e ∧ phi g (g 100 e).toNat = x) (q' := fun e => ¬ (g 100 e = T) ∧ inK g w (k : Int) e ∧ phi g (g 100 e).toNat = x) (r := fun e => inK g w (k : Int) e ∧ phi g (g 100 e).toNat = x) (nE g) (fun e => Iff.rfl) (fun e => Iff.rfl)
/-- what stands of the first k classes -/
def opC (g : Gm) (w : Nat → Int) (k : Nat) (u : Gm) : Prop := u 65 2 = lnK (oK g w) k ∧ lnK (oK g w) k ≤ 3 ∧ ∀ q, q < lnK (oK g w) k → lwK (oK g w) k q < 10 ∧ 1 ≤ oK g w (lwK (oK g w) k q) ∧ oK g w (lwK (oK g w) k q) ≤ 5 ∧ u 68 q = oK g w (lwK (oK g w) k q) ∧ nmL g w u q (lwK (oK g w) k q) (oK g w (lwK (oK g w) k q))
theorem nmL_of {w : Nat → Int} {u u' : Gm} {q k n : Nat} (h : nmL g w u q k n) (e : ∀ j, j < n → u' 69 (5 * q + j) = u 69 (5 * q + j)) : nmL g w u' q k n := by
  refine ⟨fun x => ?_, fun j hj => ?_⟩
  · rw [← h.1 x]
    exact sm_congr (fun j hj => by rw [e j hj])
  · rw [e j hj]
    exact h.2 j hj
/-- listOpenClasses -/
theorem c127x {N : Int} (h : ST N E g) {w : Nat → Int} (ev : evW X E g w) {T : Nat} (d c s : Nat) {u : Gm} (hu : onQ g u) : ∃ u', onQ g u' ∧ ((Call prog clsT X (d + 7) 127 [(2, 0), (0, (T : Int))] (mk E c s (hh u)) = some ((0, 0), mk E c s (hh u')) ∧ ∃ k, k < 10 ∧ badK (oK g w) k) ∨ (Call prog clsT X (d + 7) 127 [(2, 0), (0, (T : Int))] (mk E c s (hh u)) = some ((0, 1), mk E c s (hh u')) ∧ (¬ ∃ k, k < 10 ∧ badK (oK g w) k) ∧ opC g w 10 u')) := by
  have e39 : ∀ k : Nat, g 39 k = g 130 k := h.1.1.2.2.1.2.2.2.2.2.2.1
  have b130 := h.1.1.2.2.1.2.2.2.2.2.2.2.1
  have loop : ∀ (p k : Nat) (w3 : MV) (u1 : Gm), k + p = 10 → onQ g u1 → (∀ j, j < k → ¬ badK (oK g w) j) → opC g w k u1 → ∃ u', onQ g u' ∧ ((Ev prog clsT X (d + 6) mc127 6 [(2, 0), (0, (T : Int)), (0, (k : Int)), w3] [] (mk E c s (hh u1)) = some ((0, 0), mk E c s (hh u')) ∧ ∃ k, k < 10 ∧ badK (oK g w) k) ∨ (Ev prog clsT X (d + 6) mc127 6 [(2, 0), (0, (T : Int)), (0, (k : Int)), w3] [] (mk E c s (hh u1)) = some ((0, 1), mk E c s (hh u')) ∧ (¬ ∃ k, k < 10 ∧ badK (oK g w) k) ∧ opC g w 10 u')) := by
    intro p
    induction p with
    | zero =>
      intro k w3 u1 hk hu1 hb ho
      have hk : k = 10 := by omega
      subst hk
      refine ⟨u1, hu1, Or.inr ⟨?_, fun ⟨j, j1, j2⟩ => hb j j1 j2, ho⟩⟩
      rw [r127_6, cmp_ge, if_pos (by decide)]
    | succ p ih =>
      intro k w3 u1 hk hu1 hb ho
      have hk10 : k < 10 := by omega
      have i10 : 0 ≤ (k : Int) ∧ (k : Int) < ((10 : Nat) : Int) := by omega
      have bk := b130 k hk10
      obtain ⟨o1, o2, o3⟩ := ho
      -- nothing of this class
      have skip : ∀ (w3 : MV) (u2 : Gm), oK g w k = 0 → onQ g u2 → lsQ (lnK (oK g w) k) u1 u2 → ∃ u', onQ g u' ∧ ((Ev prog clsT X (d + 6) mc127 40 [(2, 0), (0, (T : Int)), (0, (k : Int)), w3] [] (mk E c s (hh u2)) = some ((0, 0), mk E c s (hh u')) ∧ ∃ k, k < 10 ∧ badK (oK g w) k) ∨ (Ev prog clsT X (d + 6) mc127 40 [(2, 0), (0, (T : Int)), (0, (k : Int)), w3] [] (mk E c s (hh u2)) = some ((0, 1), mk E c s (hh u')) ∧ (¬ ∃ k, k < 10 ∧ badK (oK g w) k) ∧ opC g w 10 u')) := fun w3 u2 hz hu2 hl => by
        rw [r127_40, w32_succ (by omega)]
        have e1 : lnK (oK g w) (k + 1) = lnK (oK g w) k := by rw [lnK_s, if_neg (by omega)]
        have e2 : lwK (oK g w) (k + 1) = lwK (oK g w) k := by rw [lwK_s, if_neg (by omega)]
        refine ih (k + 1) w3 u2 (by omega) hu2 (fun j hj => ?_) ?_
        · by_cases z : j = k
          · subst z
            intro v
            rcases v with v | v <;> omega
          · exact hb j (by omega)
        · unfold opC
          rw [e1, e2, hl.1 65 2 (by decide) (by decide) (by decide)]
          refine ⟨o1, o2, fun q hq => ?_⟩
          obtain ⟨x1, x2, x3, x4, x5⟩ := o3 q hq
          refine ⟨x1, x2, x3, ?_, nmL_of x5 (fun j hj => hl.2 _ (by omega))⟩
          rw [hl.1 68 q (by decide) (by decide) (by decide)]
          exact x4
      rw [r127_6, cmp_ge, if_neg (by omega), inb_is, if_pos i10, Int.toNat_natCast, cmp_eq, hu1 39 k rfl, e39]
      by_cases z : g 130 k = -1
      case neg =>
        rw [if_neg z]
        exact skip _ u1 (if_neg (by omega)) hu1 (lsQ_refl _ u1)
      have hoK : oK g w k = (nK g w k).toNat := if_pos (by omega)
      have n0 := nK_0 g w k
      obtain ⟨u2, a1, a2, a3⟩ := c128x X h ev (T := T) hk10 o2 d c s hu1 o1
      have hu2 := onQ_ls hu1 a2
      have cl2 : u2 65 2 = lnK (oK g w) k := (a2.1 65 2 (by decide) (by decide) (by decide)).trans o1
      rw [if_pos z, call0 a1, push0, r127_21, cmp_gt]
      by_cases z5 : 5 < nK g w k
      · rw [if_pos z5]
        exact ⟨u2, hu2, Or.inl ⟨rfl, k, hk10, Or.inl (by omega)⟩⟩
      rw [if_neg z5, cmp_le]
      by_cases z0 : nK g w k ≤ 0
      · rw [if_pos z0, cmp_le, if_pos z0]
        exact skip _ u2 (by omega) hu2 a2
      rw [if_neg z0, cmp_lt, cl2]
      by_cases z3 : (lnK (oK g w) k : Int) < 3
      case neg =>
        rw [if_neg z3]
        exact ⟨u2, hu2, Or.inl ⟨rfl, k, hk10, Or.inr ⟨by omega, by omega⟩⟩⟩
      have c3 : 0 ≤ (lnK (oK g w) k : Int) ∧ (lnK (oK g w) k : Int) < ((3 : Nat) : Int) := by omega
      have s11 : Call prog clsT X (d + 6) 11 [(2, 65), (0, nK g w k)] (mk E c s (hh u2)) = some ((3, 0), mk E c s (hh (up (up u2 68 (lnK (oK g w) k) (nK g w k)) 65 2 ((lnK (oK g w) k + 1 : Nat) : Int)))) := by
        rw [show d + 6 = (d + 5) + 1 from rfl, rc11_, cl2, cmp_ge, if_neg (by omega), inb_is, if_pos c3, Int.toNat_natCast, w32_succ (by omega)]
      have nm2 := a3 (by omega) (by omega)
      have e1 : lnK (oK g w) (k + 1) = lnK (oK g w) k + 1 := by rw [lnK_s, if_pos (by omega)]
      have e2 : lwK (oK g w) (k + 1) = fun q => if q = lnK (oK g w) k then k else lwK (oK g w) k q := by rw [lwK_s, if_pos (by omega)]
      rw [if_pos z3, cmp_le, if_neg z0, call3 s11, push3, r127_40, w32_succ (by omega)]
      refine ih (k + 1) _ _ (by omega) (onQ_up (onQ_up hu2 rfl) rfl) (fun j hj => ?_) ?_
      · by_cases y : j = k
        · subst y
          intro v
          rcases v with v | v <;> omega
        · exact hb j (by omega)
      · unfold opC
        rw [e1, e2, up_same]
        refine ⟨rfl, by omega, fun q hq => ?_⟩
        dsimp only
        by_cases y : q = lnK (oK g w) k
        · rw [if_pos y, hoK]
          refine ⟨hk10, by omega, by omega, ?_, ?_⟩
          · rw [up_cell (by decide), up_at, if_pos y]; omega
          · rw [y]
            exact nmL_of nm2 (fun j hj => by rw [up_cell (by decide), up_cell (by decide)])
        · rw [if_neg y]
          obtain ⟨x1, x2, x3, x4, x5⟩ := o3 q (by omega)
          refine ⟨x1, x2, x3, ?_, nmL_of x5 (fun j hj => ?_)⟩
          · rw [up_cell (by decide), up_at, if_neg y, a2.1 68 q (by decide) (by decide) (by decide)]
            exact x4
          · rw [up_cell (by decide), up_cell (by decide)]
            exact a2.2 _ (by omega)
  obtain ⟨u', a1, a2⟩ := loop 10 0 (3, 0) (up u 65 2 0) (by omega) (onQ_up hu rfl) (fun j hj => absurd hj (Nat.not_lt_zero _)) ⟨by rw [up_same]; rfl, Nat.zero_le _, fun q hq => absurd hq (Nat.not_lt_zero _)⟩
  refine ⟨u', a1, ?_⟩
  rw [show d + 7 = (d + 6) + 1 from rfl, rc127_]
  exact a2
/-- names of the reference's list number q -/
def nmR (g : Gm) (w : Nat → Int) (u : Gm) (q k n : Nat) : Prop := (∀ x : Nat, sm (fun j => bI (phi g (g 100 (u 147 (5 * q + j)).toNat).toNat = x)) n = cK g w k x) ∧ ∀ j, j < n → 0 ≤ u 147 (5 * q + j) ∧ u 147 (5 * q + j) < nE g
def opM (g : Gm) (w : Nat → Int) (k : Nat) (u : Gm) : Prop := u 89 72 = lnK (oK g w) k ∧ lnK (oK g w) k ≤ 3 ∧ ∀ q, q < lnK (oK g w) k → lwK (oK g w) k q < 10 ∧ 1 ≤ oK g w (lwK (oK g w) k q) ∧ oK g w (lwK (oK g w) k q) ≤ 5 ∧ u 146 q = oK g w (lwK (oK g w) k q) ∧ nmR g w u q (lwK (oK g w) k q) (oK g w (lwK (oK g w) k q))
theorem nmR_of {w : Nat → Int} {u u' : Gm} {q k n : Nat} (h : nmR g w u q k n) (e : ∀ j, j < n → u' 147 (5 * q + j) = u 147 (5 * q + j)) : nmR g w u' q k n := by
  refine ⟨fun x => ?_, fun j hj => ?_⟩
  · rw [← h.1 x]
    exact sm_congr (fun j hj => by rw [e j hj])
  · rw [e j hj]
    exact h.2 j hj
/-- opens -/
theorem m233x {N : Int} (h : ST N E g) {w : Nat → Int} (ev : evW X E g w) (d c s : Nat) {u : Gm} (hu : onQ g u) : ∃ u', onQ g u' ∧ ((Call prog clsT X (d + 9) 233 [(2, 89)] (mk E c s (hh u)) = some ((0, 0), mk E c s (hh u')) ∧ ∃ k, k < 10 ∧ badK (oK g w) k) ∨ (Call prog clsT X (d + 9) 233 [(2, 89)] (mk E c s (hh u)) = some ((0, 1), mk E c s (hh u')) ∧ (¬ ∃ k, k < 10 ∧ badK (oK g w) k) ∧ opM g w 10 u')) := by
  have hre := h.1.1.1
  have hle := hre.rn.le
  have hn2 := hre.n2
  have b130 := h.1.1.2.2.1.2.2.2.2.2.2.2.1
  -- one class
  have inner : ∀ (k : Nat), k < 10 → g 130 k < 0 → ∀ (cl : Nat), cl ≤ 3 → lnK (oK g w) k = cl → ∀ (p i n : Nat) (u1 u0 : Gm), i + p = nE g → onQ g u1 → u1 89 72 = cl → (∀ y j, ¬ (117 ≤ y ∧ y ≤ 126) → ¬ (y = 147 ∧ 5 * cl ≤ j) → u1 y j = u0 y j) → (n : Int) = sm (fun e => bI (inK g w (k : Int) e)) i → n ≤ 5 → (0 < n → cl < 3) → ((∀ x : Nat, sm (fun j => bI (phi g (g 100 (u1 147 (5 * cl + j)).toNat).toNat = x)) n = sm (fun e => bI (inK g w (k : Int) e ∧ phi g (g 100 e).toNat = x)) i) ∧ ∀ j, j < n → 0 ≤ u1 147 (5 * cl + j) ∧ u1 147 (5 * cl + j) < nE g) → (∃ u', onQ g u' ∧ Ev prog clsT X (d + 8) mc233 23 [(2, 89), (0, (k : Int)), (0, (n : Int)), (0, (i : Int))] [] (mk E c s (hh u1)) = some ((0, 0), mk E c s (hh u')) ∧ badK (oK g w) k) ∨ (∃ u', onQ g u' ∧ Ev prog clsT X (d + 8) mc233 23 [(2, 89), (0, (k : Int)), (0, (n : Int)), (0, (i : Int))] [] (mk E c s (hh u1)) = Ev prog clsT X (d + 8) mc233 5 [(2, 89), (0, ((k + 1 : Nat) : Int)), (0, nK g w k), (0, (nE g : Int))] [] (mk E c s (hh (if nK g w k = 0 then u' else up (up u' 146 cl (nK g w k)) 89 72 ((cl + 1 : Nat) : Int)))) ∧ nK g w k ≤ 5 ∧ (0 < nK g w k → cl < 3) ∧ u' 89 72 = cl ∧ (∀ y j, ¬ (117 ≤ y ∧ y ≤ 126) → ¬ (y = 147 ∧ 5 * cl ≤ j) → u' y j = u0 y j) ∧ nmR g w u' cl k (nK g w k).toNat) := by
    intro k hk hneg cl hcl hln p
    have hoK : oK g w k = (nK g w k).toNat := if_pos hneg
    induction p with
    | zero =>
      intro i n u1 u0 hi hu1 h72 hfr hn h5 h3 hN
      have hi : i = nE g := by omega
      subst hi
      have hnk : (n : Int) = nK g w k := hn
      refine Or.inr ⟨u1, hu1, ?_, by omega, fun z => h3 (by omega), h72, hfr, ?_⟩
      · rw [r233_23, hu1 89 10 rfl, hn2, cmp_ge, if_pos (Int.le_refl _), cmp_ne, ← hnk, w32_succ (by omega)]
        by_cases z : (n : Int) = 0
        · rw [if_neg (fun v => v z), if_pos z]
        · have c3 : 0 ≤ (cl : Int) ∧ (cl : Int) < ((3 : Nat) : Int) := by have := h3 (by omega); omega
          rw [if_pos z, if_neg z, h72, inb_is, if_pos c3, Int.toNat_natCast, w32_succ (by omega)]
      · rw [← hnk, Int.toNat_natCast]
        exact ⟨fun x => hN.1 x, hN.2⟩
    | succ p ih =>
      intro i n u1 u0 hi hu1 h72 hfr hn h5 h3 hN
      have hi2 : i < nE g := by omega
      have i40 : 0 ≤ (i : Int) ∧ (i : Int) < ((40 : Nat) : Int) := by omega
      have i6 : i < 1000000 := by omega
      have nx : sm (fun e => bI (inK g w (k : Int) e)) (i + 1) = sm (fun e => bI (inK g w (k : Int) e)) i + bI (inK g w (k : Int) i) := rfl
      have hmono := sm_le (f := fun e => bI (inK g w (k : Int) e)) (fun i => bI_nn _) (show i + 1 ≤ nE g by omega)
      have skip : ∀ u2 : Gm, ¬ inK g w (k : Int) i → onQ g u2 → rfQ u1 u2 → (∃ u', onQ g u' ∧ Ev prog clsT X (d + 8) mc233 23 [(2, 89), (0, (k : Int)), (0, (n : Int)), (0, ((i + 1 : Nat) : Int))] [] (mk E c s (hh u2)) = some ((0, 0), mk E c s (hh u')) ∧ badK (oK g w) k) ∨ (∃ u', onQ g u' ∧ Ev prog clsT X (d + 8) mc233 23 [(2, 89), (0, (k : Int)), (0, (n : Int)), (0, ((i + 1 : Nat) : Int))] [] (mk E c s (hh u2)) = Ev prog clsT X (d + 8) mc233 5 [(2, 89), (0, ((k + 1 : Nat) : Int)), (0, nK g w k), (0, (nE g : Int))] [] (mk E c s (hh (if nK g w k = 0 then u' else up (up u' 146 cl (nK g w k)) 89 72 ((cl + 1 : Nat) : Int)))) ∧ nK g w k ≤ 5 ∧ (0 < nK g w k → cl < 3) ∧ u' 89 72 = cl ∧ (∀ y j, ¬ (117 ≤ y ∧ y ≤ 126) → ¬ (y = 147 ∧ 5 * cl ≤ j) → u' y j = u0 y j) ∧ nmR g w u' cl k (nK g w k).toNat) := fun u2 hno hu2 hr => by
        refine ih (i + 1) n u2 u0 (by omega) hu2 ((hr 89 72 (by decide)).trans h72) (fun y j y1 y2 => (hr y j y1).trans (hfr y j y1 y2)) (by rw [nx, bI_f hno]; omega) h5 h3 ⟨fun x => ?_, fun j hj => ?_⟩
        · show _ = sm _ i + bI (inK g w (k : Int) i ∧ phi g (g 100 i).toNat = x)
          rw [bI_f (fun z => hno z.1), Int.add_zero, ← hN.1 x]
          exact sm_congr (fun j _ => by rw [hr 147 _ (by decide)])
        · rw [hr 147 _ (by decide)]
          exact hN.2 j hj
      rw [r233_23, hu1 89 10 rfl, hn2, cmp_ge, if_neg (by omega), inb_is, if_pos i40, Int.toNat_natCast, cmp_ne, hu1 99 i rfl]
      by_cases z1 : g 99 i = (k : Int)
      case neg =>
        rw [if_pos z1, w32_succ i6]
        exact skip u1 (fun v => z1 v.2.2.1) hu1 (rfQ_refl u1)
      obtain ⟨u2, a1, a2, a3⟩ := (ev i hi2).2.2 d c s u1 (M_of hu1)
      have hu2 := onQ_rf hu1 a3
      have h722 : u2 89 72 = cl := (a3 89 72 (by decide)).trans h72
      rw [if_neg (fun v => v z1), call0 a1, push0, r233_36, cmp_ne, bI_ne0]
      by_cases z2 : g 104 i = 0 ∧ w i = -1
      case neg =>
        rw [if_neg (fun v => v z2), w32_succ i6]
        exact skip u2 (fun v => z2 ⟨v.2.1, v.2.2.2⟩) hu2 a3
      have hin : inK g w (k : Int) i := ⟨hi2, z2.1, z1, z2.2⟩
      rw [if_pos (fun v => v z2), cmp_eq, h722]
      rw [nx, bI_t hin] at hmono
      have hnk : nK g w k = sm (fun e => bI (inK g w (k : Int) e)) (nE g) := rfl
      by_cases z3 : (cl : Int) = 3
      · rw [if_pos z3]
        exact Or.inl ⟨u2, hu2, rfl, Or.inr ⟨by omega, by omega⟩⟩
      rw [if_neg z3, cmp_ne]
      by_cases z5 : (n : Int) = 5
      · rw [if_neg (fun v => v z5)]
        exact Or.inl ⟨u2, hu2, rfl, Or.inl (by omega)⟩
      clear hmono hnk
      have c3' : cl < 3 := by omega
      have n5' : n < 5 := by omega
      have i15 : 0 ≤ ((5 * cl + n : Nat) : Int) ∧ ((5 * cl + n : Nat) : Int) < ((15 : Nat) : Int) := by omega
      rw [if_pos z5, idx5 c3' n5', inb_is, if_pos i15, Int.toNat_natCast, w32_succ i6, w32_succ (i := n) (by omega)]
      refine ih (i + 1) (n + 1) _ u0 (by omega) (onQ_up hu2 rfl) (by rw [up_cell (by decide)]; exact h722) (fun y j y1 y2 => ?_) (by rw [nx, bI_t hin]; omega) (by omega) (fun _ => by omega) ⟨fun x => ?_, fun j hj => ?_⟩
      · rw [up_ne (fun v => y2 (by omega)), a3 y j y1]
        exact hfr y j y1 y2
      · show sm (fun j => bI (phi g (g 100 (up u2 147 (5 * cl + n) (i : Int) 147 (5 * cl + j)).toNat).toNat = x)) n + bI (phi g (g 100 (up u2 147 (5 * cl + n) (i : Int) 147 (5 * cl + n)).toNat).toNat = x) = sm _ i + bI (inK g w (k : Int) i ∧ phi g (g 100 i).toNat = x)
        have e1 : sm (fun j => bI (phi g (g 100 (up u2 147 (5 * cl + n) (i : Int) 147 (5 * cl + j)).toNat).toNat = x)) n = sm (fun j => bI (phi g (g 100 (u1 147 (5 * cl + j)).toNat).toNat = x)) n := sm_congr (fun j hj => by rw [up_place (by omega), a3 147 _ (by decide)])
        have e2 : bI (phi g (g 100 (up u2 147 (5 * cl + n) (i : Int) 147 (5 * cl + n)).toNat).toNat = x) = bI (inK g w (k : Int) i ∧ phi g (g 100 i).toNat = x) := bI_iff (by
          rw [up_same, Int.toNat_natCast]
          exact ⟨fun z => ⟨hin, z⟩, fun z => z.2⟩)
        rw [e1, e2, hN.1 x]
      · by_cases y : j = n
        · rw [y, up_same]
          exact ⟨by omega, by omega⟩
        · rw [up_place (by omega), a3 147 _ (by decide)]
          exact hN.2 j (by omega)
  have loop : ∀ (p k : Nat) (w2 w3 : MV) (u1 : Gm), k + p = 10 → onQ g u1 → (∀ j, j < k → ¬ badK (oK g w) j) → opM g w k u1 → ∃ u', onQ g u' ∧ ((Ev prog clsT X (d + 8) mc233 5 [(2, 89), (0, (k : Int)), w2, w3] [] (mk E c s (hh u1)) = some ((0, 0), mk E c s (hh u')) ∧ ∃ k, k < 10 ∧ badK (oK g w) k) ∨ (Ev prog clsT X (d + 8) mc233 5 [(2, 89), (0, (k : Int)), w2, w3] [] (mk E c s (hh u1)) = some ((0, 1), mk E c s (hh u')) ∧ (¬ ∃ k, k < 10 ∧ badK (oK g w) k) ∧ opM g w 10 u')) := by
    intro p
    induction p with
    | zero =>
      intro k w2 w3 u1 hk hu1 hb ho
      have hk : k = 10 := by omega
      subst hk
      refine ⟨u1, hu1, Or.inr ⟨?_, fun ⟨j, j1, j2⟩ => hb j j1 j2, ho⟩⟩
      rw [r233_5, cmp_ge, if_pos (by decide)]
    | succ p ih =>
      intro k w2 w3 u1 hk hu1 hb ho
      have hk10 : k < 10 := by omega
      have i10 : 0 ≤ (k : Int) ∧ (k : Int) < ((10 : Nat) : Int) := by omega
      obtain ⟨o1, o2, o3⟩ := ho
      have none' : oK g w k = 0 → lnK (oK g w) (k + 1) = lnK (oK g w) k ∧ lwK (oK g w) (k + 1) = lwK (oK g w) k ∧ ∀ j, j < k + 1 → ¬ badK (oK g w) j := fun hz => by
        refine ⟨by rw [lnK_s, if_neg (by omega)], by rw [lwK_s, if_neg (by omega)], fun j hj => ?_⟩
        by_cases z : j = k
        · subst z
          intro v
          rcases v with v | v <;> omega
        · exact hb j (by omega)
      have skip : ∀ (w2 w3 : MV), oK g w k = 0 → ∃ u', onQ g u' ∧ ((Ev prog clsT X (d + 8) mc233 5 [(2, 89), (0, ((k + 1 : Nat) : Int)), w2, w3] [] (mk E c s (hh u1)) = some ((0, 0), mk E c s (hh u')) ∧ ∃ k, k < 10 ∧ badK (oK g w) k) ∨ (Ev prog clsT X (d + 8) mc233 5 [(2, 89), (0, ((k + 1 : Nat) : Int)), w2, w3] [] (mk E c s (hh u1)) = some ((0, 1), mk E c s (hh u')) ∧ (¬ ∃ k, k < 10 ∧ badK (oK g w) k) ∧ opM g w 10 u')) := fun w2 w3 hz => by
        obtain ⟨e1, e2, e3⟩ := none' hz
        refine ih (k + 1) w2 w3 u1 (by omega) hu1 e3 ?_
        unfold opM
        rw [e1, e2]
        exact ⟨o1, o2, o3⟩
      rw [r233_5, cmp_ge, if_neg (by omega), inb_is, if_pos i10, Int.toNat_natCast, cmp_eq, hu1 106 k rfl, w32_succ (by omega)]
      by_cases z1 : g 106 k = 0
      · rw [if_pos z1]
        refine skip _ _ ?_
        have : nK g w k = 0 := sm0 (fun e he => bI_f (fun v => by
          have q3 := h.1.1.2.2.2.2.2.2.2 e he
          rw [v.2.2.1, Int.toNat_natCast] at q3
          exact q3 z1))
        unfold oK
        split
        · rw [this]; rfl
        · rfl
      rw [if_neg z1, inb_is, if_pos i10, cmp_lt, hu1 130 k rfl]
      by_cases z2 : g 130 k < 0
      case neg =>
        rw [if_neg z2]
        exact skip _ _ (if_neg z2)
      have hoK : oK g w k = (nK g w k).toNat := if_pos z2
      have n0 := nK_0 g w k
      rw [if_pos z2]
      rcases inner k hk10 z2 (lnK (oK g w) k) o2 rfl (nE g) 0 0 u1 u1 (by omega) hu1 o1 (fun _ _ _ _ => rfl) rfl (by decide) (fun z => absurd z (by decide)) ⟨fun x => rfl, fun j hj => absurd hj (Nat.not_lt_zero _)⟩ with ⟨u', a1, a2, a3⟩ | ⟨u', a1, a2, a3, a4, a5, a6, a7⟩
      · have a2 : Ev prog clsT X (d + 8) mc233 23 [(2, 89), (0, (k : Int)), (0, 0), (0, 0)] [] (mk E c s (hh u1)) = _ := a2
        rw [a2]
        exact ⟨u', a1, Or.inl ⟨rfl, k, hk10, a3⟩⟩
      have a2 : Ev prog clsT X (d + 8) mc233 23 [(2, 89), (0, (k : Int)), (0, 0), (0, 0)] [] (mk E c s (hh u1)) = _ := a2
      rw [a2]
      by_cases z0 : nK g w k = 0
      · obtain ⟨e1, e2, e3⟩ := none' (by omega)
        rw [if_pos z0]
        refine ih (k + 1) _ _ u' (by omega) a1 e3 ?_
        unfold opM
        rw [e1, e2]
        refine ⟨a5, o2, fun q hq => ?_⟩
        obtain ⟨x1, x2, x3, x4, x5⟩ := o3 q hq
        refine ⟨x1, x2, x3, ?_, nmR_of x5 (fun j hj => a6 147 _ (by decide) (by omega))⟩
        rw [a6 146 q (by decide) (by omega)]
        exact x4
      · have e1 : lnK (oK g w) (k + 1) = lnK (oK g w) k + 1 := by rw [lnK_s, if_pos (by omega)]
        have e2 : lwK (oK g w) (k + 1) = fun q => if q = lnK (oK g w) k then k else lwK (oK g w) k q := by rw [lwK_s, if_pos (by omega)]
        have c3 := a4 (by omega)
        rw [if_neg z0]
        refine ih (k + 1) _ _ _ (by omega) (onQ_up (onQ_up a1 rfl) rfl) (fun j hj => ?_) ?_
        · by_cases y : j = k
          · subst y
            intro v
            rcases v with v | v <;> omega
          · exact hb j (by omega)
        · unfold opM
          rw [e1, e2, up_same]
          refine ⟨rfl, by omega, fun q hq => ?_⟩
          dsimp only
          by_cases y : q = lnK (oK g w) k
          · rw [if_pos y, hoK]
            refine ⟨hk10, by omega, by omega, ?_, ?_⟩
            · rw [up_cell (by decide), up_at, if_pos y]; omega
            · rw [y]
              exact nmR_of a7 (fun j hj => by rw [up_cell (by decide), up_cell (by decide)])
          · rw [if_neg y]
            obtain ⟨x1, x2, x3, x4, x5⟩ := o3 q (by omega)
            refine ⟨x1, x2, x3, ?_, nmR_of x5 (fun j hj => ?_)⟩
            · rw [up_cell (by decide), up_at, if_neg y, a6 146 q (by decide) (by omega)]
              exact x4
            · rw [up_cell (by decide), up_cell (by decide)]
              exact a6 147 _ (by decide) (by omega)
  obtain ⟨u', a1, a2⟩ := loop 10 0 (3, 0) (3, 0) (up u 89 72 0) (by omega) (onQ_up hu rfl) (fun j hj => absurd hj (Nat.not_lt_zero _)) ⟨by rw [up_same]; rfl, Nat.zero_le _, fun q hq => absurd hq (Nat.not_lt_zero _)⟩
  refine ⟨u', a1, ?_⟩
  rw [show d + 9 = (d + 8) + 1 from rfl, rc233_]
  exact a2
end OPENS2
