/-! Part ap: the reference tries the places that are still open. -/
/-- the name under which the class knows exhibitor x -/
def phi (g : Gm) (x : Nat) : Nat := if g 93 x = 0 then x else 10
def cpY (g : Gm) (r : Nat) (P F : Nat → Int) (u : Gm) : Prop := ∀ x, x < 10 → 0 ≤ u 144 x ∧ u 144 x + 99 * r ≤ 100000 ∧ 0 ≤ u 145 x ∧ u 145 x + r ≤ 100000 ∧ (g 90 x ≠ 0 → g 93 x = 0 → u 144 x = P x ∧ u 145 x = F x)
theorem cpY_le {g : Gm} {r r' : Nat} {P F : Nat → Int} {u : Gm} (h : cpY g r P F u) (hr : r' ≤ r) : cpY g r' P F u := fun x hx => by
  have := h x hx
  exact ⟨this.1, by omega, this.2.2.1, by omega, this.2.2.2.2⟩
def cpN (g : Gm) (n : Nat) (sz : Nat → Nat) (en : Nat → Nat → Nat) (u : Gm) : Prop := u 89 72 = n ∧ (∀ k, k < n → u 146 k = sz k) ∧ ∀ k i, k < n → i < sz k → u 147 (5 * k + i) = en k i
theorem up2_back {u : Gm} {x : Nat} {a b a' b' : Int} (ha : a' = u 144 x) (hb : b' = u 145 x) : up (up (up (up u 144 x a) 145 x b) 144 x a') 145 x b' = u := by
  funext y i
  by_cases y5 : y = 145 ∧ i = x
  · rw [y5.1, y5.2, up_at, if_pos rfl, hb]
  · rw [up_ne y5]
    by_cases y4 : y = 144 ∧ i = x
    · rw [y4.1, y4.2, up_at, if_pos rfl, ha]
    · rw [up_ne y4, up_ne y5, up_ne y4]
theorem idx15 {a i sz p : Nat} (ha : a < 3) (hp : i + (p + 1) = sz) (hs : sz ≤ 5) : w32 (w32 (5 * (a : Int)) + (i : Int)) = ((5 * a + i : Nat) : Int) ∧ (0 ≤ ((5 * a + i : Nat) : Int) ∧ ((5 * a + i : Nat) : Int) < ((15 : Nat) : Int)) ∧ i < 32 ∧ i < 5 ∧ ¬ ((sz : Int) ≤ (i : Int)) ∧ i < 1000000 ∧ i + 1 + p = sz ∧ i < sz := by
  refine ⟨?_, by omega, by omega, by omega, by omega, by omega, by omega, by omega⟩
  rw [w32_of (x := 5 * (a : Int)) (by omega) (by omega), w32_of (by omega) (by omega)]; omega
section WINS
variable (X : MExt) {E : List (Nat × Nat)} {g : Gm}
theorem m235 {N : Int} (h : ST N E g) {e x : Nat} (he : e < nE g) (h100 : g 100 e = x) (hx : x < 10) (c s d : Nat) {p : Int} (hp : 1 ≤ p ∧ p ≤ 3) {u : Gm} (hu : onM g u) : Call prog clsT X (d + 1) 235 [(2, 89), (0, (e : Int)), (0, p)] (mk E c s (hh u)) = some ((3, 0), mk E c s (hh (up (up u 144 x (w32 (u 144 x - u 142 (p - 1).toNat))) 145 x (w32 (u 145 x - cF p))))) := by
  have hle := h.1.1.1.rn.le
  have i40 : 0 ≤ (e : Int) ∧ (e : Int) < ((40 : Nat) : Int) := by omega
  have i10 : 0 ≤ (x : Int) ∧ (x : Int) < ((10 : Nat) : Int) := by omega
  have e0 : w32 (p - 1) = p - 1 := w32_of (by omega) (by omega)
  have i3 : 0 ≤ p - 1 ∧ p - 1 < ((3 : Nat) : Int) := by omega
  have hx2 : u 100 e = x := (hu 100 e rfl).trans h100
  rw [rc235_, Int.toNat_natCast, hx2, e0, inb_is, if_pos i40, inb_is, if_pos i10, inb_is, if_pos i3, inb_is, if_pos i10, inb_is, if_pos i40, inb_is, if_pos i10, cmp_ne, Int.toNat_natCast]
  unfold cF
  by_cases y : p = 1
  · rw [if_neg (fun q => q y), inb_is, if_pos i10, if_pos y]
  · rw [if_pos y, inb_is, if_pos i10, if_neg y]
theorem m234_loop {N : Int} (h : ST N E g) {n T : Nat} {sz : Nat → Nat} {en : Nat → Nat → Nat} {nm : Nat → Nat → Nat} (hn : n ≤ 3) (hsz : ∀ k, k < n → 1 ≤ sz k ∧ sz k ≤ 5) (hen : ∀ k i, k < n → i < sz k → en k i < nE g ∧ nm k i = phi g (g 100 (en k i)).toNat) {K : CpT} {a q r D : Nat} (ha : a < n) (hq : q ≤ 2)
  (rec : ∀ (U : Nat → Bool) (gone : Int) (P F : Nat → Int) (u : Gm) (c s : Nat), (∀ j, j < 5 → tb3 gone j = U j) → sm (fun i => bI (U i = false)) (sz a) = (sz a : Int) - ((3 - q : Nat) : Int) → onM g u → cpN g n sz en u → cpY g r P F u → ∃ v, Call prog clsT X (D + 2) 234 [(2, 89), (0, (T : Int)), (0, (a : Int)), (0, ((3 - q : Nat) : Int)), (0, gone)] (mk E c s (hh u)) = some ((0, v), mk E c s (hh u)) ∧ (v = 0 ∨ v = 1) ∧ (v = 1 ↔ cpI K (g 142) q (cnU (nm a) U (sz a)) P F))
  (U : Nat → Bool) (gone : Int) (P F : Nat → Int) (hU : ∀ j, j < 5 → tb3 gone j = U j) (hfr : sm (fun i => bI (U i = false)) (sz a) = (sz a : Int) - ((2 - q : Nat) : Int)) (c s : Nat) {u : Gm} (hu : onM g u) (hN : cpN g n sz en u) (hX : cpY g (r + 1) P F u) : ∀ (p i : Nat) (w6 w7 : MV), i + p = sz a → (∀ j, j < i → U j = false → ¬ cpI K (g 142) q (pt (cnU (nm a) U (sz a)) (nm a j) (cnU (nm a) U (sz a) (nm a j) - 1)) (pt P (nm a j) (P (nm a j) + g 142 (2 - q))) (pt F (nm a j) (F (nm a j) + (if q = 2 then 1 else 0)))) → ∃ v, Ev prog clsT X (D + 2) mc234 36 [(2, 89), (0, (T : Int)), (0, (a : Int)), (0, ((2 - q : Nat) : Int)), (0, gone), (0, (i : Int)), w6, w7] [] (mk E c s (hh u)) = some ((0, v), mk E c s (hh u)) ∧ (v = 0 ∨ v = 1) ∧ (v = 1 ↔ ∃ x, 0 < cnU (nm a) U (sz a) x ∧ cpI K (g 142) q (pt (cnU (nm a) U (sz a)) x (cnU (nm a) U (sz a) x - 1)) (pt P x (P x + g 142 (2 - q))) (pt F x (F x + (if q = 2 then 1 else 0)))) := by
  have a3 : 0 ≤ (a : Int) ∧ (a : Int) < ((3 : Nat) : Int) := by omega
  have hs := hsz a ha
  have hle := h.1.1.1.rn.le
  have hz := h.1.1.2.2.2.2.1.2.1 (2 - q)
  intro p
  induction p with
  | zero =>
    intro i w6 w7 hi hj
    have hi : i = sz a := by omega
    subst hi
    refine ⟨0, ?_, Or.inl rfl, fun z => absurd z (by decide), fun ⟨x, x1, x2⟩ => ?_⟩
    · rw [r234_36, inb_is, if_pos a3, Int.toNat_natCast, hN.2.1 a ha, cmp_ge, if_pos (Int.le_refl _)]
    · obtain ⟨j, j1, j2, j3⟩ := cnU_has.1 x1
      rw [← j3] at x2
      exact absurd x2 (hj j j1 j2)
  | succ p ih =>
    intro i w6 w7 hi hj
    obtain ⟨e0, i15, i32, i5, ige, i6, ip, hi2⟩ := idx15 (Nat.lt_of_lt_of_le ha hn) hi hs.2
    have jlt : ∀ j, j < i + 1 → j ≠ i → j < i := fun j h1 h2 => Nat.lt_of_le_of_ne (Nat.le_of_lt_succ h1) h2
    rw [r234_36, inb_is, if_pos a3, Int.toNat_natCast, hN.2.1 a ha, cmp_ge, if_neg ige, cmp_ne, bit3_at _ _ i32, hU i i5, e0, inb_is, if_pos i15, Int.toNat_natCast, hN.2.2 a i ha hi2]
    by_cases z1 : U i = true
    · rw [bI_t z1, if_neg (fun w => w rfl), w32_succ i6]
      refine ih (i + 1) _ _ ip (fun j h1 h2 => ?_)
      by_cases w : j = i
      · rw [w, z1] at h2; cases h2
      · exact hj j (jlt j h1 w) h2
    have hUi : U i = false := by cases hb : U i with
      | true => exact absurd hb z1
      | false => rfl
    obtain ⟨he, hnm⟩ := hen a i ha hi2
    obtain ⟨_, x, _, _, h100, _, hx, _, _, _, h90⟩ := ent h he
    have hnm : nm a i = phi g x := by rw [hnm, h100, Int.toNat_natCast]
    have ep : w32 (((2 - q : Nat) : Int) + 1) = ((3 - q : Nat) : Int) := by rw [w32_succ (by omega)]; omega
    have hp3 : 1 ≤ ((3 - q : Nat) : Int) ∧ ((3 - q : Nat) : Int) ≤ 3 := by omega
    have et : (((3 - q : Nat) : Int) - 1).toNat = 2 - q := by omega
    have s1 := m229 X h he h100 hx c s D ((3 - q : Nat) : Int) hu
    rw [if_pos hp3, et] at s1
    have eF : cF ((3 - q : Nat) : Int) = if q = 2 then (1 : Int) else 0 := by
      unfold cF
      by_cases w : q = 2
      · rw [if_pos (by omega), if_pos w]
      · rw [if_neg (by omega), if_neg w]
    rw [eF, hu 142 (2 - q) rfl] at s1
    generalize hzz : g 142 (2 - q) = zz at hz hj ih s1 ⊢
    generalize hff : (if q = 2 then (1 : Int) else 0) = ff at hj ih s1 eF ⊢
    have hff01 : 0 ≤ ff ∧ ff ≤ 1 := by
      rw [← hff]; split <;> decide
    have wx := hX x hx
    have u1M : onM g (up (up u 144 x (w32 (u 144 x + zz))) 145 x (w32 (u 145 x + ff))) := onM_up (onM_up hu rfl) rfl
    have u1N : cpN g n sz en (up (up u 144 x (w32 (u 144 x + zz))) 145 x (w32 (u 145 x + ff))) := by
      refine ⟨?_, fun k hk => ?_, fun k j hk hj => ?_⟩
      · rw [up_cell (by decide), up_cell (by decide)]; exact hN.1
      · rw [up_cell (by decide), up_cell (by decide)]; exact hN.2.1 k hk
      · rw [up_cell (by decide), up_cell (by decide)]; exact hN.2.2 k j hk hj
    have u1X : cpY g r (pt P (nm a i) (P (nm a i) + zz)) (pt F (nm a i) (F (nm a i) + ff)) (up (up u 144 x (w32 (u 144 x + zz))) 145 x (w32 (u 145 x + ff))) := fun y hy => by
      have wy := hX y hy
      rw [up_cell (by decide), up_at, up_at, up_cell (by decide), pt_at, pt_at]
      by_cases w : y = x
      · subst w
        rw [if_pos rfl, if_pos rfl, w32_of (x := u 144 y + zz) (by omega) (by omega), w32_of (x := u 145 y + ff) (by omega) (by omega)]
        refine ⟨by omega, by omega, by omega, by omega, fun k1 k2 => ?_⟩
        have hnm : nm a i = y := by rw [hnm]; exact if_pos k2
        have := wy.2.2.2.2 k1 k2
        rw [if_pos hnm.symm, if_pos hnm.symm, hnm, this.1, this.2]
        exact ⟨rfl, rfl⟩
      · rw [if_neg w, if_neg w]
        refine ⟨wy.1, by omega, wy.2.2.1, by omega, fun k1 k2 => ?_⟩
        have hne : ¬ y = nm a i := fun v => by
          rw [hnm] at v
          unfold phi at v
          split at v
          · exact w v
          · omega
        rw [if_neg hne, if_neg hne]
        exact wy.2.2.2.2 k1 k2
    obtain ⟨v, b1, b3, b4⟩ := rec (usd U i) (ior32 gone (ishl32 1 (i : Int))) _ _ _ c s (fun j hj => by rw [tb3_set (by omega), hU j hj]) (by rw [free_use hi2 hUi, hfr]; omega) u1M u1N u1X
    rw [cnU_use hi2 hUi] at b4
    have s2 := m235 X h he h100 hx c s (D + 1) hp3 u1M
    have s2 : Call prog clsT X (D + 2) 235 [(2, 89), (0, ((en a i : Nat) : Int)), (0, ((3 - q : Nat) : Int))] _ = _ := s2
    rw [et, eF, u1M 142 (2 - q) rfl, hzz] at s2
    rw [up2_back (by rw [up_cell (by decide), up_at, if_pos rfl, w32_of (x := u 144 x + zz) (by omega) (by omega), w32_of (by omega) (by omega)]; omega) (by rw [up_at, if_pos rfl, w32_of (x := u 145 x + ff) (by omega) (by omega), w32_of (by omega) (by omega)]; omega)] at s2
    rw [bI_f z1, if_pos (by decide), ep, call3 s1, push3, r234_65, ep, call0 b1, push0, r234_77, ep, call3 s2, push3, r234_84, cmp_eq, w32_succ i6]
    by_cases hv : v = 0
    · rw [if_pos hv]
      refine ih (i + 1) _ _ ip (fun j h1 h2 => ?_)
      by_cases w : j = i
      · rw [w]
        intro k
        have := b4.2 k
        rw [hv] at this
        exact absurd this (by decide)
      · exact hj j (jlt j h1 w) h2
    · rw [if_neg hv]
      refine ⟨1, rfl, Or.inr rfl, fun _ => ⟨nm a i, cnU_has.2 ⟨i, hi2, hUi, rfl⟩, b4.1 (b3.resolve_left hv)⟩, fun _ => rfl⟩
/-- T leads and did not win last year -/
def cpT (g : Gm) (T : Nat) : CpT := fun P F => g 93 T = 0 ∧ cpL g T P F
/-- wins -/
theorem m234 {N : Int} (h : ST N E g) {n T : Nat} {sz : Nat → Nat} {en : Nat → Nat → Nat} {nm : Nat → Nat → Nat} {C : Nat → Nat → Int} (hn : n ≤ 3) (hT : T < 10) (h90 : g 90 T ≠ 0) (hsz : ∀ k, k < n → 1 ≤ sz k ∧ sz k ≤ 5) (hen : ∀ k i, k < n → i < sz k → en k i < nE g ∧ nm k i = phi g (g 100 (en k i)).toNat) (hC : ∀ k, k < n → C k = cnU (nm k) (fun _ => false) (sz k)) : ∀ m, m ≤ n → ∀ (P F : Nat → Int) (u : Gm) (d c s : Nat), onM g u → cpN g n sz en u → cpY g (3 * m) P F u → ∃ v, Call prog clsT X (d + (2 + 4 * m)) 234 [(2, 89), (0, (T : Int)), (0, ((n - m : Nat) : Int)), (0, 0), (0, 0)] (mk E c s (hh u)) = some ((0, v), mk E c s (hh u)) ∧ (v = 0 ∨ v = 1) ∧ (v = 1 ↔ cpO C (g 142) n (cpT g T) m P F) := by
  intro m
  induction m with
  | zero =>
    intro _ P F u d c s hu hN hX
    have l2 := m231 X h (P := fun x => if x < 10 then u 144 x else 0) (F := fun x => u 145 x) (fun x => by
      by_cases w : x < 10
      · rw [if_pos w]; exact (hX x w).1
      · rw [if_neg w]; exact Int.le_refl 0) c s d hu (fun x hx => ⟨(if_pos hx).symm, rfl⟩)
    refine ⟨bI (tb3 (ldA g (fun x => if x < 10 then u 144 x else 0) (fun x => u 145 x) 10).1 T = true), ?_, bI_01 _, ?_⟩
    · rw [show d + (2 + 4 * 0) = (d + 1) + 1 from rfl, rc234_, hN.1, cmp_ne, if_neg (fun w => w (by omega)), call0 l2, push0, r234_6, cmp_ne, bit3_at _ _ (by omega)]
      by_cases z : tb3 (ldA g (fun x => if x < 10 then u 144 x else 0) (fun x => u 145 x) 10).1 T = true
      · rw [bI_t z, if_neg (fun w => w rfl)]
      · rw [bI_f z, if_pos (by decide)]
    · show _ ↔ cpT g T P F
      by_cases h93 : g 93 T = 0
      · have k := ldA_cpL (g := g) (P := fun x => if x < 10 then u 144 x else 0) (F := fun x => u 145 x) hT h90 h93 (fun y hy => by
          rw [if_pos hy]; exact (hX y hy).1)
        have kk : cpL g T (fun x => if x < 10 then u 144 x else 0) (fun x => u 145 x) ↔ cpL g T P F := by
          have eT := (hX T hT).2.2.2.2 h90 h93
          unfold cpL
          dsimp only
          rw [if_pos hT, eT.1, eT.2]
          refine ⟨fun z => ⟨z.1, fun y h1 h2 h3 => ?_⟩, fun z => ⟨z.1, fun y h1 h2 h3 => ?_⟩⟩
          · have ey := (hX y h1).2.2.2.2 h2 h3
            have := z.2 y h1 h2 h3
            rw [if_pos h1, ey.1, ey.2] at this
            exact this
          · have ey := (hX y h1).2.2.2.2 h2 h3
            rw [if_pos h1, ey.1, ey.2]
            exact z.2 y h1 h2 h3
        constructor
        · intro z
          refine ⟨h93, kk.1 (k.1 ?_)⟩
          by_cases w : tb3 (ldA g (fun x => if x < 10 then u 144 x else 0) (fun x => u 145 x) 10).1 T = true
          · exact w
          · rw [bI_f w] at z; exact absurd z (by decide)
        · intro z
          exact bI_t (k.2 (kk.2 z.2))
      · constructor
        · intro z
          rw [bI_f (by rw [ldA_won h93]; decide)] at z
          exact absurd z (by decide)
        · intro z; exact absurd z.1 h93
  | succ m ih =>
    intro hm P F u d c s hu hN hX
    obtain ⟨a, hav⟩ : ∃ a, a = n - (m + 1) := ⟨_, rfl⟩
    have ha : a < n := by omega
    have ea : a + 1 = n - m := by omega
    have a3 : 0 ≤ (a : Int) ∧ (a : Int) < ((3 : Nat) : Int) := by omega
    have hs := hsz a ha
    have next : ∀ (P F : Nat → Int) (u : Gm) (d c s : Nat), onM g u → cpN g n sz en u → cpY g (3 * m) P F u → ∃ v, Call prog clsT X (d + (2 + 4 * m)) 234 [(2, 89), (0, (T : Int)), (0, w32 ((a : Int) + 1)), (0, 0), (0, 0)] (mk E c s (hh u)) = some ((0, v), mk E c s (hh u)) ∧ (v = 0 ∨ v = 1) ∧ (v = 1 ↔ cpO C (g 142) n (cpT g T) m P F) := fun P F u d c s hu hN hX => by
      rw [w32_succ (by omega), ea]
      exact ih (by omega) P F u d c s hu hN hX
    have inner : ∀ q, q ≤ 2 → ∀ (U : Nat → Bool) (gone : Int) (P F : Nat → Int) (u : Gm) (d c s : Nat), (∀ j, j < 5 → tb3 gone j = U j) → sm (fun i => bI (U i = false)) (sz a) = (sz a : Int) - ((3 - q : Nat) : Int) → onM g u → cpN g n sz en u → cpY g (3 * m + q) P F u → ∃ v, Call prog clsT X (d + (3 + 4 * m + q)) 234 [(2, 89), (0, (T : Int)), (0, (a : Int)), (0, ((3 - q : Nat) : Int)), (0, gone)] (mk E c s (hh u)) = some ((0, v), mk E c s (hh u)) ∧ (v = 0 ∨ v = 1) ∧ (v = 1 ↔ cpI (cpO C (g 142) n (cpT g T) m) (g 142) q (cnU (nm a) U (sz a)) P F) := by
      intro q
      induction q with
      | zero =>
        intro _ U gone P F u d c s hU hf hu hN hX
        obtain ⟨v, b1, b3, b4⟩ := next P F u d c s hu hN hX
        refine ⟨v, ?_, b3, b4⟩
        rw [show d + (3 + 4 * m + 0) = (d + (2 + 4 * m)) + 1 by omega, rc234_, hN.1, cmp_ne, if_pos (by omega), cmp_eq, if_pos (by omega), call0 b1, push0, r234_33, ret01 b3]
      | succ q ihq =>
        intro hq U gone P F u d c s hU hf hu hN hX
        have e0 : d + (3 + 4 * m + (q + 1)) = (d + (3 + 4 * m + q)) + 1 := by omega
        have e1 : 3 - (q + 1) = 2 - q := by omega
        rw [e1] at hf ⊢
        have hfn := sm_bound (f := fun i => bI (U i = false)) (a := 0) (b := 1) (n := sz a) (fun i _ => bI_b _)
        by_cases z : ((2 - q : Nat) : Int) = (sz a : Int)
        case neg =>
          obtain ⟨v, b1, b3, b4⟩ := m234_loop X (E := E) h hn hsz hen (T := T) (K := cpO C (g 142) n (cpT g T) m) (a := a) (q := q) (r := 3 * m + q) (D := d + (1 + 4 * m + q)) ha (by omega) (fun U gone P F u c s h1 h2 h3 h4 h5 => by
            rw [show d + (1 + 4 * m + q) + 2 = d + (3 + 4 * m + q) by omega]
            exact ihq (by omega) U gone P F u d c s h1 h2 h3 h4 h5) U gone P F hU hf c s hu hN hX (sz a) 0 (3, 0) (3, 0) (by omega) (fun j hj => absurd hj (Nat.not_lt_zero _))
          rw [show d + (1 + 4 * m + q) + 2 = d + (3 + 4 * m + q) by omega] at b1
          refine ⟨v, ?_, b3, ?_⟩
          · rw [e0, rc234_, hN.1, cmp_ne, if_pos (by omega), cmp_eq, if_neg (by omega), inb_is, if_pos a3, Int.toNat_natCast, cmp_ne, hN.2.1 a ha, if_pos z]
            exact b1
          · rw [cpI_some (cnU_some (by rw [hf]; omega))]
            exact b4
        have hz : ∀ x, cnU (nm a) U (sz a) x = 0 := cnU_none (by rw [hf]; omega)
        obtain ⟨v, b1, b3, b4⟩ := next P F u (d + 1 + q) c s hu hN (cpY_le hX (by omega))
        rw [show d + 1 + q + (2 + 4 * m) = d + (3 + 4 * m + q) by omega] at b1
        refine ⟨v, ?_, b3, ?_⟩
        · rw [e0, rc234_, hN.1, cmp_ne, if_pos (by omega), cmp_eq, if_neg (by omega), inb_is, if_pos a3, Int.toNat_natCast, cmp_ne, hN.2.1 a ha, if_neg (fun w => w z), call0 b1, push0, r234_33, ret01 b3]
        · rw [cpI_none hz]
          exact b4
    have hX3 : cpY g (3 * m + 2 + 1) P F u := cpY_le hX (by omega)
    have hf : sm (fun i => bI (((fun _ => false) : Nat → Bool) i = false)) (sz a) = (sz a : Int) - ((2 - 2 : Nat) : Int) := by rw [free_all]; omega
    obtain ⟨v, b1, b3, b4⟩ := m234_loop X (E := E) h hn hsz hen (T := T) (K := cpO C (g 142) n (cpT g T) m) (a := a) (q := 2) (r := 3 * m + 2) (D := d + (1 + 4 * m + 2)) ha (by omega) (fun U gone P F u c s h1 h2 h3 h4 h5 => by
      rw [show d + (1 + 4 * m + 2) + 2 = d + (3 + 4 * m + 2) by omega]
      exact inner 2 (by omega) U gone P F u d c s h1 h2 h3 h4 h5) (fun _ => false) 0 P F (fun j _ => tb3_0 j) hf c s hu hN hX3 (sz a) 0 (3, 0) (3, 0) (by omega) (fun j hj => absurd hj (Nat.not_lt_zero _))
    rw [show d + (1 + 4 * m + 2) + 2 = d + (3 + 4 * m + 2) by omega] at b1
    have b1 : Ev prog clsT X (d + (3 + 4 * m + 2)) mc234 36 [(2, 89), (0, (T : Int)), (0, (a : Int)), (0, 0), (0, 0), (0, 0), (3, 0), (3, 0)] [] (mk E c s (hh u)) = some ((0, v), mk E c s (hh u)) := b1
    refine ⟨v, ?_, b3, ?_⟩
    · rw [← hav, show d + (2 + 4 * (m + 1)) = (d + (3 + 4 * m + 2)) + 1 by omega, rc234_, hN.1, cmp_ne, if_pos (by omega), cmp_eq, if_neg (by decide), inb_is, if_pos a3, Int.toNat_natCast, cmp_ne, hN.2.1 a ha, if_pos (by omega)]
      exact b1
    · rw [cpO_s, ← hav, hC a ha, cpI_some (cnU_some (by rw [hf]; omega))]
      exact b4
end WINS
