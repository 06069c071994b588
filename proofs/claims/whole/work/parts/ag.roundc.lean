/-! Part ag: the round, the class. -/
def rdZ : Nat → Int := fun _ => 0
def rdBs (g : Gm) : Wy := wyB (-1, rdZ) (rdW g 10 0 rdZ rdZ rdZ 0 rdZ)
theorem rdI_0 {g : Gm} (hcap : 1 ≤ g 89 61 ∧ g 89 61 ≤ 10) : rdI g rdZ rdZ rdZ 0 := by
  refine ⟨fun j _ => ⟨Int.le_refl _, ?_⟩, fun j _ h => absurd rfl h, rfl⟩
  show (0 : Int) ≤ g 89 61
  omega
theorem rdBs_or (g : Gm) : rdBs g = (-1, rdZ) ∨ (0 ≤ (rdBs g).1 ∧ rdBs g ∈ rdW g 10 0 rdZ rdZ rdZ 0 rdZ) := by
  rcases wyB_start (l := rdW g 10 0 rdZ rdZ rdZ 0 rdZ) rdZ (fun w hw => (rdW_ge g _ _ _ _ _ _ _ w hw).1) with q | ⟨_, q2, q3, _⟩
  · exact Or.inl q.2
  · exact Or.inr ⟨q2, (wyF_mem q3).1⟩
section ROUNDC
variable (X : MExt) {E : List (Nat × Nat)} {g : Gm}
theorem CA51 : CA E 51 10 := ⟨rfl, rfl⟩
theorem CA52 : CA E 52 4 := ⟨rfl, rfl⟩
/-- Round.leastWalks -/
theorem c61 (hcap : 1 ≤ g 89 61 ∧ g 89 61 ≤ 10) (h132 : ∀ k : Nat, 0 ≤ g 132 k ∧ g 132 k ≤ 2) (c s d : Nat) {u : Gm} (h49 : ∀ i : Nat, i < 10 → u 49 i = if rdH g i then chB (fun j => rdO g j i) 4 else -1) (h50 : ∀ i : Nat, i < 10 → u 50 i = g 132 i) : ∃ u' : Gm, (∀ x i, x ≠ 51 → x ≠ 52 → x ≠ 53 → x ≠ 54 → ¬ (x = 48 ∧ i = 6) → u' x i = u x i) ∧ Call prog clsT X (d + 23) 61 [(2, 48), (0, g 89 61)] (mk E c s (hh u)) = some ((0, (rdBs g).1), mk E c s (hh u')) ∧ (0 ≤ (rdBs g).1 → ∀ i : Nat, i < 10 → u' 51 i = (rdBs g).2 i) := by
  have cl := fun most (u1 : Gm) => c63 X (E := E) (g := g) hcap h132 c s 10 (d + 22) 0 rdZ rdZ rdZ 0 most rdZ u1 (by omega) (by omega)
  have ge := rdW_ge g 10 0 rdZ rdZ rdZ 0 rdZ
  have le8 := rdW_le g h132 10 0 rdZ rdZ rdZ 0 rdZ (rdI_0 hcap)
  have own := fun (G : Nat) (hG : G < 16) => rdW_own g hG 10 0 rdZ rdZ rdZ 0 rdZ (by omega) (fun j _ => show (0 : Int) ≤ g 89 61 by omega)
  have st := wyB_start (l := rdW g 10 0 rdZ rdZ rdZ 0 rdZ) rdZ (fun w hw => (ge w hw).1)
  have eB : rdBs g = wyB (-1, rdZ) (rdW g 10 0 rdZ rdZ rdZ 0 rdZ) := rfl
  rw [← eB] at st
  obtain ⟨L, eL⟩ : ∃ L, L = rdW g 10 0 rdZ rdZ rdZ 0 rdZ := ⟨_, rfl⟩
  rw [← eL] at ge cl le8 own st
  obtain ⟨B, eB2⟩ : ∃ B, B = rdBs g := ⟨_, rfl⟩
  rw [← eB2] at st ⊢
  obtain ⟨u0, e0⟩ : ∃ u0, u0 = fil (up u 48 6 (g 89 61)) 51 10 (-1) := ⟨_, rfl⟩
  have z51 : ∀ i, i < 10 → u0 51 i = -1 := fun i hi => by rw [e0]; exact fil_in hi
  have z48 : u0 48 6 = g 89 61 := by rw [e0, fil_ne (by decide), up_same]
  have zx : ∀ x i, x ≠ 51 → ¬ (x = 48 ∧ i = 6) → u0 x i = u x i := fun x i h1 h2 => by rw [e0, fil_ne h1]; exact if_neg h2
  have f49 : ∀ i : Nat, i < 10 → u0 49 i = if rdH g i then chB (fun j => rdO g j i) 4 else -1 := fun i hi => by rw [zx 49 i (by decide) (fun q => absurd q.1 (by decide))]; exact h49 i hi
  have f50 : ∀ i : Nat, i < 10 → u0 50 i = g 132 i := fun i hi => by rw [zx 50 i (by decide) (fun q => absurd q.1 (by decide))]; exact h50 i hi
  have lp : ∀ (m i : Nat) (w1 : MV) (u1 : Gm), i + m = 9 → (∀ x j, x ≠ 51 → x ≠ 52 → x ≠ 53 → x ≠ 54 → u1 x j = u0 x j) → (∀ j : Nat, j < 10 → ¬ rdH g j → u1 51 j = -1) → (∀ x : Int, x < (i : Int) → wyF x L = none) → ∃ u' : Gm, (∀ x j, x ≠ 51 → x ≠ 52 → x ≠ 53 → x ≠ 54 → u' x j = u0 x j) ∧ Ev prog clsT X (d + 22) mc61 14 [(2, 48), w1, (0, (i : Int))] [] (mk E c s (hh u1)) = some ((0, B.1), mk E c s (hh u')) ∧ (0 ≤ B.1 → ∀ i : Nat, i < 10 → u' 51 i = B.2 i) := by
    intro m
    induction m with
    | zero =>
      intro i w1 u1 hi f fz hn
      have hi : i = 9 := by omega
      subst hi
      have e : B = (-1, rdZ) := by
        rcases st with q | ⟨q1, q2, q3, q4⟩
        · exact q.2
        · have hm := wyF_mem q3
          have := le8 _ hm.1
          rw [hn B.1 (by omega)] at q3
          cases q3
      refine ⟨u1, f, ?_, fun q => ?_⟩
      · rw [r61_14, cmp_gt, if_pos (by decide), e]
      · rw [e] at q; exact absurd q (show ¬ (0 : Int) ≤ -1 by decide)
    | succ m ih =>
      intro i w1 u1 hi f fz hn
      have cx : ∀ x j, x ≠ 51 → x ≠ 52 → x ≠ 53 → x ≠ 54 → fil u1 52 4 0 x j = u0 x j := fun x j h1 h2 h3 h4 => by rw [fil_ne h2, f x j h1 h2 h3 h4]
      obtain ⟨u', a1, a2⟩ := cl (i : Int) (fil u1 52 4 0) (fun j hj => by rw [cx 49 j (by decide) (by decide) (by decide) (by decide)]; exact f49 j hj) (fun j hj => by rw [cx 50 j (by decide) (by decide) (by decide) (by decide)]; exact f50 j hj) (by rw [cx 48 6 (by decide) (by decide) (by decide) (by decide)]; exact z48) (fun j hj => fil_in hj) (fun j _ h => absurd rfl h) (rdI_0 hcap) (by omega) (by omega) (fun j hj => absurd hj (Nat.not_lt_zero _)) (fun j hj hnh => by rw [fil_ne (by decide)]; exact fz j hj hnh)
      have a3 : ∀ x j, x ≠ 51 → x ≠ 52 → x ≠ 53 → x ≠ 54 → u' x j = u0 x j := fun x j h1 h2 h3 h4 => by rw [a1 x j h1 h2 h3 h4, cx x j h1 h2 h3 h4]
      rw [Int.sub_zero] at a2
      rw [r61_14, cmp_gt, if_neg (show ¬ (8 : Int) < (i : Int) by omega), call3 (show Call prog clsT X (d + 22) 248 [(2, 52), (0, 0)] (mk E c s (hh u1)) = _ from m248 X E c s CA52 (by decide) (d + 21) 0), push3, r61_21]
      rcases a2 with ⟨q1, q2, _, _, q5⟩ | ⟨w, q1, q2, q3⟩
      · obtain ⟨u2, e1, e2, e3⟩ := ih (i + 1) (3, 0) u' (by omega) a3 q5 (fun x hx => by
          by_cases z : x < (i : Int)
          · exact hn x z
          · rw [show x = (i : Int) by omega]; exact q1)
        refine ⟨u2, e1, ?_, e3⟩
        rw [call0 (show Call prog clsT X (d + 22) 63 [(2, 48), (0, 0), (0, (i : Int))] _ = _ from q2), push0, r61_25, cmp_eq, if_pos rfl, w32_succ (by omega)]
        exact e2
      · have e : B.1 = (i : Int) ∧ B = w := by
          rcases st with ⟨z1, _⟩ | ⟨_, _, z3, z4⟩
          · rw [z1] at q1; cases q1
          · have n1 : ¬ (i : Int) < B.1 := fun z => by rw [z4 _ z] at q1; cases q1
            have n2 : ¬ B.1 < (i : Int) := fun z => by rw [hn _ z] at z3; cases z3
            have e1 : B.1 = (i : Int) := by omega
            rw [e1, q1] at z3
            injection z3 with z3
            exact ⟨e1, z3.symm⟩
        refine ⟨u', a3, ?_, fun _ => by rw [e.2]; exact q3⟩
        rw [call0 (show Call prog clsT X (d + 22) 63 [(2, 48), (0, 0), (0, (i : Int))] _ = _ from q2), push0, r61_25, cmp_eq, if_neg (by decide), e.1]
  obtain ⟨v, v1, v2⟩ := c62 X (E := E) hcap c s (d + 20) f49 z48
  rw [rc61_, call3 (show Call prog clsT X (d + 22) 248 [(2, 51), (0, -1)] (mk E c s (hh (up u 48 6 (g 89 61)))) = _ from m248 X E c s CA51 (by decide) (d + 21) (-1)), push3, ← e0, r61_7, call0 (show Call prog clsT X (d + 22) 62 [(2, 48)] (mk E c s (hh u0)) = _ from v2), push0, r61_9, cmp_ne]
  rcases v1 with v1 | ⟨v1, G, hG, hlt⟩
  · rw [v1, if_pos (by decide)]
    obtain ⟨u', a1, a2, a3⟩ := lp 9 0 (0, g 89 61) u0 (by omega) (fun _ _ _ _ _ _ => rfl) (fun j hj _ => z51 j hj) (fun x hx => wyF_none (fun w hw => by have := (ge w hw).1; omega))
    exact ⟨u', fun x i h1 h2 h3 h4 h5 => by rw [a1 x i h1 h2 h3 h4]; exact zx x i h1 h5, a2, a3⟩
  · rw [v1, if_neg (fun w => w rfl)]
    have e : B = (-1, rdZ) := by
      rcases st with q | ⟨_, _, q3, _⟩
      · exact q.2
      · have a : sm (rdN g G) 10 ≤ sm (rdN g G) 0 + rdS (g 89 61) G rdZ := own G hG _ (wyF_mem q3).1
        have a0 : sm (rdN g G) 0 = 0 := rfl
        have a1 : rdS (g 89 61) G rdZ = g 89 61 * (pcn G 10 : Int) := rdS_0 _ hG
        rw [a0, a1] at a
        omega
    refine ⟨u0, fun x i h1 h2 h3 h4 h5 => zx x i h1 h5, by rw [e], fun z => ?_⟩
    rw [e] at z
    exact absurd z (show ¬ (0 : Int) ≤ -1 by decide)
/-- judgesFor -/
theorem c119 {N : Int} (h : ST N E g) (c s d : Nat) {k : Nat} (hk : k < 10) {u : Gm} (hu : onQ g u) : Call prog clsT X (d + 4) 119 [(2, 0), (0, (k : Int))] (mk E c s (hh u)) = some ((0, chB (fun j => rdO g j k) 4), mk E c s (hh u)) := by
  have hst := ST_Q h hu
  have loop : ∀ (m j : Nat), j + m = 4 → Ev prog clsT X (d + 3) mc119 4 [(2, 0), (0, (k : Int)), (0, chB (fun j => rdO g j k) j), (0, (j : Int))] [] (mk E c s (hh u)) = some ((0, chB (fun j => rdO g j k) 4), mk E c s (hh u)) := by
    intro m
    induction m with
    | zero =>
      intro j hj
      have hj : j = 4 := by omega
      subst hj
      rw [r119_4, cmp_ge, if_pos (by decide)]
    | succ m ih =>
      intro j hj
      have e : chB (fun j => rdO g j k) (j + 1) = ior32 (chB (fun j => rdO g j k) j) (if rdO g j k then ishl32 1 (j : Int) else 0) := rfl
      have nx : ∀ v : Int, v = (if rdO g j k then ishl32 1 (j : Int) else 0) → Ev prog clsT X (d + 3) mc119 4 [(2, 0), (0, (k : Int)), (0, ior32 (chB (fun j => rdO g j k) j) v), (0, ((j + 1 : Nat) : Int))] [] (mk E c s (hh u)) = some ((0, chB (fun j => rdO g j k) 4), mk E c s (hh u)) := fun v hv => by
        rw [hv, ← e]
        exact ih (j + 1) (by omega)
      rw [r119_4, cmp_ge, if_neg (by omega), call0 (show Call prog clsT X (d + 3) 34 _ _ = _ from c34Q X h (d + 1) c s (j : Int) hu), push0, r119_12, cmp_eq, bI_eq0, w32_succ (by omega)]
      by_cases z : g 127 j ≠ 0
      case neg =>
        rw [if_pos (fun w => z w.2.2)]
        exact nx 0 (by rw [if_neg (fun w => z w.1)])
      rw [if_neg (fun w => w ⟨by omega, by omega, z⟩), call0 (show Call prog clsT X (d + 3) 104 [(2, 0), (0, (j : Int)), (0, (k : Int))] (mk E c s (hh u)) = _ from c104 X E c s hst.1.1.1 hst.1.1.2.1 hst.1.1.2.2.1 hst.1.1.2.2.2.2.2 d (j : Int) (k : Int) ⟨by omega, by omega, by rw [hu 127 _ rfl]; exact z⟩), push0, r119_17, cmp_ne, bI_ne0, w32_succ (by omega)]
      have hq := kinP_Q hu (j : Int) (k : Int)
      by_cases z2 : kinP g (j : Int) (k : Int)
      · rw [if_pos (fun w => w (hq.mpr z2))]
        exact nx 0 (by rw [if_neg (fun w => w.2 z2)])
      · rw [if_neg (fun w => w (fun y => z2 (hq.mp y)))]
        exact nx _ (by rw [if_pos ⟨z, z2⟩])
  rw [rc119_]
  exact loop 4 0 (by omega)
def rdV (g : Gm) (x : Int) : Int := if 0 ≤ x ∧ x ≤ 10 then (if x = 0 then (rdBs g).1 else if 0 ≤ (rdBs g).1 then (rdBs g).2 (x - 1).toNat else (rdBs g).1) else -1
/-- round -/
theorem c118 {N : Int} (h : ST N E g) (x : Int) (c s d : Nat) : ∃ u', onQ g u' ∧ Call prog clsT X (d + 24) 118 [(2, 0), (0, x)] (mk E c s (hh g)) = some ((0, rdV g x), mk E c s (hh u')) := by
  have e36 : g 36 3 = g 89 61 := h.1.1.2.2.1.2.2.2.2.2.2.2.2.1
  have hcap : 1 ≤ g 89 61 ∧ g 89 61 ≤ 10 := h.1.1.2.2.1.2.2.2.2.2.2.2.2.2
  have e42 : ∀ i : Nat, g 42 i = g 132 i := h.1.1.2.2.2.1.2.2.1
  have h132 : ∀ k : Nat, 0 ≤ g 132 k ∧ g 132 k ≤ 2 := h.1.1.2.2.2.1.2.2.2.1
  by_cases q : 0 ≤ x ∧ x ≤ 10
  case neg =>
    refine ⟨g, onQ_refl g, ?_⟩
    unfold rdV
    rw [if_neg q, rc118_, call0 (show Call prog clsT X (d + 23) 90 _ _ = _ from c90 X E c s (d + 22) _ _ _), push0, bI_f q, r118_4, cmp_ne, if_neg (by decide)]
  have loop : ∀ (m i : Nat) (w3 : MV) (u : Gm), i + m = 10 → onQ g u → (∀ k : Nat, k < i → u 49 k = if rdH g k then chB (fun j => rdO g j k) 4 else -1) → (∀ k : Nat, k < i → u 50 k = g 132 k) → ∃ u', onQ g u' ∧ Ev prog clsT X (d + 23) mc118 9 [(2, 0), (0, x), (0, (i : Int)), w3] [] (mk E c s (hh u)) = some ((0, rdV g x), mk E c s (hh u')) := by
    intro m
    induction m with
    | zero =>
      intro i w3 u hi hu f1 f2
      have hi : i = 10 := by omega
      subst hi
      obtain ⟨u', a1, a2, a3⟩ := c61 X (E := E) hcap h132 c s d f1 f2
      refine ⟨u', fun y j hs => (a1 y j (fun w => by rw [w] at hs; cases hs) (fun w => by rw [w] at hs; cases hs) (fun w => by rw [w] at hs; cases hs) (fun w => by rw [w] at hs; cases hs) (fun w => by rw [w.1, w.2] at hs; exact absurd hs (by decide))).trans (hu y j hs), ?_⟩
      unfold rdV
      rw [if_pos q, r118_9, cmp_ge, if_pos (by decide), hu 36 3 rfl, e36, call0 a2, push0, r118_55, cmp_eq, cmp_ne]
      by_cases z : x = 0
      · rw [if_pos z, if_pos z]
      rw [if_neg z, if_neg z]
      rcases rdBs_or g with z2 | ⟨z1, _⟩
      · rw [z2]; rfl
      · rw [if_pos z1, if_pos (show ¬ (rdBs g).1 = -1 by omega), w32_of (x := x - 1) (by omega) (by omega), inb_is, if_pos (by omega), a3 z1 _ (by omega)]
    | succ m ih =>
      intro i w3 u hi hu f1 f2
      have i10 : 0 ≤ (i : Int) ∧ (i : Int) < ((10 : Nat) : Int) := by omega
      have hst := ST_Q h hu
      have nx : ∀ (v : Int) (w : MV), v = (if rdH g i then chB (fun j => rdO g j i) 4 else -1) → ∃ u', onQ g u' ∧ Ev prog clsT X (d + 23) mc118 9 [(2, 0), (0, x), (0, ((i + 1 : Nat) : Int)), w] [] (mk E c s (hh (up (up u 49 i v) 50 i (g 132 i)))) = some ((0, rdV g x), mk E c s (hh u')) := fun v w hv => ih (i + 1) w _ (by omega) (onQ_up (onQ_up hu rfl) rfl) (fun k hk => by
        rw [up_cell (by decide), up_at]
        by_cases z : k = i
        · rw [if_pos z, z]; exact hv
        · rw [if_neg z]; exact f1 k (by omega)) (fun k hk => by
        rw [up_at]
        by_cases z : k = i
        · rw [if_pos z, z]
        · rw [if_neg z, up_cell (by decide)]; exact f2 k (by omega))
      have non : ¬ rdH g i → ∃ u', onQ g u' ∧ Ev prog clsT X (d + 23) mc118 23 [(2, 0), (0, x), (0, (i : Int)), (3, 0)] [] (mk E c s (hh u)) = some ((0, rdV g x), mk E c s (hh u')) := fun hn => by
        rw [r118_23, cmp_eq, if_pos rfl, inb_is, if_pos i10, inb_is, if_pos i10, inb_is, if_pos i10, Int.toNat_natCast, hu 42 i rfl, e42, w32_succ (by omega)]
        exact nx (-1) _ (by rw [if_neg hn])
      rw [r118_9, cmp_ge, if_neg (by omega), call2 (show Call prog clsT X (d + 23) 97 _ _ = _ from c97 X E c s (d + 21) (i : Int)), push2, r118_15, nul (hst.1.2.1.of (i : Int)), Int.toNat_natCast, hu 106 i rfl]
      by_cases z : g 106 i = 0
      · rw [if_neg (fun w => w.2.2 z)]
        exact non (fun w => w.1 z)
      rw [if_pos ⟨by omega, by omega, z⟩, call0 (show Call prog clsT X (d + 23) 24 _ _ = _ from c24 X E c s hst.1.1.1 (d + 20) (i : Int)), push0, stIn_Q hu, r118_20, cmp_le]
      by_cases z2 : stIn g (i : Int) ≤ 0
      · rw [if_pos z2]
        exact non (fun w => by have := w.2; omega)
      rw [if_neg z2, cmp_eq, if_neg (by decide), call0 (show Call prog clsT X (d + 23) 119 _ _ = _ from c119 X h c s (d + 19) (k := i) (by omega) hu), push0, r118_34, inb_is, if_pos i10, inb_is, if_pos i10, inb_is, if_pos i10, Int.toNat_natCast, hu 42 i rfl, e42, w32_succ (by omega)]
      exact nx _ _ (by rw [if_pos ⟨z, by omega⟩])
  rw [rc118_, call0 (show Call prog clsT X (d + 23) 90 _ _ = _ from c90 X E c s (d + 22) _ _ _), push0, bI_t q, r118_4, cmp_ne, if_pos (by decide)]
  exact loop 10 0 _ g (by omega) (onQ_refl g) (fun k hk => absurd hk (Nat.not_lt_zero _)) (fun k hk => absurd hk (Nat.not_lt_zero _))
end ROUNDC
