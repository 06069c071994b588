/-! Part al: planned. -/
/-- the pairing of the classes el from i on; w: the one that waits -/
def pj (el : Nat → Prop) [DecidablePred el] (kd : Int) : Nat → Nat → Int → Int
  | 0, _, _ => -1
  | m + 1, i, w => if el i then (if w = -1 then pj el kd m (i + 1) (i : Int) else if w = kd then (i : Int) else if (i : Int) = kd then w else pj el kd m (i + 1) (-1)) else pj el kd m (i + 1) w
theorem pj_s (el : Nat → Prop) [DecidablePred el] (kd : Int) (m i : Nat) (w : Int) : pj el kd (m + 1) i w = if el i then (if w = -1 then pj el kd m (i + 1) (i : Int) else if w = kd then (i : Int) else if (i : Int) = kd then w else pj el kd m (i + 1) (-1)) else pj el kd m (i + 1) w := rfl
theorem pj_no (el : Nat → Prop) [DecidablePred el] (kd : Nat) (h : ¬ el kd) : ∀ (m i : Nat) (w : Int), w ≠ (kd : Int) → pj el (kd : Int) m i w = -1 := by
  intro m
  induction m with
  | zero => intro i w _; rfl
  | succ m ih =>
    intro i w hw
    rw [pj_s]
    by_cases z : el i
    · have ne : (i : Int) ≠ (kd : Int) := fun q => h (by rw [← show i = kd by omega]; exact z)
      rw [if_pos z, if_neg hw, if_neg ne]
      split
      · exact ih _ _ ne
      · exact ih _ _ (by omega)
    · rw [if_neg z]; exact ih _ _ hw
theorem w99 {j : Nat} (hj : j < 3) : w32 (99 + (j : Int)) = ((99 + j : Nat) : Int) := by rw [w32_of (by omega) (by omega)]; omega
section PLANNED
variable (X : MExt) {E : List (Nat × Nat)} {g : Gm}
theorem told0 {N : Int} (h : ST N E g) {k : Nat} (hk : k < 10) (ht : g 106 k ≠ 0) : ∃ r : Nat, g 16 k = r ∧ RG 0 E r k g := by
  rcases h.1.2.2.2.2.1 k hk with q | q
  · exact absurd ((h.1.2.1.1 k hk).mp q) ht
  · exact q
theorem told0_w {N : Int} (h : ST N E g) {k : Nat} (hk : k < 10) (ht : g 106 k ≠ 0) : 0 ≤ g 107 k ∧ g 107 k ≤ 8 ∧ (g 107 k = 0 → g 108 k = 10) ∧ 0 ≤ g 108 k ∧ g 108 k ≤ 10 := by
  obtain ⟨r, _, cap, a1, a2, a3, a4, a5, a6, a7, a8, a9, a10, a11, a12, a13⟩ := told0 h hk ht
  have := a9 rfl
  refine ⟨a7, a8, this.1, ?_⟩
  by_cases z : g 107 k = 0
  · have := this.1 z; omega
  · have := this.2 z; omega
theorem FT1 {N : Int} (h : ST N E g) {k : Nat} (hk : k < 10) (ht : g 106 k ≠ 0) : ∃ F : Int, (0 ≤ F ∧ F ≤ 3) ∧ (∀ r : Nat, g 16 k = r → ∀ d c s u, onQ g u → ∃ u', Call prog clsT X (d + 4) 133 [(2, 0), (0, (k : Int)), (2, (r : Int))] (mk E c s (hh u)) = some ((0, F), mk E c s (hh u')) ∧ onQ g u') ∧ ∀ d c s u, onQ g u → ∃ u', Call prog clsT X (d + 5) 244 [(2, 89), (0, (k : Int))] (mk E c s (hh u)) = some ((0, F), mk E c s (hh u')) ∧ onQ g u' := by
  obtain ⟨w1, w2, w3, w4, w5⟩ := told0_w h hk ht
  obtain ⟨r0, hr0, hR⟩ := told0 h hk ht
  obtain ⟨rp, hrp, hP⟩ := h.1.2.2.2.2.2.2
  have hrow := plRow_ok h hk ⟨w1, w2⟩ ⟨w4, w5⟩
  have pv := fun (j : Nat) => fun (hj : j < 3) => val_eq2 X hP (by decide) hj hrow
  obtain ⟨v0, _, p0, q0⟩ := pv 0 (by decide)
  obtain ⟨v1, _, p1, q1⟩ := pv 1 (by decide)
  obtain ⟨v2, _, p2, q2⟩ := pv 2 (by decide)
  obtain ⟨V, hC, hM⟩ : ∃ V : Nat → Int, (∀ j, j < 3 → ∀ d c s u, sameR g u → (∀ f, f < 8 → u 28 f = plRow g k f) → ∃ u', Call prog clsT X (d + 3) 74 [(2, 27), (2, (rp : Int)), (0, ((8 + j : Nat) : Int))] (mk E c s (hh u)) = some ((0, V j), mk E c s (hh u')) ∧ off29 u u') ∧ ∀ j, j < 3 → (g 110 (99 + j) = 0 ∧ V j = 0) ∨ (g 110 (99 + j) = 1 ∧ ∀ t c s w, sameR g w → (∀ f, f < 8 → w 126 (f + 1) = plRow g k f) → ∃ w', Call prog clsT X (t + 4) 194 [(2, 89), (0, ((99 + j : Nat) : Int))] (mk E c s (hh w)) = some ((0, V j), mk E c s (hh w')) ∧ offR w w') := by
    refine ⟨fun j => if j = 0 then v0 else if j = 1 then v1 else v2, fun j hj => ?_, fun j hj => ?_⟩
    · have hj : j = 0 ∨ j = 1 ∨ j = 2 := by omega
      rcases hj with z | z | z <;> subst z
      · exact p0
      · exact p1
      · exact p2
    · have hj : j = 0 ∨ j = 1 ∨ j = 2 := by omega
      rcases hj with z | z | z <;> subst z
      · exact q0
      · exact q1
      · exact q2
  clear p0 p1 p2 q0 q1 q2 pv
  have hb3 : fateV V 3 0 ≤ 3 := (fateV_b V 3 0).2
  refine ⟨fateV V 3 0, ⟨(fateV_b V 3 0).1, hb3⟩, fun r hr d c s u hu => ?_, fun d c s u hu => ?_⟩
  · have er : r = r0 := by omega
    subst er
    have hst := ST_Q h hu
    have loop : ∀ (m j : Nat) (x1 x2 : MV) (u1 : Gm), j + m = 3 → onQ g u1 → (∀ f, f < 8 → u1 28 f = plRow g k f) → ∃ u', Ev prog clsT X (d + 3) mc133 13 [(2, 0), x1, x2, (0, ((8 + j : Nat) : Int))] [] (mk E c s (hh u1)) = some ((0, fateV V m j), mk E c s (hh u')) ∧ onQ g u' := by
      intro m
      induction m with
      | zero =>
        intro j x1 x2 u1 hj k1 k2
        have hj : j = 3 := by omega
        subst hj
        exact ⟨u1, by rw [r133_13, cmp_gt, if_pos (by decide)]; rfl, k1⟩
      | succ m ih =>
        intro j x1 x2 u1 hj k1 k2
        have eV : fateV V (m + 1) j = if V j = 0 then fateV V m (j + 1) else ((j + 1 : Nat) : Int) := rfl
        obtain ⟨u2, l1, l2⟩ := hC j (by omega) d c s u1 (sameR_Q k1) k2
        have k3 := onQ_tr k1 (onQ_29 l2)
        rw [r133_13, cmp_gt, if_neg (by omega), k1 0 4 rfl, hrp, call0 l1, push0, r133_22, cmp_eq, eV]
        by_cases z : V j = 0
        · rw [if_pos z, if_pos z, w32_succ (by omega), Nat.add_assoc]
          exact ih (j + 1) _ _ u2 (by omega) k3 (fun f hf => by rw [l2 28 f (by decide)]; exact k2 f hf)
        · rw [if_neg z, if_neg z]
          refine ⟨u2, ?_, k3⟩
          rw [w32_of (x := 1 + ((8 + j : Nat) : Int)) (by omega) (by omega), w32_of (x := 1 + ((8 + j : Nat) : Int) - 8) (by omega) (by omega), show 1 + ((8 + j : Nat) : Int) - 8 = ((j + 1 : Nat) : Int) by omega]
    obtain ⟨u1, a1, a2, a3⟩ := c78 X h c s (d + 1) hk hR hu
    obtain ⟨u2, b1, b2⟩ := loop 3 0 (0, (k : Int)) (2, (r : Int)) u1 (by omega) (fun x i hs => (a2 x i (fun q => by rw [q] at hs; cases hs)).trans (hu x i hs)) a3
    refine ⟨u2, ?_, b2⟩
    rw [rc133_, call0 (show Call prog clsT X (d + 3) 24 _ _ = _ from c24 X E c s hst.1.1.1 d (k : Int)), push0, stIn_Q hu, r133_9, call3 (show Call prog clsT X (d + 3) 78 _ _ = _ from a1), push3, r133_11]
    exact b1
  · clear hb3
    have loop : ∀ (m j : Nat) (x1 x2 x3 x4 x5 : MV) (u1 : Gm), j + m = 3 → onQ g u1 → (∀ f, f < 8 → u1 126 (f + 1) = plRow g k f) → ∃ u', Ev prog clsT X (d + 4) mc244 134 [(2, 89), x1, x2, x3, x4, x5, (0, (j : Int))] [] (mk E c s (hh u1)) = some ((0, fateV V m j), mk E c s (hh u')) ∧ onQ g u' := by
      intro m
      induction m with
      | zero =>
        intro j x1 x2 x3 x4 x5 u1 hj k1 k2
        have hj : j = 3 := by omega
        subst hj
        exact ⟨u1, by rw [r244_134, cmp_ge, if_pos (by decide)]; rfl, k1⟩
      | succ m ih =>
        intro j x1 x2 x3 x4 x5 u1 hj k1 k2
        have eV : fateV V (m + 1) j = if V j = 0 then fateV V m (j + 1) else ((j + 1 : Nat) : Int) := rfl
        have j3 : j < 3 := by omega
        rw [r244_134, cmp_ge, if_neg (by omega), w99 j3, inb_is, if_pos (by omega), cmp_eq, Int.toNat_natCast, k1 110 _ rfl, eV, w32_succ (by omega)]
        rcases hM j (by omega) with ⟨y1, y2⟩ | ⟨y1, y2⟩
        · rw [if_pos y1, if_pos y2]
          exact ih (j + 1) _ _ _ _ _ u1 (by omega) k1 k2
        · obtain ⟨u2, l1, l2⟩ := y2 d c s u1 (sameR_Q k1) k2
          have k3 := onQ_tr k1 (onQ_R l2)
          rw [if_neg (by rw [y1]; decide), call0 l1, push0, r244_149, cmp_eq, w32_succ (by omega)]
          by_cases z : V j = 0
          · rw [if_pos z, if_pos z]
            exact ih (j + 1) _ _ _ _ _ u2 (by omega) k3 (fun f hf => by rw [l2 126 (f + 1) (by omega)]; exact k2 f hf)
          · rw [if_neg z, if_neg z]
            exact ⟨u2, rfl, k3⟩
    obtain ⟨u1, x1, x2, x3, x4, x5, a1, a2, a3⟩ := m244_pre X h c s (d + 2) hk ⟨w1, w3⟩ hu
    obtain ⟨u2, b1, b2⟩ := loop 3 0 x1 x2 x3 x4 x5 u1 (by omega) a2 a3
    exact ⟨u2, a1.trans b1, b2⟩
theorem FT {N : Int} (h : ST N E g) : ∃ F : Nat → Int, ∀ k : Nat, k < 10 → g 106 k ≠ 0 → (0 ≤ F k ∧ F k ≤ 3) ∧ (∀ r : Nat, g 16 k = r → ∀ d c s u, onQ g u → ∃ u', Call prog clsT X (d + 4) 133 [(2, 0), (0, (k : Int)), (2, (r : Int))] (mk E c s (hh u)) = some ((0, F k), mk E c s (hh u')) ∧ onQ g u') ∧ ∀ d c s u, onQ g u → ∃ u', Call prog clsT X (d + 5) 244 [(2, 89), (0, (k : Int))] (mk E c s (hh u)) = some ((0, F k), mk E c s (hh u')) ∧ onQ g u' := by
  have key : ∀ k : Nat, ∃ F : Int, k < 10 → g 106 k ≠ 0 → (0 ≤ F ∧ F ≤ 3) ∧ (∀ r : Nat, g 16 k = r → ∀ d c s u, onQ g u → ∃ u', Call prog clsT X (d + 4) 133 [(2, 0), (0, (k : Int)), (2, (r : Int))] (mk E c s (hh u)) = some ((0, F), mk E c s (hh u')) ∧ onQ g u') ∧ ∀ d c s u, onQ g u → ∃ u', Call prog clsT X (d + 5) 244 [(2, 89), (0, (k : Int))] (mk E c s (hh u)) = some ((0, F), mk E c s (hh u')) ∧ onQ g u' := fun k => by
    by_cases q : k < 10 ∧ g 106 k ≠ 0
    · obtain ⟨F, hF⟩ := FT1 X h q.1 q.2
      exact ⟨F, fun _ _ => hF⟩
    · exact ⟨0, fun h1 h2 => absurd ⟨h1, h2⟩ q⟩
  exact Classical.axiomOfChoice key
theorem op_planned (x1 x2 : Int) : OpV X 132 243 8 [(0, x1), (0, x2)] := by
  intro N E c s d g h
  obtain ⟨F, hF⟩ := FT X h
  have g0 := onQ_0 (onQ_refl g) 0
  by_cases t1 : 0 ≤ x1 ∧ x1 ≤ 9 ∧ g 106 x1.toNat ≠ 0
  case neg =>
    refine ⟨-1, g, up g 89 0 0, g0, ?_, ?_⟩
    · rw [rc132_, call2 (show Call prog clsT X (d + 7) 97 _ _ = _ from c97 X E c s (d + 5) x1), push2, r132_3, nul (h.1.2.1.of x1), if_neg t1]
    · rw [rc243_, call0 (show Call prog clsT X (d + 7) 157 _ _ = _ from m157 X E c s (g := up g 89 0 0) (d + 5) x1), push0, r243_6, cmp_eq, bI_eq0, if_pos (show ¬ (0 ≤ x1 ∧ x1 ≤ 9 ∧ up g 89 0 0 106 x1.toNat ≠ 0) from t1)]
  obtain ⟨kd, rfl⟩ := Int.eq_ofNat_of_zero_le t1.1
  have hk : kd < 10 := by omega
  have ht : g 106 kd ≠ 0 := t1.2.2
  obtain ⟨r, hr, hR⟩ := told0 h hk ht
  have hl := RG_lt hR
  have e16 : (if 0 ≤ (kd : Int) ∧ (kd : Int) ≤ 9 then g 16 (kd : Int).toNat else -1) = (r : Int) := by rw [if_pos ⟨by omega, by omega⟩, Int.toNat_natCast, hr]
  have nr : ¬ (r : Int) = -1 := by omega
  by_cases t2 : 0 ≤ x2 ∧ x2 ≤ 1
  case neg =>
    refine ⟨-1, g, up g 89 0 0, g0, ?_, ?_⟩
    · rw [rc132_, call2 (show Call prog clsT X (d + 7) 97 _ _ = _ from c97 X E c s (d + 5) (kd : Int)), push2, r132_3, nul (h.1.2.1.of (kd : Int)), if_pos t1, call0 (show Call prog clsT X (d + 7) 90 _ _ = _ from c90 X E c s (d + 6) _ _ _), push0, bI_f t2, r132_10, cmp_ne, if_neg (by decide)]
    · rw [rc243_, call0 (show Call prog clsT X (d + 7) 157 _ _ = _ from m157 X E c s (g := up g 89 0 0) (d + 5) (kd : Int)), push0, r243_6, cmp_eq, bI_eq0, if_neg (fun w : ¬ (0 ≤ (kd : Int) ∧ (kd : Int) ≤ 9 ∧ up g 89 0 0 106 (kd : Int).toNat ≠ 0) => w t1), call0 (show Call prog clsT X (d + 7) 152 _ _ = _ from m152 X E c s (d + 6) _ _ _), push0, bI_f t2, r243_11, cmp_ne, if_neg (by decide)]
  -- the class up to its question, the reference up to its own
  have cl : Call prog clsT X (d + 8) 132 [(2, 0), (0, (kd : Int)), (0, x2)] (mk E c s (hh g)) = if ¬ x2 = 0 then ((Call prog clsT X (d + 7) 134 [(2, 0), (0, (kd : Int)), (0, g 108 kd)] (mk E c s (hh g))).bind fun r1 => if r1.1.1 = 4 then none else Ev prog clsT X (d + 7) mc132 25 [(2, 0), (0, (kd : Int)), (0, x2), (2, (r : Int))] (pushR r1.1 []) r1.2) else ((Call prog clsT X (d + 7) 133 [(2, 0), (0, (kd : Int)), (2, (r : Int))] (mk E c s (hh g))).bind fun r1 => if r1.1.1 = 4 then none else Ev prog clsT X (d + 7) mc132 19 [(2, 0), (0, (kd : Int)), (0, x2), (2, (r : Int))] (pushR r1.1 []) r1.2) := by
    obtain ⟨cap, a1, a2, a3, a4, a5, _⟩ := hR
    rw [rc132_, call2 (show Call prog clsT X (d + 7) 97 _ _ = _ from c97 X E c s (d + 5) (kd : Int)), push2, r132_3, nul (h.1.2.1.of (kd : Int)), if_pos t1, e16, call0 (show Call prog clsT X (d + 7) 90 _ _ = _ from c90 X E c s (d + 6) _ _ _), push0, bI_t t2, r132_10, cmp_ne, if_pos (by decide), cmp_ne, fg_kind E c s a1.1, a5 rfl]
  have ml : ∀ u, onQ g u → ∃ u', onQ g u' ∧ Call prog clsT X (d + 8) 243 [(2, 89), (0, (kd : Int)), (0, x2)] (mk E c s (hh u)) = if ¬ x2 = 0 then (if F kd = 3 then ((Call prog clsT X (d + 7) 245 [(2, 89), (0, (kd : Int))] (mk E c s (hh u'))).bind fun r1 => if r1.1.1 = 4 then none else Ev prog clsT X (d + 7) mc243 30 [(2, 89), (0, (kd : Int)), (0, x2), (0, F kd)] (pushR r1.1 []) r1.2) else some ((0, -1), mk E c s (hh u'))) else some ((0, F kd), mk E c s (hh u')) := fun u hu => by
    have u0 := onQ_0 hu 0
    obtain ⟨u', a1, a2⟩ := (hF kd hk ht).2.2 (d + 2) c s (up u 89 0 0) u0
    have e106 : up u 89 0 0 106 kd = g 106 kd := by rw [up_cell (by decide)]; exact hu 106 kd rfl
    refine ⟨u', a2, ?_⟩
    rw [rc243_, call0 (show Call prog clsT X (d + 7) 157 _ _ = _ from m157 X E c s (g := up u 89 0 0) (d + 5) (kd : Int)), push0, r243_6, cmp_eq, bI_eq0, if_neg (fun w : ¬ (0 ≤ (kd : Int) ∧ (kd : Int) ≤ 9 ∧ up u 89 0 0 106 (kd : Int).toNat ≠ 0) => w ⟨by omega, by omega, by rw [Int.toNat_natCast, e106]; exact ht⟩), call0 (show Call prog clsT X (d + 7) 152 _ _ = _ from m152 X E c s (d + 6) _ _ _), push0, bI_t t2, r243_11, cmp_ne, if_pos (by decide), call0 (show Call prog clsT X (d + 7) 244 _ _ = _ from a1), push0, r243_17, cmp_ne, cmp_eq, r243_30, r243_30]
  by_cases z : x2 = 0
  · obtain ⟨g1, a1, a2⟩ := (hF kd hk ht).2.1 r hr (d + 3) c s g (onQ_refl g)
    obtain ⟨g2, b1, b2⟩ := ml g1 a2
    refine ⟨F kd, g1, g2, b1, ?_, ?_⟩
    · rw [cl, if_neg (fun w => w z), call0 (show Call prog clsT X (d + 7) 133 _ _ = _ from a1), push0, r132_19, r132_25]
    · rw [b2, if_neg (fun w => w z)]
  let el : Nat → Prop := fun i => g 106 i ≠ 0 ∧ g 108 i = g 108 kd ∧ F i = 3
  have lpC : ∀ (m i : Nat) (w : Int) (w5 : MV) (u : Gm), i + m = 10 → onQ g u → ∃ u', Ev prog clsT X (d + 6) mc134 4 [(2, 0), (0, (kd : Int)), (0, g 108 kd), (0, w), (0, (i : Int)), w5] [] (mk E c s (hh u)) = some ((0, pj el (kd : Int) m i w), mk E c s (hh u')) ∧ onQ g u' := by
    intro m
    induction m with
    | zero =>
      intro i w w5 u hi hu
      have hi : i = 10 := by omega
      subst hi
      exact ⟨u, by rw [r134_4, cmp_ge, if_pos (by decide)]; rfl, hu⟩
    | succ m ih =>
      intro i w w5 u hi hu
      have hst := ST_Q h hu
      rw [r134_4, cmp_ge, if_neg (by omega), call2 (show Call prog clsT X (d + 6) 97 _ _ = _ from c97 X E c s (d + 4) (i : Int)), push2, r134_10, nul (hst.1.2.1.of (i : Int)), Int.toNat_natCast, hu 106 i rfl, pj_s, w32_succ (by omega)]
      by_cases y1 : g 106 i = 0
      · rw [if_neg (fun q => q.2.2 y1), if_neg (fun q : el i => q.1 y1)]
        exact ih (i + 1) w _ u (by omega) hu
      obtain ⟨ri, hri, hRi⟩ := told0 h (k := i) (by omega) y1
      have hli := RG_lt hRi
      have e16i : (if 0 ≤ (i : Int) ∧ (i : Int) ≤ 9 then u 16 i else -1) = (ri : Int) := by rw [if_pos ⟨by omega, by omega⟩, hu 16 i rfl, hri]
      have e1 : u ri 1 = g 108 i := by
        obtain ⟨cap, a1, a2, a3, a4, a5, _⟩ := hRi
        rw [cellR (sameR_Q hu) (by omega) 1]; exact a5 rfl
      have ce : CE E ri 7 8 := by
        obtain ⟨cap, a1, _⟩ := hRi
        exact a1.1
      rw [if_pos ⟨by omega, by omega, y1⟩, e16i, fg_kind E c s ce, e1, cmp_ne]
      by_cases y2 : g 108 i = g 108 kd
      case neg =>
        rw [if_pos y2, if_neg (fun q : el i => y2 q.2.1)]
        exact ih (i + 1) w _ u (by omega) hu
      obtain ⟨u2, k1, k2⟩ := (hF i (by omega) y1).2.1 ri hri (d + 2) c s u hu
      rw [if_neg (fun q => q y2), call0 (show Call prog clsT X (d + 6) 133 _ _ = _ from k1), push0, r134_21, cmp_eq, w32_succ (by omega)]
      by_cases y3 : F i = 3
      case neg =>
        rw [if_neg y3, if_neg (fun q : el i => y3 q.2.2)]
        exact ih (i + 1) w _ u2 (by omega) k2
      rw [if_pos y3, if_pos (show el i from ⟨y1, y2, y3⟩), cmp_ne]
      by_cases y4 : w = -1
      · rw [if_neg (fun q => q y4), if_pos y4]
        exact ih (i + 1) _ _ u2 (by omega) k2
      rw [if_pos y4, if_neg y4, cmp_eq, cmp_ne, cmp_ne]
      by_cases y5 : w = (kd : Int)
      · rw [if_pos y5, if_pos y5, if_neg (fun q => q y5)]
        exact ⟨u2, rfl, k2⟩
      rw [if_neg y5, if_neg y5, if_pos y5]
      by_cases y6 : (i : Int) = (kd : Int)
      · rw [if_neg (fun q => q y6), if_pos y6]
        exact ⟨u2, rfl, k2⟩
      · rw [if_pos y6, if_neg y6]
        exact ih (i + 1) _ _ u2 (by omega) k2
  have wkd := told0_w h hk ht
  have k13 : 0 ≤ (kd : Int) ∧ (kd : Int) < ((13 : Nat) : Int) := by omega
  have lpM : ∀ (m i : Nat) (w : Int) (u : Gm), i + m = 10 → (w = -1 ∨ 0 ≤ w) → onQ g u → ∃ u', Ev prog clsT X (d + 6) mc245 4 [(2, 89), (0, (kd : Int)), (0, w), (0, (i : Int))] [] (mk E c s (hh u)) = some ((0, pj el (kd : Int) m i w), mk E c s (hh u')) ∧ onQ g u' := by
    intro m
    induction m with
    | zero =>
      intro i w u hi _ hu
      have hi : i = 10 := by omega
      subst hi
      exact ⟨u, by rw [r245_4, cmp_ge, if_pos (by decide)]; rfl, hu⟩
    | succ m ih =>
      intro i w u hi hw hu
      have i10 : 0 ≤ (i : Int) ∧ (i : Int) < ((10 : Nat) : Int) := by omega
      have i13 : 0 ≤ (i : Int) ∧ (i : Int) < ((13 : Nat) : Int) := by omega
      rw [r245_4, cmp_ge, if_neg (by omega), inb_is, if_pos i10, cmp_eq, Int.toNat_natCast, hu 106 i rfl, pj_s, w32_succ (by omega)]
      by_cases y1 : g 106 i = 0
      · rw [if_pos y1, if_neg (fun q : el i => q.1 y1)]
        exact ih (i + 1) w u (by omega) hw hu
      have wi := told0_w h (k := i) (by omega) y1
      have go : ∀ P : Option MRes, P = (if ¬ g 108 i = g 108 kd then Ev prog clsT X (d + 6) mc245 4 [(2, 89), (0, (kd : Int)), (0, w), (0, ((i + 1 : Nat) : Int))] [] (mk E c s (hh u)) else ((Call prog clsT X (d + 6) 244 [(2, 89), (0, (i : Int))] (mk E c s (hh u))).bind fun r1 => if r1.1.1 = 4 then none else Ev prog clsT X (d + 6) mc245 38 [(2, 89), (0, (kd : Int)), (0, w), (0, (i : Int))] (pushR r1.1 []) r1.2)) → ∃ u', P = some ((0, if el i then (if w = -1 then pj el (kd : Int) m (i + 1) (i : Int) else if w = (kd : Int) then (i : Int) else if (i : Int) = (kd : Int) then w else pj el (kd : Int) m (i + 1) (-1)) else pj el (kd : Int) m (i + 1) w), mk E c s (hh u')) ∧ onQ g u' := by
        intro P hP
        rw [hP]
        by_cases y2 : g 108 i = g 108 kd
        case neg =>
          rw [if_pos y2, if_neg (fun q : el i => y2 q.2.1)]
          exact ih (i + 1) w u (by omega) hw hu
        obtain ⟨u2, k1, k2⟩ := (hF i (by omega) y1).2.2 (d + 1) c s u hu
        rw [if_neg (fun q => q y2), call0 (show Call prog clsT X (d + 6) 244 _ _ = _ from k1), push0, r245_38, cmp_eq, w32_succ (by omega)]
        by_cases y3 : F i = 3
        case neg =>
          rw [if_neg y3, if_neg (fun q : el i => y3 q.2.2)]
          exact ih (i + 1) w u2 (by omega) hw k2
        rw [if_pos y3, if_pos (show el i from ⟨y1, y2, y3⟩), cmp_ge]
        by_cases y4 : w = -1
        · rw [if_neg (by omega), if_pos y4]
          exact ih (i + 1) _ u2 (by omega) (Or.inr (by omega)) k2
        rw [if_pos (by omega), if_neg y4, cmp_eq, cmp_ne, cmp_ne]
        by_cases y5 : w = (kd : Int)
        · rw [if_pos y5, if_pos y5, if_neg (fun q => q y5)]
          exact ⟨u2, rfl, k2⟩
        rw [if_neg y5, if_neg y5, if_pos y5]
        by_cases y6 : (i : Int) = (kd : Int)
        · rw [if_neg (fun q => q y6), if_pos y6]
          exact ⟨u2, rfl, k2⟩
        · rw [if_pos y6, if_neg y6]
          exact ih (i + 1) _ u2 (by omega) (Or.inl rfl) k2
      refine go _ ?_
      rw [if_neg y1, inb_is, if_pos i13, cmp_le, hu 107 i rfl]
      by_cases y7 : g 107 i ≤ 0
      · rw [if_pos y7, inb_is, if_pos k13, cmp_le, Int.toNat_natCast, hu 107 kd rfl, wi.2.2.1 (by omega)]
        by_cases y8 : g 107 kd ≤ 0
        · rw [if_pos y8, cmp_ne, wkd.2.2.1 (by omega)]
        · rw [if_neg y8, inb_is, if_pos k13, cmp_ne, hu 108 kd rfl]
      · rw [if_neg y7, inb_is, if_pos i13, inb_is, if_pos k13, cmp_le, Int.toNat_natCast, hu 107 kd rfl, hu 108 i rfl]
        by_cases y8 : g 107 kd ≤ 0
        · rw [if_pos y8, cmp_ne, wkd.2.2.1 (by omega)]
        · rw [if_neg y8, inb_is, if_pos k13, cmp_ne, hu 108 kd rfl]
  obtain ⟨g1, a1, a2⟩ := lpC 10 0 (-1) (3, 0) g (by omega) (onQ_refl g)
  obtain ⟨g2, b1, b2⟩ := ml g1 a2
  have ca : Call prog clsT X (d + 8) 132 [(2, 0), (0, (kd : Int)), (0, x2)] (mk E c s (hh g)) = some ((0, pj el (kd : Int) 10 0 (-1)), mk E c s (hh g1)) := by
    rw [cl, if_pos z, call0 (show Call prog clsT X (d + 7) 134 [(2, 0), (0, (kd : Int)), (0, g 108 kd)] (mk E c s (hh g)) = _ from (rc134_ X E c s g (d + 6) _ _).trans a1), push0, r132_25]
  by_cases zF : F kd = 3
  · obtain ⟨g3, e1, e2⟩ := lpM 10 0 (-1) g2 (by omega) (Or.inl rfl) b1
    refine ⟨_, g1, g3, e2, ca, ?_⟩
    rw [b2, if_pos z, if_pos zF, call0 (show Call prog clsT X (d + 7) 245 [(2, 89), (0, (kd : Int))] (mk E c s (hh g2)) = _ from (rc245_ X E c s g2 (d + 6) _).trans e1), push0, r243_30]
  · have e : pj el (kd : Int) 10 0 (-1) = -1 := pj_no el kd (fun q => zF q.2.2) 10 0 (-1) (by omega)
    rw [e] at ca
    refine ⟨-1, g1, g2, b1, ca, ?_⟩
    rw [b2, if_pos z, if_neg zF]
end PLANNED
