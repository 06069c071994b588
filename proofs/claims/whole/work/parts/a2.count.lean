/-! Part a2: count. -/
def ct1 (g : Gm) (x1 : Int) (i : Nat) : Int := if x1 = 0 then bI (g 90 i ≠ 0) else if x1 = 2 then bI (g 106 i ≠ 0) else if x1 = 6 then bI (0 ≤ g 130 i) else if x1 = 7 then bI (i < 4 ∧ g 127 i ≠ 0) else 0
def ct2 (g : Gm) (x1 : Int) (i : Nat) : Int := if x1 = 1 then bI (g 94 i ≠ 0) else 0
def ct3 (g : Gm) (w : Nat → Int) (x1 : Int) (i : Nat) : Int := if x1 = 10 then g 103 i else if x1 = 4 then bI (g 104 i = 0) else if x1 = 5 then bI (g 104 i = 0 ∧ w i ≠ -1) else 0
theorem ct1_b (g : Gm) (x1 : Int) (i : Nat) : 0 ≤ ct1 g x1 i ∧ ct1 g x1 i ≤ 1 := by
  unfold ct1
  split
  · exact bI_b _
  · split
    · exact bI_b _
    · split
      · exact bI_b _
      · split
        · exact bI_b _
        · decide
theorem ct2_b (g : Gm) (x1 : Int) (i : Nat) : 0 ≤ ct2 g x1 i ∧ ct2 g x1 i ≤ 1 := by
  unfold ct2
  split
  · exact bI_b _
  · decide
theorem sm0 {f : Nat → Int} {n : Nat} (h : ∀ i, i < n → f i = 0) : sm f n = 0 := by
  have := sm_bound (f := f) (a := 0) (b := 0) (n := n) (fun i hi => by rw [h i hi]; decide)
  omega
section COUNT
variable (X : MExt) {E : List (Nat × Nat)} {g : Gm}
/-- words, on both sides -/
theorem EW {N : Int} (h : ST N E g) : ∃ w : Nat → Int, ∀ e, e < nE g → -1 ≤ w e ∧ w e ≤ 100 ∧ (∀ d c s u, onQ g u → ∃ u', Call prog clsT X (d + 6) 139 [(2, 0), (0, (e : Int))] (mk E c s (hh u)) = some ((0, w e), mk E c s (hh u')) ∧ onQ g u') ∧ ∀ d c s u, onQ g u → ∃ u', Call prog clsT X (d + 7) 188 [(2, 89), (0, (e : Int))] (mk E c s (hh u)) = some ((0, w e), mk E c s (hh u')) ∧ onQ g u' ∧ rfQ u u' := by
  have key : ∀ e : Nat, ∃ v : Int, e < nE g → -1 ≤ v ∧ v ≤ 100 ∧ (∀ d c s u, onQ g u → ∃ u', Call prog clsT X (d + 6) 139 [(2, 0), (0, (e : Int))] (mk E c s (hh u)) = some ((0, v), mk E c s (hh u')) ∧ onQ g u') ∧ ∀ d c s u, onQ g u → ∃ u', Call prog clsT X (d + 7) 188 [(2, 89), (0, (e : Int))] (mk E c s (hh u)) = some ((0, v), mk E c s (hh u')) ∧ onQ g u' ∧ rfQ u u' := fun e => by
    by_cases he : e < nE g
    case neg => exact ⟨0, fun z => absurd z he⟩
    obtain ⟨v, v1, v2, wc, wm⟩ := ew X h he
    refine ⟨v, fun _ => ⟨v1, v2, fun d c s u hu => ?_, wm⟩⟩
    obtain ⟨u', z1, z2, _⟩ := wc d c s u hu
    exact ⟨u', z1, z2⟩
  exact Classical.axiomOfChoice key
theorem m247 {N : Int} (h : ST N E g) {w : Nat → Int} (hw : ∀ e, e < nE g → -1 ≤ w e ∧ ∀ d c s u, onQ g u → ∃ u', Call prog clsT X (d + 7) 188 [(2, 89), (0, (e : Int))] (mk E c s (hh u)) = some ((0, w e), mk E c s (hh u')) ∧ onQ g u' ∧ rfQ u u') (d c s : Nat) (x1 : Int) : ∀ u, onQ g u → ∃ u', Call prog clsT X (d + 8) 247 [(2, 89), (0, x1)] (mk E c s (hh u)) = some ((0, if 0 ≤ x1 ∧ x1 ≤ 10 then (if x1 = 3 then (nE g : Int) else if x1 = 8 then g 109 10 else if x1 = 9 then g 89 17 else sm (ct1 g x1) 10 + sm (ct2 g x1) 40 + sm (ct3 g w x1) (nE g)) else -1), mk E c s (hh u')) ∧ onQ g u' := by
  intro u hu
  have hle := h.1.1.1.rn.le
  have hn2 := h.1.1.1.n2
  have hu0 := onQ_0 hu 0
  have start : Call prog clsT X (d + 8) 247 [(2, 89), (0, x1)] (mk E c s (hh u)) = if 0 ≤ x1 ∧ x1 ≤ 10 then Ev prog clsT X (d + 7) mc247 14 [(2, 89), (0, x1), (0, 0), (0, 0)] [] (mk E c s (hh (up u 89 0 0))) else some ((0, -1), mk E c s (hh (up u 89 0 0))) := by
    rw [rc247_, call0 (show Call prog clsT X (d + 7) 152 _ _ = _ from m152 X E c s (d + 6) _ _ _), push0, r247_7, cmp_ne, bI_ne0]
    by_cases z : 0 ≤ x1 ∧ x1 ≤ 10
    · rw [if_pos (fun y => y z), if_pos z]
    · rw [if_neg (fun y => y z), if_neg z]
  rw [start]
  by_cases hx : 0 ≤ x1 ∧ x1 ≤ 10
  case neg => rw [if_neg hx, if_neg hx]; exact ⟨_, rfl, hu0⟩
  rw [if_pos hx, if_pos hx]
  have b103 : ∀ i, 0 ≤ g 103 i ∧ g 103 i ≤ 9 := fun i => by
    obtain ⟨_, _, _, _, _, _, _, _, _, e35, _, b35, _⟩ := h.1.1.1
    rw [← e35]; exact b35 i
  have ct3_b : ∀ i, 0 ≤ ct3 g w x1 i ∧ ct3 g w x1 i ≤ 9 := fun i => by
    unfold ct3
    split
    · exact b103 i
    · split
      · have := bI_b (g 104 i = 0); omega
      · split
        · have := bI_b (g 104 i = 0 ∧ w i ≠ -1); omega
        · decide
  -- the first walk
  have st1 : ∀ (i : Nat) (a : Int) (u : Gm), i < 10 → onQ g u → Ev prog clsT X (d + 7) mc247 14 [(2, 89), (0, x1), (0, a), (0, (i : Int))] [] (mk E c s (hh u)) = Ev prog clsT X (d + 7) mc247 14 [(2, 89), (0, x1), (0, w32 (a + ct1 g x1 i)), (0, ((i + 1 : Nat) : Int))] [] (mk E c s (hh u)) := fun i a u hi hu => by
    have i10 : 0 ≤ (i : Int) ∧ (i : Int) < ((10 : Nat) : Int) := by omega
    have yes : Ev prog clsT X (d + 7) mc247 52 [(2, 89), (0, x1), (0, a), (0, (i : Int))] [(0, a)] (mk E c s (hh u)) = Ev prog clsT X (d + 7) mc247 14 [(2, 89), (0, x1), (0, w32 (a + 1)), (0, ((i + 1 : Nat) : Int))] [] (mk E c s (hh u)) := by rw [r247_52, w32_succ (by omega)]
    have no : Ev prog clsT X (d + 7) mc247 54 [(2, 89), (0, x1), (0, a), (0, (i : Int))] [(0, a)] (mk E c s (hh u)) = Ev prog clsT X (d + 7) mc247 14 [(2, 89), (0, x1), (0, w32 (a + 0)), (0, ((i + 1 : Nat) : Int))] [] (mk E c s (hh u)) := by rw [r247_54, w32_succ (by omega)]
    unfold ct1
    rw [r247_14, cmp_ge, if_neg (by omega), cmp_ne]
    by_cases y0 : x1 = 0
    · rw [if_neg (fun z => z y0), inb_is, if_pos i10, Int.toNat_natCast, cmp_ne, hu 90 i rfl, if_pos y0]
      by_cases z : g 90 i ≠ 0
      · rw [if_pos z, bI_t z, yes]
      · rw [if_neg z, bI_f z, cmp_ne, if_pos (by omega), r247_33, cmp_ne, if_pos (by omega), cmp_ne, if_pos (by omega), no]
    rw [if_pos y0, if_neg y0, cmp_ne]
    by_cases y2 : x1 = 2
    · rw [if_neg (fun z => z y2), inb_is, if_pos i10, Int.toNat_natCast, cmp_ne, hu 106 i rfl, if_pos y2]
      by_cases z : g 106 i ≠ 0
      · rw [if_pos z, bI_t z, yes]
      · rw [if_neg z, bI_f z, r247_33, cmp_ne, if_pos (by omega), cmp_ne, if_pos (by omega), no]
    rw [if_pos y2, if_neg y2, r247_33, cmp_ne]
    by_cases y6 : x1 = 6
    · rw [if_neg (fun z => z y6), inb_is, if_pos i10, Int.toNat_natCast, cmp_ge, hu 130 i rfl, if_pos y6]
      by_cases z : 0 ≤ g 130 i
      · rw [if_pos z, bI_t z, yes]
      · rw [if_neg z, bI_f z, cmp_ne, if_pos (by omega), no]
    rw [if_pos y6, if_neg y6, cmp_ne]
    by_cases y7 : x1 = 7
    · rw [if_neg (fun z => z y7), if_pos y7, cmp_ge]
      by_cases z4 : i < 4
      · rw [if_neg (by omega), inb_is, if_pos (by omega), Int.toNat_natCast, cmp_eq, hu 127 i rfl]
        by_cases z : g 127 i = 0
        · rw [if_pos z, bI_f (fun q => q.2 z), no]
        · rw [if_neg z, bI_t ⟨z4, z⟩, yes]
      · rw [if_pos (by omega), bI_f (fun q => z4 q.1), no]
    rw [if_pos y7, if_neg y7, no]
  have lp1 : ∀ (p i : Nat), i + p = 10 → ∀ u, onQ g u → Ev prog clsT X (d + 7) mc247 14 [(2, 89), (0, x1), (0, sm (ct1 g x1) i), (0, (i : Int))] [] (mk E c s (hh u)) = Ev prog clsT X (d + 7) mc247 61 [(2, 89), (0, x1), (0, sm (ct1 g x1) 10), (0, 0)] [] (mk E c s (hh u)) := by
    intro p
    induction p with
    | zero =>
      intro i hi u hu
      have hi : i = 10 := by omega
      subst hi
      rw [r247_14, cmp_ge, if_pos (by decide)]
    | succ p ih =>
      intro i hi u hu
      rw [st1 i _ u (by omega) hu, sm_step 1 rfl (fun j _ => ct1_b g x1 j) (by omega) (by omega)]
      exact ih (i + 1) (by omega) u hu
  have b1 := sm_bound (f := ct1 g x1) (a := 0) (b := 1) (n := 10) (fun i _ => ct1_b g x1 i)
  have b2 := sm_bound (f := ct2 g x1) (a := 0) (b := 1) (n := 40) (fun i _ => ct2_b g x1 i)
  generalize hA : sm (ct1 g x1) 10 = A at b1 lp1
  have lp2 : ∀ (p i : Nat), i + p = 40 → ∀ u, onQ g u → Ev prog clsT X (d + 7) mc247 61 [(2, 89), (0, x1), (0, A + sm (ct2 g x1) i), (0, (i : Int))] [] (mk E c s (hh u)) = Ev prog clsT X (d + 7) mc247 82 [(2, 89), (0, x1), (0, A + sm (ct2 g x1) 40), (0, 0)] [] (mk E c s (hh u)) := by
    by_cases y1 : x1 = 1
    case neg =>
      have e0 : ∀ n, sm (ct2 g x1) n = 0 := fun n => sm0 (fun i _ => if_neg y1)
      intro p i hi u hu
      rw [e0, e0, r247_61, cmp_ge]
      by_cases z : 40 ≤ (i : Int)
      · rw [if_pos z]
      · rw [if_neg z, cmp_ne, if_pos y1]
    intro p
    induction p with
    | zero =>
      intro i hi u hu
      have hi : i = 40 := by omega
      subst hi
      rw [r247_61, cmp_ge, if_pos (by decide)]
    | succ p ih =>
      intro i hi u hu
      have bi := sm_bound (f := ct2 g x1) (a := 0) (b := 1) (n := i) (fun i _ => ct2_b g x1 i)
      have step : ∀ v, v = ct2 g x1 i → w32 (A + sm (ct2 g x1) i + v) = A + sm (ct2 g x1) (i + 1) := fun v hv => by
        have := ct2_b g x1 i
        rw [hv, w32_of (by omega) (by omega)]
        show A + sm _ i + ct2 g x1 i = A + (sm _ i + ct2 g x1 i)
        omega
      rw [r247_61, cmp_ge, if_neg (by omega), cmp_ne, if_neg (fun z => z y1), inb_is, if_pos (by omega), Int.toNat_natCast, cmp_eq, hu 94 i rfl, w32_succ (by omega)]
      by_cases z : g 94 i = 0
      · rw [if_pos z, step 0 (by unfold ct2; rw [if_pos y1, bI_f (fun q => q z)])]
        exact ih (i + 1) (by omega) u hu
      · rw [if_neg z, step 1 (by unfold ct2; rw [if_pos y1, bI_t z])]
        exact ih (i + 1) (by omega) u hu
  generalize hB : sm (ct2 g x1) 40 = B at b2 lp2
  have lp3 : ∀ (p i : Nat), i + p = nE g → ∀ u, onQ g u → ∃ u', Ev prog clsT X (d + 7) mc247 82 [(2, 89), (0, x1), (0, A + B + sm (ct3 g w x1) i), (0, (i : Int))] [] (mk E c s (hh u)) = some ((0, if x1 = 3 then (nE g : Int) else if x1 = 8 then g 109 10 else if x1 = 9 then g 89 17 else A + B + sm (ct3 g w x1) (nE g)), mk E c s (hh u')) ∧ onQ g u' := by
    intro p
    induction p with
    | zero =>
      intro i hi u hu
      have hi : i = nE g := by omega
      subst hi
      refine ⟨u, ?_, hu⟩
      rw [r247_82, hu 89 10 rfl, hn2, cmp_ge, if_pos (Int.le_refl _), cmp_ne]
      by_cases y3 : x1 = 3
      · rw [if_neg (fun z => z y3), if_pos y3]
      rw [if_pos y3, if_neg y3, cmp_ne]
      by_cases y8 : x1 = 8
      · rw [if_neg (fun z => z y8), if_pos y8, hu 109 10 rfl]
      rw [if_pos y8, if_neg y8, cmp_ne]
      by_cases y9 : x1 = 9
      · rw [if_neg (fun z => z y9), if_pos y9, hu 89 17 rfl]
      rw [if_pos y9, if_neg y9]
    | succ p ih =>
      intro i hi u hu
      have i40 : 0 ≤ (i : Int) ∧ (i : Int) < ((40 : Nat) : Int) := by omega
      have bi := sm_bound (f := ct3 g w x1) (a := 0) (b := 9) (n := i) (fun i _ => ct3_b i)
      have hb := ct3_b i
      have step : ∀ v, v = ct3 g w x1 i → w32 (A + B + sm (ct3 g w x1) i + v) = A + B + sm (ct3 g w x1) (i + 1) := fun v hv => by
        rw [hv, w32_of (by omega) (by omega)]
        show A + B + sm _ i + ct3 g w x1 i = A + B + (sm _ i + ct3 g w x1 i)
        omega
      have nx := ih (i + 1) (by omega)
      rw [r247_82, hu 89 10 rfl, hn2, cmp_ge, if_neg (by omega), cmp_ne, w32_succ (by omega)]
      by_cases y10 : x1 = 10
      · rw [if_neg (fun z => z y10), inb_is, if_pos i40, Int.toNat_natCast, hu 103 i rfl, step _ (by unfold ct3; rw [if_pos y10])]
        exact nx u hu
      rw [if_pos y10, cmp_ne]
      by_cases y4 : x1 = 4
      · rw [if_neg (fun z => z y4), inb_is, if_pos i40, Int.toNat_natCast, cmp_eq, hu 104 i rfl]
        by_cases z : g 104 i = 0
        · rw [if_pos z, step 1 (by unfold ct3; rw [if_neg y10, if_pos y4, bI_t z])]
          exact nx u hu
        · rw [if_neg z, cmp_ne, if_pos (by omega), step 0 (by unfold ct3; rw [if_neg y10, if_pos y4, bI_f z])]
          exact nx u hu
      rw [if_pos y4, cmp_ne]
      by_cases y5 : x1 = 5
      · rw [if_neg (fun z => z y5), inb_is, if_pos i40, Int.toNat_natCast, cmp_ne, hu 104 i rfl]
        by_cases z : g 104 i = 0
        · obtain ⟨w1, wm⟩ := hw i (by omega)
          obtain ⟨u', c1, c2, _⟩ := wm d c s u hu
          rw [if_neg (fun q => q z), call0 c1, push0, r247_114, cmp_lt, w32_succ (by omega)]
          by_cases z2 : w i = -1
          · rw [if_pos (by omega), step 0 (by unfold ct3; rw [if_neg y10, if_neg y4, if_pos y5, bI_f (fun q => q.2 z2)])]
            exact nx u' c2
          · rw [if_neg (by omega), step 1 (by unfold ct3; rw [if_neg y10, if_neg y4, if_pos y5, bI_t ⟨z, z2⟩])]
            exact nx u' c2
        · rw [if_pos z, step 0 (by unfold ct3; rw [if_neg y10, if_neg y4, if_pos y5, bI_f (fun q => z q.1)])]
          exact nx u hu
      rw [if_pos y5, step 0 (by unfold ct3; rw [if_neg y10, if_neg y4, if_neg y5])]
      exact nx u hu
  have r1 := lp1 10 0 (by omega) (up u 89 0 0) hu0
  have r2 := lp2 40 0 (by omega) (up u 89 0 0) hu0
  have r1 : Ev prog clsT X (d + 7) mc247 14 [(2, 89), (0, x1), (0, 0), (0, 0)] [] (mk E c s (hh (up u 89 0 0))) = _ := r1
  have r2 : Ev prog clsT X (d + 7) mc247 61 [(2, 89), (0, x1), (0, A + 0), (0, 0)] [] (mk E c s (hh (up u 89 0 0))) = _ := r2
  obtain ⟨u', r3, r4⟩ := lp3 (nE g) 0 (by omega) (up u 89 0 0) hu0
  have r3 : Ev prog clsT X (d + 7) mc247 82 [(2, 89), (0, x1), (0, A + B + 0), (0, 0)] [] (mk E c s (hh (up u 89 0 0))) = _ := r3
  rw [Int.add_zero] at r2 r3
  exact ⟨u', (r1.trans r2).trans r3, r4⟩
theorem c137 (hb : RB g) (d c s : Nat) : Call prog clsT X (d + 1) 137 [(2, 0)] (mk E c s (hh g)) = some ((0, sm (ct1 g 2) 10), mk E c s (hh g)) := by
  rw [rc137_]
  have loop : ∀ (p i : Nat), i + p = 10 → Ev prog clsT X d mc137 4 [(2, 0), (0, sm (ct1 g 2) i), (0, (i : Int))] [] (mk E c s (hh g)) = some ((0, sm (ct1 g 2) 10), mk E c s (hh g)) := by
    intro p
    induction p with
    | zero =>
      intro i hi
      have hi : i = 10 := by omega
      subst hi
      rw [r137_4, cmp_ge, if_pos (by decide)]
    | succ p ih =>
      intro i hi
      have h1 := hb.1 i (by omega)
      have h2 := hb.2.1 i (by omega)
      have hst : ∀ v, v = ct1 g 2 i → w32 (sm (ct1 g 2) i + v) = sm (ct1 g 2) (i + 1) := fun v hv => sm_step 1 hv (fun j _ => ct1_b g 2 j) (by omega) (by omega)
      rw [r137_4, cmp_ge, if_neg (by omega), inb_is, if_pos (by omega), Int.toNat_natCast, if_pos ⟨rfl, by omega⟩, w32_succ (by omega)]
      by_cases z : g 16 i = -1
      · rw [if_pos (decide_eq_true z), hst 0 (by unfold ct1; rw [if_neg (by decide), if_pos rfl, bI_f (fun q => q (h1.1 z))])]
        exact ih (i + 1) (by omega)
      · rw [if_neg (fun q => z (of_decide_eq_true q)), hst 1 (by unfold ct1; rw [if_neg (by decide), if_pos rfl, bI_t (show g 106 i ≠ 0 from fun q => z (h1.2 q))])]
        exact ih (i + 1) (by omega)
  exact loop 10 0 (by omega)
theorem c138 {N : Int} (h : ST N E g) {w : Nat → Int} (hw : ∀ e, e < nE g → -1 ≤ w e ∧ w e ≤ 100 ∧ (∀ d c s u, onQ g u → ∃ u', Call prog clsT X (d + 6) 139 [(2, 0), (0, (e : Int))] (mk E c s (hh u)) = some ((0, w e), mk E c s (hh u')) ∧ onQ g u') ∧ ∀ d c s u, onQ g u → ∃ u', Call prog clsT X (d + 7) 188 [(2, 89), (0, (e : Int))] (mk E c s (hh u)) = some ((0, w e), mk E c s (hh u')) ∧ onQ g u' ∧ rfQ u u') (d c s : Nat) : ∃ u', Call prog clsT X (d + 7) 138 [(2, 0)] (mk E c s (hh g)) = some ((0, sm (ct3 g w 5) (nE g)), mk E c s (hh u')) ∧ onQ g u' := by
  have hle := h.1.1.1.rn.le
  have hn := h.1.1.1.n
  have c3b : ∀ i, 0 ≤ ct3 g w 5 i ∧ ct3 g w 5 i ≤ 1 := fun i => by
    unfold ct3
    rw [if_neg (by decide), if_neg (by decide), if_pos rfl]
    exact bI_b _
  rw [rc138_]
  have loop : ∀ (p i : Nat) (u : Gm), i + p = nE g → onQ g u → ∃ u', Ev prog clsT X (d + 6) mc138 4 [(2, 0), (0, sm (ct3 g w 5) i), (0, (i : Int))] [] (mk E c s (hh u)) = some ((0, sm (ct3 g w 5) (nE g)), mk E c s (hh u')) ∧ onQ g u' := by
    intro p
    induction p with
    | zero =>
      intro i u hi hu
      have hi : i = nE g := by omega
      subst hi
      refine ⟨u, ?_, hu⟩
      rw [r138_4, hu 30 0 rfl, hn, cmp_ge, if_pos (Int.le_refl _)]
    | succ p ih =>
      intro i u hi hu
      have hst : ∀ v, v = ct3 g w 5 i → w32 (sm (ct3 g w 5) i + v) = sm (ct3 g w 5) (i + 1) := fun v hv => sm_step 1 hv (fun j _ => c3b j) (by omega) (by omega)
      have e3 : ct3 g w 5 i = bI (g 104 i = 0 ∧ w i ≠ -1) := by
        unfold ct3
        rw [if_neg (by decide), if_neg (by decide), if_pos rfl]
      rw [r138_4, hu 30 0 rfl, hn, cmp_ge, if_neg (by omega), call0 (show Call prog clsT X (d + 6) 19 _ _ = _ from c19Q X h (d + 4) c s (i : Int) hu), push0, Int.toNat_natCast, r138_14, cmp_eq, w32_succ (by omega)]
      by_cases z : g 104 i = 0
      · obtain ⟨_, _, wc, _⟩ := hw i (by omega)
        obtain ⟨u', c1, c2⟩ := wc d c s u hu
        rw [bI_t (show 0 ≤ (i : Int) ∧ (i : Int) < nE g ∧ g 104 i = 0 from ⟨by omega, by omega, z⟩), if_neg (by decide), call0 c1, push0, r138_18, cmp_eq, w32_succ (by omega)]
        by_cases z2 : w i = -1
        · rw [if_pos z2, hst 0 (by rw [e3, bI_f (fun q => q.2 z2)])]
          exact ih (i + 1) u' (by omega) c2
        · rw [if_neg z2, hst 1 (by rw [e3, bI_t ⟨z, z2⟩])]
          exact ih (i + 1) u' (by omega) c2
      · rw [bI_f (show ¬ (0 ≤ (i : Int) ∧ (i : Int) < nE g ∧ g 104 i = 0) from fun q => z q.2.2), if_pos rfl, hst 0 (by rw [e3, bI_f (fun q => z q.1)])]
        exact ih (i + 1) u (by omega) hu
  exact loop (nE g) 0 g (by omega) (onQ_refl g)
theorem op_count (x1 : Int) : OpV X 136 247 8 [(0, x1)] := by
  intro N E c s d g h
  have hle := h.1.1.1.rn.le
  have i0 := h.1.1
  obtain ⟨w, hw⟩ := EW X h
  have mm := m247 X h (w := w) (fun e he => ⟨(hw e he).1, (hw e he).2.2.2⟩) d c s x1
  by_cases hx : 0 ≤ x1 ∧ x1 ≤ 10
  case neg =>
    obtain ⟨g2, b1, b2⟩ := mm g (onQ_refl g)
    rw [if_neg hx] at b1
    refine ⟨-1, g, g2, b2, ?_, b1⟩
    rw [rc136_, r136_1, if_pos (by omega), r136_45]
  rw [if_pos hx] at mm
  -- it is enough to know what the class answers
  have fin : ∀ g1, onQ g g1 → Call prog clsT X (d + 8) 136 [(2, 0), (0, x1)] (mk E c s (hh g)) = some ((0, if x1 = 3 then (nE g : Int) else if x1 = 8 then g 109 10 else if x1 = 9 then g 89 17 else sm (ct1 g x1) 10 + sm (ct2 g x1) 40 + sm (ct3 g w x1) (nE g)), mk E c s (hh g1)) → ∃ v g1 g2, onQ g g2 ∧ Call prog clsT X (d + 8) 136 [(2, 0), (0, x1)] (mk E c s (hh g)) = some ((0, v), mk E c s (hh g1)) ∧ Call prog clsT X (d + 8) 247 [(2, 89), (0, x1)] (mk E c s (hh g1)) = some ((0, v), mk E c s (hh g2)) := fun g1 h1 hc => by
    obtain ⟨g2, b1, b2⟩ := mm g1 h1
    exact ⟨_, g1, g2, b2, hc, b1⟩
  have z1 : ∀ x : Int, ¬ (x = 0 ∨ x = 2 ∨ x = 6 ∨ x = 7) → sm (ct1 g x) 10 = 0 := fun x hx => sm0 (fun i _ => by unfold ct1; rw [if_neg (by omega), if_neg (by omega), if_neg (by omega), if_neg (by omega)])
  have z2 : ∀ x : Int, x ≠ 1 → sm (ct2 g x) 40 = 0 := fun x hx => sm0 (fun i _ => if_neg hx)
  have z3 : ∀ x : Int, ¬ (x = 10 ∨ x = 4 ∨ x = 5) → sm (ct3 g w x) (nE g) = 0 := fun x hx => sm0 (fun i _ => by unfold ct3; rw [if_neg (by omega), if_neg (by omega), if_neg (by omega)])
  have hc : x1 = 0 ∨ x1 = 1 ∨ x1 = 2 ∨ x1 = 3 ∨ x1 = 4 ∨ x1 = 5 ∨ x1 = 6 ∨ x1 = 7 ∨ x1 = 8 ∨ x1 = 9 ∨ x1 = 10 := by omega
  rcases hc with y | y | y | y | y | y | y | y | y | y | y <;> subst y
  · refine fin g (onQ_refl g) ?_
    rw [rc136_, r136_1, if_neg (by decide)]
    show Ev prog clsT X (d + 7) mc136 2 _ [] _ = _
    rw [r136_2, call0 (show Call prog clsT X (d + 7) 86 _ _ = _ from c86 X E c s i0.2.1 (d + 6)), push0, r136_5, if_neg (by decide), if_neg (by decide), if_neg (by decide), z2 _ (by decide), z3 _ (by decide), Int.add_zero, Int.add_zero]
    rfl
  · refine fin g (onQ_refl g) ?_
    rw [rc136_, r136_1, if_neg (by decide)]
    show Ev prog clsT X (d + 7) mc136 6 _ [] _ = _
    rw [r136_6, call0 (show Call prog clsT X (d + 7) 87 _ _ = _ from c87 X E c s i0.2.1 (d + 6)), push0, r136_9, if_neg (by decide), if_neg (by decide), if_neg (by decide), z1 _ (by decide), z3 _ (by decide), Int.zero_add, Int.add_zero]
    rfl
  · refine fin g (onQ_refl g) ?_
    rw [rc136_, r136_1, if_neg (by decide)]
    show Ev prog clsT X (d + 7) mc136 10 _ [] _ = _
    rw [r136_10, call0 (show Call prog clsT X (d + 7) 137 _ _ = _ from c137 X h.1.2.1 (d + 6) c s), push0, r136_12, if_neg (by decide), if_neg (by decide), if_neg (by decide), z2 _ (by decide), z3 _ (by decide), Int.add_zero, Int.add_zero]
  · refine fin g (onQ_refl g) ?_
    rw [rc136_, r136_1, if_neg (by decide)]
    show Ev prog clsT X (d + 7) mc136 13 _ [] _ = _
    rw [r136_13, if_pos rfl, i0.1.n]
  · refine fin g (onQ_refl g) ?_
    rw [rc136_, r136_1, if_neg (by decide)]
    show Ev prog clsT X (d + 7) mc136 17 _ [] _ = _
    obtain ⟨_, _, _, i64, htb, _⟩ := i0.1
    have e4 : (bc (g 30 1) : Int) = sm (ct3 g w 4) (nE g) := by
      rw [bc_sm]
      have e1 : sm (fun i => bI (tb (g 30 1) i = true)) (nE g + (64 - nE g)) = sm (fun i => bI (tb (g 30 1) i = true)) (nE g) := sm_zero (nE g) (64 - nE g) (fun i h1 h2 => bI_f (fun q => by rw [htb i (by omega)] at q; have := of_decide_eq_true q; omega))
      rw [show nE g + (64 - nE g) = 64 by omega] at e1
      rw [e1]
      refine sm_congr (fun i hi => ?_)
      unfold ct3
      rw [if_neg (by decide), if_pos rfl, htb i (by omega)]
      exact bI_iff ⟨fun q => (of_decide_eq_true q).2, fun q => decide_eq_true ⟨hi, q⟩⟩
    rw [r136_17, call0 (show Call prog clsT X (d + 7) 264 _ _ = _ from m264 X E c s _ (d + 6) i64), push0, r136_21, if_neg (by decide), if_neg (by decide), if_neg (by decide), z1 _ (by decide), z2 _ (by decide), Int.zero_add, Int.zero_add, e4]
  · obtain ⟨g1, a1, a2⟩ := c138 X h hw d c s
    refine fin g1 a2 ?_
    rw [rc136_, r136_1, if_neg (by decide)]
    show Ev prog clsT X (d + 7) mc136 22 _ [] _ = _
    rw [r136_22, call0 a1, push0, r136_24, if_neg (by decide), if_neg (by decide), if_neg (by decide), z1 _ (by decide), z2 _ (by decide), Int.zero_add, Int.zero_add]
  · refine fin g (onQ_refl g) ?_
    rw [rc136_, r136_1, if_neg (by decide)]
    show Ev prog clsT X (d + 7) mc136 25 _ [] _ = _
    rw [r136_25, call0 (show Call prog clsT X (d + 7) 35 _ _ = _ from c35 X E c s i0.2.2.1 (d + 6)), push0, r136_28, if_neg (by decide), if_neg (by decide), if_neg (by decide), z2 _ (by decide), z3 _ (by decide), Int.add_zero, Int.add_zero]
    rfl
  · refine fin g (onQ_refl g) ?_
    rw [rc136_, r136_1, if_neg (by decide)]
    show Ev prog clsT X (d + 7) mc136 29 _ [] _ = _
    have e7 : sm (fun i => bI (g 127 i ≠ 0)) 4 = sm (ct1 g 7) 10 := by
      have e1 : sm (ct1 g 7) (4 + 6) = sm (ct1 g 7) 4 := sm_zero 4 6 (fun i h1 h2 => by unfold ct1; rw [if_neg (by decide), if_neg (by decide), if_neg (by decide), if_pos rfl, bI_f (fun q => by omega)])
      rw [show (10 : Nat) = 4 + 6 from rfl, e1]
      refine sm_congr (fun i hi => ?_)
      unfold ct1
      rw [if_neg (by decide), if_neg (by decide), if_neg (by decide), if_pos rfl]
      exact bI_iff ⟨fun q => ⟨hi, q⟩, fun q => q.2⟩
    rw [r136_29, call0 (show Call prog clsT X (d + 7) 36 _ _ = _ from c36 X E c s i0.2.2.1 (d + 6)), push0, r136_32, if_neg (by decide), if_neg (by decide), if_neg (by decide), z2 _ (by decide), z3 _ (by decide), Int.add_zero, Int.add_zero, e7]
  · refine fin g (onQ_refl g) ?_
    rw [rc136_, r136_1, if_neg (by decide)]
    show Ev prog clsT X (d + 7) mc136 33 _ [] _ = _
    obtain ⟨rb, hb, cap, a1, _, _, _, _, a6, _⟩ := h.1.2.2.2.2.2.1
    have f2 : ∀ {kk : Int → Option MRes}, (fget 3592 (mk E c s (hh g)) (rb : Int)).bind kk = kk (g rb 2) := fun {kk} => fgR E c s (by decide) a1.1
    rw [r136_33, hb, f2, if_neg (by decide), if_pos rfl, a6]
  · refine fin g (onQ_refl g) ?_
    rw [rc136_, r136_1, if_neg (by decide)]
    show Ev prog clsT X (d + 7) mc136 37 _ [] _ = _
    rw [r136_37, if_neg (by decide), if_neg (by decide), if_pos rfl, h.1.2.2.1.1]
  · refine fin g (onQ_refl g) ?_
    rw [rc136_, r136_1, if_neg (by decide)]
    show Ev prog clsT X (d + 7) mc136 41 _ [] _ = _
    have e10 : sm (fun e => g 103 e) (nE g) = sm (ct3 g w 10) (nE g) := sm_congr (fun i _ => by unfold ct3; rw [if_pos rfl])
    rw [r136_41, call0 (show Call prog clsT X (d + 7) 25 _ _ = _ from c25 X E c s i0.1 (d + 6)), push0, r136_44, if_neg (by decide), if_neg (by decide), if_neg (by decide), z1 _ (by decide), z2 _ (by decide), Int.zero_add, Int.zero_add, e10]
end COUNT
