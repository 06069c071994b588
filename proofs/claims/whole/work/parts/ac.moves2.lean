/-! Part ac: moves, the fewest. -/
theorem mvW_untold (g : Gm) (y : Int) : ∀ (m k : Nat) (R : Nat → Int) (n : Int) (p : Nat → Int), ∀ w, w ∈ mvW g y m k R n p → ∀ i, k ≤ i → i < k + m → g 106 i = 0 → w.2 i = -1 := by
  intro m
  induction m with
  | zero => intro k R n p w _ i h1 h2 _; exact absurd h2 (by omega)
  | succ m ih =>
    intro k R n p w hw i h1 h2 h3
    have e : mvW g y (m + 1) k R n p = if g 106 k = 0 then mvW g y m (k + 1) R n (pt p k (-1)) else wyT (fun t => if ndG g y k ≤ R t then mvW g y m (k + 1) (pt R t (R t - ndG g y k)) (if (t : Int) = g 132 k then n else n + 1) (pt p k (t : Int)) else []) 3 0 := rfl
    rw [e] at hw
    by_cases z : g 106 k = 0
    · rw [if_pos z] at hw
      by_cases q : i = k
      · subst q
        rw [(mvW_ge g y _ _ _ _ _ w hw).2.2 i (by omega), pt_same]
      · exact ih (k + 1) _ _ _ w hw i (by omega) (by omega) h3
    · rw [if_neg z] at hw
      have ne : i ≠ k := fun q => z (by rw [← q]; exact h3)
      refine wyT_mem (P := fun w => w.2 i = -1) 3 0 (fun t _ _ v hv => ?_) w hw
      have hv : v ∈ if ndG g y k ≤ R t then mvW g y m (k + 1) (pt R t (R t - ndG g y k)) (if (t : Int) = g 132 k then n else n + 1) (pt p k (t : Int)) else [] := hv
      by_cases q : ndG g y k ≤ R t
      · rw [if_pos q] at hv
        exact ih (k + 1) _ _ _ v hv i (by omega) (by omega) h3
      · rw [if_neg q] at hv; cases hv
/-- what a search of the reference comes to -/
def mvS (E : List (Nat × Nat)) (c s : Nat) (k : Nat) (l : List Wy) (a : Wy) (u : Gm) (o : Option MRes) : Prop := ∃ u' : Gm, (∀ x i, x ≠ 135 → x ≠ 136 → x ≠ 137 → ¬ (x = 89 ∧ i = 60) → u' x i = u x i) ∧ o = some ((3, 0), mk E c s (hh u')) ∧ u' 89 60 = (wyB a l).1 ∧ (0 ≤ (wyB a l).1 → ∀ i, i < 10 → u' 137 i = (wyB a l).2 i) ∧ (∀ t, t < 3 → u' 135 t = u 135 t) ∧ ∀ i, i < k → u' 136 i = u 136 i
section MOVES2
variable (X : MExt) {E : List (Nat × Nat)} {g : Gm}
/-- Hall.fewestMoves -/
theorem c28 {N : Int} (h : ST N E g) (y : Int) (c s d : Nat) {u : Gm} (h45 : ∀ i : Nat, i < 10 → u 45 i = if g 106 i = 0 then -1 else ndG g y i) (h42 : ∀ i : Nat, u 42 i = g 132 i) (h41 : ∀ i : Nat, u 41 i = g 131 i) : ∃ u' : Gm, (∀ x i, x ≠ 46 → x ≠ 47 → u' x i = u x i) ∧ Call prog clsT X (d + 12) 28 [(2, 40)] (mk E c s (hh u)) = some ((0, (wyB (-1, fun _ => 0) (mvW g y 10 0 (g 131) 0 (fun _ => 0))).1), mk E c s (hh u')) ∧ (0 ≤ (wyB (-1, fun _ => 0) (mvW g y 10 0 (g 131) 0 (fun _ => 0))).1 → ∀ i : Nat, i < 10 → g 106 i ≠ 0 → u' 46 i = (wyB (-1, fun _ => 0) (mvW g y 10 0 (g 131) 0 (fun _ => 0))).2 i) := by
  have hnd : ∀ k : Nat, k < 10 → 0 ≤ ndG g y k ∧ ndG g y k ≤ 891 := fun k hk => (nd_b h y hk).2
  have b131 : ∀ i : Nat, 0 ≤ g 131 i ∧ g 131 i ≤ 99 := h.1.1.2.2.2.1.2.1
  have b0 := b131 0
  have b1 := b131 1
  have b2 := b131 2
  have ge := mvW_ge g y 10 0 (g 131) 0 (fun _ => 0)
  have fit := mvW_fit g y 10 0 (g 131) 0 (fun _ => 0) (by omega) (fun t _ => (b131 t).1)
  have cl := fun d most (u1 : Gm) => c29 X (E := E) (g := g) y hnd c s 10 d 0 (g 131) 0 most (fun _ => 0) u1 (by omega)
  obtain ⟨L, eL⟩ : ∃ L, L = mvW g y 10 0 (g 131) 0 (fun _ => 0) := ⟨_, rfl⟩
  rw [← eL] at ge fit cl ⊢
  have st := wyB_start (l := L) (fun _ => 0) (fun w hw => (ge w hw).1)
  obtain ⟨B, eB⟩ : ∃ B, B = wyB (-1, fun _ => 0) L := ⟨_, rfl⟩
  rw [← eB] at st ⊢
  have lp2 : ∀ (m i : Nat) (w1 : MV) (u1 : Gm), i + m = 11 → (∀ x j, x ≠ 46 → x ≠ 47 → u1 x j = u x j) → (∀ x : Int, x < (i : Int) → wyF x L = none) → ∃ u' : Gm, (∀ x j, x ≠ 46 → x ≠ 47 → u' x j = u x j) ∧ Ev prog clsT X (d + 11) mc28 38 [(2, 40), w1, (0, (i : Int))] [] (mk E c s (hh u1)) = some ((0, B.1), mk E c s (hh u')) ∧ (0 ≤ B.1 → ∀ i : Nat, i < 10 → g 106 i ≠ 0 → u' 46 i = B.2 i) := by
    intro m
    induction m with
    | zero =>
      intro i w1 u1 hi f hn
      have hi : i = 11 := by omega
      subst hi
      have e : L = [] ∧ B = (-1, fun _ => 0) := by
        rcases st with q | ⟨q1, q2, q3, q4⟩
        · exact q
        · have hm := wyF_mem q3
          have := (ge _ hm.1).2.1
          rw [hn B.1 (by omega)] at q3
          cases q3
      refine ⟨u1, f, ?_, fun q => ?_⟩
      · rw [r28_38, cmp_gt, if_pos (by decide), e.2]
      · rw [e.2] at q; exact absurd q (show ¬ (0 : Int) ≤ -1 by decide)
    | succ m ih =>
      intro i w1 u1 hi f hn
      have c47 : ∀ t, t < 3 → cpy u1 41 47 3 47 t = g 131 t := fun t ht => by
        unfold cpy
        rw [if_pos ⟨rfl, by omega, by omega⟩, Nat.sub_zero, Nat.zero_add, f 41 t (by decide) (by decide), h41]
      have cx : ∀ x j, x ≠ 46 → x ≠ 47 → cpy u1 41 47 3 x j = u x j := fun x j h1 h2 => by rw [cpy_cell h2, f x j h1 h2]
      obtain ⟨u', a1, a2⟩ := cl d (i : Int) (cpy u1 41 47 3) (fun j hj => by rw [cx 45 j (by decide) (by decide)]; exact h45 j hj) (fun j => by rw [cx 42 j (by decide) (by decide)]; exact h42 j) (fun t ht => ⟨c47 t ht, (b131 t).1, (b131 t).2⟩) (Int.le_refl _) (by omega) (by omega) (fun j hj => absurd hj (Nat.not_lt_zero _))
      have a3 : ∀ x j, x ≠ 46 → x ≠ 47 → u' x j = u x j := fun x j h1 h2 => by rw [a1 x j h1 h2, cx x j h1 h2]
      rw [Int.sub_zero] at a2
      rcases a2 with ⟨q1, q2, _, _⟩ | ⟨w, q1, q2, q3⟩
      · obtain ⟨u2, e1, e2, e3⟩ := ih (i + 1) (3, 0) u' (by omega) a3 (fun x hx => by
          by_cases z : x < (i : Int)
          · exact hn x z
          · rw [show x = (i : Int) by omega]; exact q1)
        refine ⟨u2, e1, ?_, e3⟩
        rw [r28_38, cmp_gt, if_neg (by omega), call0 (show Call prog clsT X (d + 11) 29 [(2, 40), (0, 0), (0, (i : Int))] _ = _ from q2), push0, r28_53, cmp_eq, if_pos rfl, w32_succ (by omega)]
        exact e2
      · have e : B.1 = (i : Int) ∧ B = w := by
          rcases st with ⟨z1, _⟩ | ⟨_, _, z3, z4⟩
          · rw [z1] at q1; cases q1
          · have n1 : ¬ (i : Int) < B.1 := fun z => by rw [z4 _ z] at q1; cases q1
            have n2 : ¬ B.1 < (i : Int) := fun z => by rw [hn _ z] at z3; cases z3
            have e1 : B.1 = (i : Int) := by omega
            rw [e1, q1] at z3
            injection z3 with z3
            exact ⟨e1, z3.symm⟩
        refine ⟨u', a3, ?_, fun _ => by rw [e.2]; exact q3⟩
        rw [r28_38, cmp_gt, if_neg (by omega), call0 (show Call prog clsT X (d + 11) 29 [(2, 40), (0, 0), (0, (i : Int))] _ = _ from q2), push0, r28_53, cmp_eq, if_neg (by decide), e.1]
  have lp1 : ∀ (m i : Nat), i + m = 10 → Ev prog clsT X (d + 11) mc28 4 [(2, 40), (0, sm (ndG g y) i), (0, (i : Int))] [] (mk E c s (hh u)) = if sm (ndG g y) 10 ≤ g 131 0 + g 131 1 + g 131 2 then Ev prog clsT X (d + 11) mc28 38 [(2, 40), (0, sm (ndG g y) 10), (0, 0)] [] (mk E c s (hh u)) else some ((0, -1), mk E c s (hh u)) := by
    intro m
    induction m with
    | zero =>
      intro i hi
      have hi : i = 10 := by omega
      subst hi
      rw [r28_4, cmp_ge, if_pos (by decide), cmp_le, h41, h41, h41, w32_of (x := g 131 0 + g 131 1) (by omega) (by omega), w32_of (x := g 131 0 + g 131 1 + g 131 2) (by omega) (by omega)]
    | succ m ih =>
      intro i hi
      have i10 : 0 ≤ (i : Int) ∧ (i : Int) < ((10 : Nat) : Int) := by omega
      have b := hnd i (by omega)
      have ev : (if u 45 i < 0 then 0 else u 45 i) = ndG g y i := by
        rw [h45 i (by omega)]
        by_cases z : g 106 i = 0
        · rw [if_pos z, if_pos (by decide)]
          unfold ndG
          rw [if_pos z]
        · rw [if_neg z, if_neg (by omega)]
      rw [r28_4, cmp_ge, if_neg (by omega), inb_is, if_pos i10, Int.toNat_natCast, ev, sm_step (f := ndG g y) 891 rfl (fun j hj => hnd j (by omega)) (by omega) (by omega), w32_succ (by omega)]
      exact ih (i + 1) (by omega)
  rw [rc28_, show Ev prog clsT X (d + 11) mc28 4 [(2, 40), (0, 0), (0, 0)] [] (mk E c s (hh u)) = _ from lp1 10 0 (by omega)]
  by_cases q : sm (ndG g y) 10 ≤ g 131 0 + g 131 1 + g 131 2
  · rw [if_pos q]
    exact lp2 11 0 _ u (by omega) (fun _ _ _ _ => rfl) (fun x hx => wyF_none (fun w hw => by have := (ge w hw).1; omega))
  · rw [if_neg q]
    have e : B = (-1, fun _ => 0) := by
      rcases st with z | ⟨z1, _, z3, _⟩
      · exact z.2
      · have a : sm (ndG g y) 10 ≤ sm (ndG g y) 0 + (g 131 0 + g 131 1 + g 131 2) := fit _ (wyF_mem z3).1
        have a0 : sm (ndG g y) 0 = 0 := rfl
        rw [a0] at a
        omega
    refine ⟨u, fun _ _ _ _ => rfl, by rw [e], fun z => ?_⟩
    rw [e] at z
    exact absurd z (show ¬ (0 : Int) ≤ -1 by decide)
/-- Model.seats -/
theorem m220 (y : Int) (hnd : ∀ k : Nat, k < 10 → 0 ≤ ndG g y k ∧ ndG g y k ≤ 891) (hft : ∀ t : Nat, 0 ≤ g 131 t ∧ g 131 t ≤ 99) (c s : Nat) : ∀ (m d k : Nat) (R : Nat → Int) (n : Int) (p : Nat → Int) (u : Gm) (a : Wy), k + m = 10 → (∀ i : Nat, i < 10 → u 134 i = ndG g y i) → (∀ i : Nat, u 106 i = g 106 i) → (∀ i : Nat, u 132 i = g 132 i) → (∀ i : Nat, u 131 i = g 131 i) → (∀ t, t < 3 → u 135 t = g 131 t - R t ∧ 0 ≤ R t ∧ R t ≤ g 131 t) → 0 ≤ n → n + m ≤ 10 → (∀ i, i < k → u 136 i = p i) → u 89 60 = a.1 → (0 ≤ a.1 → ∀ i, i < 10 → u 137 i = a.2 i) → mvS E c s k (mvW g y m k R n p) a u (Call prog clsT X (d + m + 1) 220 [(2, 89), (0, (k : Int)), (0, n)] (mk E c s (hh u))) := by
  intro m
  induction m with
  | zero =>
    intro d k R n p u a hk h134 h106 h132 h131 h135 n0 nm hp h60 h137
    have hk : k = 10 := by omega
    subst hk
    have eW : mvW g y 0 10 R n p = [(n, p)] := rfl
    have eB : wyB a [(n, p)] = if 0 ≤ a.1 ∧ a.1 ≤ n then a else (n, p) := rfl
    have cop : ∀ (m i : Nat) (w1 w2 : MV) (u1 : Gm), i + m = 10 → (∀ x j, x ≠ 137 → u1 x j = up u 89 60 n x j) → (∀ j, j < i → u1 137 j = p j) → ∃ u' : Gm, Ev prog clsT X (d + 0) mc220 16 [(2, 89), w1, w2, (0, (i : Int))] [] (mk E c s (hh u1)) = some ((3, 0), mk E c s (hh u')) ∧ (∀ x j, x ≠ 137 → u' x j = up u 89 60 n x j) ∧ ∀ j, j < 10 → u' 137 j = p j := by
      intro m
      induction m with
      | zero =>
        intro i w1 w2 u1 hi f1 f2
        have hi : i = 10 := by omega
        subst hi
        exact ⟨u1, by rw [r220_16, cmp_ge, if_pos (by decide)], f1, f2⟩
      | succ m ih =>
        intro i w1 w2 u1 hi f1 f2
        have i10 : 0 ≤ (i : Int) ∧ (i : Int) < ((10 : Nat) : Int) := by omega
        have e136 : u1 136 i = p i := by rw [f1 136 i (by decide), up_cell (by decide)]; exact hp i (by omega)
        rw [r220_16, cmp_ge, if_neg (by omega), inb_is, if_pos i10, inb_is, if_pos i10, Int.toNat_natCast, e136, w32_succ (by omega)]
        exact ih (i + 1) _ _ _ (by omega) (fun x j hx => by rw [up_cell hx]; exact f1 x j hx) (fun j hj => by
          rw [up_at]
          by_cases zj : j = i
          · rw [if_pos zj, zj]
          · rw [if_neg zj]; exact f2 j (by omega))
    have main : ¬ (0 ≤ a.1 ∧ a.1 ≤ n) → mvS E c s 10 (mvW g y 0 10 R n p) a u (Ev prog clsT X (d + 0) mc220 8 [(2, 89), (0, ((10 : Nat) : Int)), (0, n), (3, 0)] [] (mk E c s (hh u))) := by
      intro hq
      obtain ⟨u', b1, b2, b3⟩ := cop 10 0 (0, ((10 : Nat) : Int)) (0, n) (up u 89 60 n) (by omega) (fun _ _ _ => rfl) (fun j hj => absurd hj (Nat.not_lt_zero _))
      refine ⟨u', fun x i x1 x2 x3 x4 => ?_, ?_, ?_, fun _ i hi => ?_, fun t _ => ?_, fun i _ => ?_⟩
      · rw [b2 x i x3]
        exact if_neg x4
      · rw [r220_8, cmp_ne, if_neg (by decide)]
        exact b1
      · rw [eW, eB, if_neg hq, b2 89 60 (by decide)]
        exact if_pos ⟨rfl, rfl⟩
      · rw [eW, eB, if_neg hq]
        exact b3 i hi
      · rw [b2 135 t (by decide), up_cell (by decide)]
      · rw [b2 136 i (by decide), up_cell (by decide)]
    rw [rc220_, cmp_lt, h60]
    by_cases q1 : a.1 < 0
    · rw [if_pos q1]
      exact main (by omega)
    · rw [if_neg q1, cmp_lt]
      by_cases q2 : n < a.1
      · rw [if_pos q2]
        exact main (by omega)
      · rw [if_neg q2]
        refine ⟨u, fun _ _ _ _ _ _ => rfl, rfl, ?_, ?_, fun _ _ => rfl, fun _ _ => rfl⟩
        · rw [eW, eB, if_pos ⟨by omega, by omega⟩]; exact h60
        · rw [eW, eB, if_pos ⟨by omega, by omega⟩]; exact h137
  | succ m ih =>
    intro d k R n p u a hk h134 h106 h132 h131 h135 n0 nm hp h60 h137
    have i10 : 0 ≤ (k : Int) ∧ (k : Int) < ((10 : Nat) : Int) := by omega
    have hb := hnd k (by omega)
    have eW : mvW g y (m + 1) k R n p = if g 106 k = 0 then mvW g y m (k + 1) R n (pt p k (-1)) else wyT (fun t => if ndG g y k ≤ R t then mvW g y m (k + 1) (pt R t (R t - ndG g y k)) (if (t : Int) = g 132 k then n else n + 1) (pt p k (t : Int)) else []) 3 0 := rfl
    have main : mvS E c s k (mvW g y (m + 1) k R n p) a u (Ev prog clsT X (d + (m + 1)) mc220 8 [(2, 89), (0, (k : Int)), (0, n), (3, 0)] [] (mk E c s (hh u))) := by
      rw [eW, r220_8, cmp_ne, if_pos (show ¬ (k : Int) = 10 by omega), inb_is, if_pos i10, cmp_ne, Int.toNat_natCast, h106]
      by_cases z : g 106 k = 0
      · rw [if_pos z, if_neg (fun w => w z), inb_is, if_pos i10, w32_succ (by omega)]
        have ne : ∀ x j, x ≠ 136 → up u 136 k (-1) x j = u x j := fun x j hx => up_cell hx
        obtain ⟨u', b1, b2, b3, b4, b5, b6⟩ := ih d (k + 1) R n (pt p k (-1)) (up u 136 k (-1)) a (by omega) (fun i hi => by rw [ne 134 i (by decide)]; exact h134 i hi) (fun i => by rw [ne 106 i (by decide)]; exact h106 i) (fun i => by rw [ne 132 i (by decide)]; exact h132 i) (fun i => by rw [ne 131 i (by decide)]; exact h131 i) (fun t ht => by rw [ne 135 t (by decide)]; exact h135 t ht) n0 (by omega) (fun i hi => by
          rw [up_at, pt_at]
          by_cases zi : i = k
          · rw [if_pos zi, if_pos zi]
          · rw [if_neg zi, if_neg zi]; exact hp i (by omega)) (by rw [ne 89 60 (by decide)]; exact h60) (fun q i hi => by rw [ne 137 i (by decide)]; exact h137 q i hi)
        refine ⟨u', fun x i x1 x2 x3 x4 => by rw [b1 x i x1 x2 x3 x4, ne x i x2], ?_, b3, b4, fun t ht => by rw [b5 t ht, ne 135 t (by decide)], fun i hi => by rw [b6 i (by omega), up_at, if_neg (by omega)]⟩
        rw [call3 (show Call prog clsT X (d + (m + 1)) 220 _ _ = _ from b2), push3, r220_46]
      rw [if_neg z, if_pos z]
      have loop : ∀ (r t : Nat) (u1 : Gm) (a1 : Wy), t + r = 3 → (∀ x i, x ≠ 135 → x ≠ 136 → x ≠ 137 → ¬ (x = 89 ∧ i = 60) → u1 x i = u x i) → (∀ t, t < 3 → u1 135 t = u 135 t) → (∀ i, i < k → u1 136 i = u 136 i) → u1 89 60 = a1.1 → (0 ≤ a1.1 → ∀ i, i < 10 → u1 137 i = a1.2 i) → mvS E c s k (wyT (fun t => if ndG g y k ≤ R t then mvW g y m (k + 1) (pt R t (R t - ndG g y k)) (if (t : Int) = g 132 k then n else n + 1) (pt p k (t : Int)) else []) r t) a1 u (Ev prog clsT X (d + (m + 1)) mc220 49 [(2, 89), (0, (k : Int)), (0, n), (0, (t : Int))] [] (mk E c s (hh u1))) := by
        intro r
        induction r with
        | zero =>
          intro t u1 a1 ht f1 f2 f3 f4 f5
          have ht : t = 3 := by omega
          subst ht
          refine ⟨u1, f1, ?_, f4, f5, f2, f3⟩
          rw [r220_49, cmp_ge, if_pos (by decide)]
        | succ r ihr =>
          intro t u1 a1 ht f1 f2 f3 f4 f5
          have i3 : 0 ≤ (t : Int) ∧ (t : Int) < ((3 : Nat) : Int) := by omega
          have eT : ∀ F : Nat → List Wy, wyT F (r + 1) t = F t ++ wyT F r (t + 1) := fun _ => rfl
          have fx : ∀ x i, x ≠ 135 → x ≠ 136 → x ≠ 137 → x ≠ 89 → u1 x i = u x i := fun x i x1 x2 x3 x4 => f1 x i x1 x2 x3 (fun q => x4 q.1)
          have hR := h135 t (by omega)
          have bf := hft t
          have e135 : u1 135 t = g 131 t - R t := by rw [f2 t (by omega)]; exact hR.1
          have e134 : u1 134 k = ndG g y k := by rw [fx 134 k (by decide) (by decide) (by decide) (by decide)]; exact h134 k (by omega)
          have e131 : u1 131 t = g 131 t := by rw [fx 131 t (by decide) (by decide) (by decide) (by decide)]; exact h131 t
          have e132 : u1 132 k = g 132 k := by rw [fx 132 k (by decide) (by decide) (by decide) (by decide)]; exact h132 k
          rw [eT]
          show mvS E c s k ((if ndG g y k ≤ R t then mvW g y m (k + 1) (pt R t (R t - ndG g y k)) (if (t : Int) = g 132 k then n else n + 1) (pt p k (t : Int)) else []) ++ _) a1 u _
          rw [r220_49, cmp_ge, if_neg (show ¬ (3 : Int) ≤ (t : Int) by omega), inb_is, if_pos i3, inb_is, if_pos i10, inb_is, if_pos i3, cmp_le, Int.toNat_natCast, Int.toNat_natCast, e135, e134, e131, w32_of (x := g 131 t - R t + ndG g y k) (by omega) (by omega)]
          by_cases q2 : ndG g y k ≤ R t
          case neg =>
            rw [if_neg q2, if_neg (show ¬ g 131 t - R t + ndG g y k ≤ g 131 t by omega), w32_succ (by omega)]
            exact ihr (t + 1) u1 a1 (by omega) f1 f2 f3 f4 f5
          rw [if_pos q2, if_pos (show g 131 t - R t + ndG g y k ≤ g 131 t by omega), inb_is, if_pos i3, inb_is, if_pos i10, inb_is, if_pos i3, inb_is, if_pos i10, inb_is, if_pos i10, cmp_ne, e132, w32_succ (i := k) (by omega)]
          have go : ∀ cs : Int, 0 ≤ cs → cs ≤ 1 → (if (t : Int) = g 132 k then n else n + 1) = n + cs → mvS E c s k ((mvW g y m (k + 1) (pt R t (R t - ndG g y k)) (n + cs) (pt p k (t : Int))) ++ wyT (fun t => if ndG g y k ≤ R t then mvW g y m (k + 1) (pt R t (R t - ndG g y k)) (if (t : Int) = g 132 k then n else n + 1) (pt p k (t : Int)) else []) r (t + 1)) a1 u ((Call prog clsT X (d + (m + 1)) 220 [(2, 89), (0, ((k + 1 : Nat) : Int)), (0, w32 (n + cs))] (mk E c s (hh (up (up u1 135 t (g 131 t - R t + ndG g y k)) 136 k (t : Int))))).bind fun r1 => if r1.1.1 = 4 then none else Ev prog clsT X (d + (m + 1)) mc220 99 [(2, 89), (0, (k : Int)), (0, n), (0, (t : Int))] (pushR r1.1 []) r1.2) := by
            intro cs c0 c1 _
            have aa : ∀ x i, x ≠ 135 → x ≠ 136 → up (up u1 135 t (g 131 t - R t + ndG g y k)) 136 k (t : Int) x i = u1 x i := fun x i h1 h2 => by rw [up_cell h2, up_cell h1]
            have a135 : ∀ i, up (up u1 135 t (g 131 t - R t + ndG g y k)) 136 k (t : Int) 135 i = if i = t then g 131 t - R t + ndG g y k else u1 135 i := fun i => by rw [up_cell (by decide), up_at]
            have a136 : ∀ i, up (up u1 135 t (g 131 t - R t + ndG g y k)) 136 k (t : Int) 136 i = if i = k then (t : Int) else u1 136 i := fun i => by rw [up_at, up_cell (by decide)]
            rw [w32_of (x := n + cs) (by omega) (by omega)]
            obtain ⟨u', b1, b2, b3, b4, b5, b6⟩ := ih d (k + 1) (pt R t (R t - ndG g y k)) (n + cs) (pt p k (t : Int)) (up (up u1 135 t (g 131 t - R t + ndG g y k)) 136 k (t : Int)) a1 (by omega) (fun i hi => by rw [aa 134 i (by decide) (by decide), fx 134 i (by decide) (by decide) (by decide) (by decide)]; exact h134 i hi) (fun i => by rw [aa 106 i (by decide) (by decide), fx 106 i (by decide) (by decide) (by decide) (by decide)]; exact h106 i) (fun i => by rw [aa 132 i (by decide) (by decide), fx 132 i (by decide) (by decide) (by decide) (by decide)]; exact h132 i) (fun i => by rw [aa 131 i (by decide) (by decide), fx 131 i (by decide) (by decide) (by decide) (by decide)]; exact h131 i) (fun i hi => by
              rw [a135, pt_at]
              by_cases zi : i = t
              · rw [if_pos zi, if_pos zi, zi]; exact ⟨by omega, by omega, by omega⟩
              · rw [if_neg zi, if_neg zi, f2 i hi]; exact h135 i hi) (by omega) (by omega) (fun i hi => by
              rw [a136, pt_at]
              by_cases zi : i = k
              · rw [if_pos zi, if_pos zi]
              · rw [if_neg zi, if_neg zi, f3 i (by omega)]; exact hp i (by omega)) (by rw [aa 89 60 (by decide) (by decide)]; exact f4) (fun q i hi => by rw [aa 137 i (by decide) (by decide)]; exact f5 q i hi)
            have b7 : ∀ x i, x ≠ 135 → x ≠ 136 → x ≠ 137 → ¬ (x = 89 ∧ i = 60) → u' x i = u x i := fun x i x1 x2 x3 x4 => by rw [b1 x i x1 x2 x3 x4, aa x i x1 x2, f1 x i x1 x2 x3 x4]
            have g1 : u' 135 t = g 131 t - R t + ndG g y k := by rw [b5 t (by omega), a135, if_pos rfl]
            have g2 : u' 134 k = ndG g y k := by rw [b7 134 k (by decide) (by decide) (by decide) (fun q => absurd q.1 (by decide))]; exact h134 k (by omega)
            rw [call3 (show Call prog clsT X (d + (m + 1)) 220 _ _ = _ from b2), push3, r220_99, inb_is, if_pos i3, inb_is, if_pos i10, inb_is, if_pos i3, Int.toNat_natCast, Int.toNat_natCast, g1, g2, w32_of (x := g 131 t - R t + ndG g y k - ndG g y k) (by omega) (by omega), show g 131 t - R t + ndG g y k - ndG g y k = g 131 t - R t by omega, w32_succ (by omega)]
            obtain ⟨u2, d1, d2, d3, d4, d5, d6⟩ := ihr (t + 1) (up u' 135 t (g 131 t - R t)) (wyB a1 (mvW g y m (k + 1) (pt R t (R t - ndG g y k)) (n + cs) (pt p k (t : Int)))) (by omega) (fun x i x1 x2 x3 x4 => by rw [up_cell x1]; exact b7 x i x1 x2 x3 x4) (fun i hi => by
              rw [up_at]
              by_cases zi : i = t
              · rw [if_pos zi, zi, hR.1]
              · rw [if_neg zi, b5 i hi, a135, if_neg zi, f2 i hi]) (fun i hi => by rw [up_cell (by decide), b6 i (by omega), a136, if_neg (by omega), f3 i hi]) (by rw [up_cell (by decide)]; exact b3) (fun q i hi => by rw [up_cell (by decide)]; exact b4 q i hi)
            refine ⟨u2, d1, d2, ?_, ?_, d5, d6⟩
            · rw [wyB_app]; exact d3
            · rw [wyB_app]; exact d4
          by_cases hq : (t : Int) = g 132 k
          · have e0 : (if (t : Int) = g 132 k then n else n + 1) = n + 0 := by rw [if_pos hq, Int.add_zero]
            rw [e0, if_neg (fun w => w hq)]
            exact go 0 (by decide) (by decide) e0
          · have e0 : (if (t : Int) = g 132 k then n else n + 1) = n + 1 := if_neg hq
            rw [e0, if_pos hq]
            exact go 1 (by decide) (by decide) e0
      exact loop 3 0 u a (by omega) (fun _ _ _ _ _ _ => rfl) (fun _ _ => rfl) (fun _ _ => rfl) h60 h137
    rw [rc220_, cmp_lt, h60]
    by_cases q1 : a.1 < 0
    · rw [if_pos q1]
      exact main
    · rw [if_neg q1, cmp_lt]
      by_cases q2 : n < a.1
      · rw [if_pos q2]
        exact main
      · rw [if_neg q2]
        have eB : wyB a (mvW g y (m + 1) k R n p) = a := wyB_keep (by omega) (fun w hw => by have := (mvW_ge g y _ _ _ _ _ w hw).1; omega)
        refine ⟨u, fun _ _ _ _ _ _ => rfl, rfl, ?_, ?_, fun _ _ => rfl, fun _ _ => rfl⟩
        · rw [eB]; exact h60
        · rw [eB]; exact h137
end MOVES2
