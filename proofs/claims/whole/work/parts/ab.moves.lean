/-! Part ab: moves. -/
/-- the ways to put the classes k.. on tables, R: what is left of the feet; n: moves so far -/
def mvW (g : Gm) (y : Int) : Nat → Nat → (Nat → Int) → Int → (Nat → Int) → List Wy
  | 0, _, _, n, p => [(n, p)]
  | m + 1, k, R, n, p => if g 106 k = 0 then mvW g y m (k + 1) R n (pt p k (-1)) else wyT (fun t => if ndG g y k ≤ R t then mvW g y m (k + 1) (pt R t (R t - ndG g y k)) (if (t : Int) = g 132 k then n else n + 1) (pt p k (t : Int)) else []) 3 0
theorem mvW_ge (g : Gm) (y : Int) : ∀ (m k : Nat) (R : Nat → Int) (n : Int) (p : Nat → Int), ∀ w, w ∈ mvW g y m k R n p → n ≤ w.1 ∧ w.1 ≤ n + m ∧ ∀ i, i < k → w.2 i = p i := by
  intro m
  induction m with
  | zero =>
    intro k R n p w hw
    have hw : w = (n, p) := List.mem_singleton.mp hw
    subst hw
    exact ⟨Int.le_refl _, by show n ≤ n + _; omega, fun _ _ => rfl⟩
  | succ m ih =>
    intro k R n p w hw
    have e : mvW g y (m + 1) k R n p = if g 106 k = 0 then mvW g y m (k + 1) R n (pt p k (-1)) else wyT (fun t => if ndG g y k ≤ R t then mvW g y m (k + 1) (pt R t (R t - ndG g y k)) (if (t : Int) = g 132 k then n else n + 1) (pt p k (t : Int)) else []) 3 0 := rfl
    rw [e] at hw
    by_cases z : g 106 k = 0
    · rw [if_pos z] at hw
      obtain ⟨a, b, f⟩ := ih (k + 1) R n _ w hw
      exact ⟨a, by omega, fun i hi => by rw [f i (by omega), pt_ne (by omega)]⟩
    · rw [if_neg z] at hw
      refine wyT_mem (P := fun w => n ≤ w.1 ∧ w.1 ≤ n + ((m + 1 : Nat) : Int) ∧ ∀ i, i < k → w.2 i = p i) 3 0 (fun t _ _ v hv => ?_) w hw
      have hv : v ∈ if ndG g y k ≤ R t then mvW g y m (k + 1) (pt R t (R t - ndG g y k)) (if (t : Int) = g 132 k then n else n + 1) (pt p k (t : Int)) else [] := hv
      by_cases q : ndG g y k ≤ R t
      · rw [if_pos q] at hv
        obtain ⟨a, b, f⟩ := ih (k + 1) _ _ _ v hv
        have f2 : ∀ i, i < k → v.2 i = p i := fun i hi => by rw [f i (by omega), pt_ne (by omega)]
        by_cases q2 : (t : Int) = g 132 k
        · rw [if_pos q2] at a b; exact ⟨a, by omega, f2⟩
        · rw [if_neg q2] at a b; exact ⟨by omega, by omega, f2⟩
      · rw [if_neg q] at hv; cases hv
theorem mvW_fit (g : Gm) (y : Int) : ∀ (m k : Nat) (R : Nat → Int) (n : Int) (p : Nat → Int), k + m = 10 → (∀ t, t < 3 → 0 ≤ R t) → ∀ w, w ∈ mvW g y m k R n p → sm (ndG g y) 10 ≤ sm (ndG g y) k + (R 0 + R 1 + R 2) := by
  intro m
  induction m with
  | zero =>
    intro k R n p hk hR w _
    have hk : k = 10 := by omega
    subst hk
    have := hR 0 (by decide)
    have := hR 1 (by decide)
    have := hR 2 (by decide)
    omega
  | succ m ih =>
    intro k R n p hk hR w hw
    have e : mvW g y (m + 1) k R n p = if g 106 k = 0 then mvW g y m (k + 1) R n (pt p k (-1)) else wyT (fun t => if ndG g y k ≤ R t then mvW g y m (k + 1) (pt R t (R t - ndG g y k)) (if (t : Int) = g 132 k then n else n + 1) (pt p k (t : Int)) else []) 3 0 := rfl
    have es : sm (ndG g y) (k + 1) = sm (ndG g y) k + ndG g y k := rfl
    rw [e] at hw
    by_cases z : g 106 k = 0
    · rw [if_pos z] at hw
      have a := ih (k + 1) R n _ (by omega) hR w hw
      have e0 : ndG g y k = 0 := by unfold ndG; rw [if_pos z]
      omega
    · rw [if_neg z] at hw
      refine wyT_mem (P := fun w => sm (ndG g y) 10 ≤ sm (ndG g y) k + (R 0 + R 1 + R 2)) 3 0 (fun t _ ht v hv => ?_) w hw
      have hv : v ∈ if ndG g y k ≤ R t then mvW g y m (k + 1) (pt R t (R t - ndG g y k)) (if (t : Int) = g 132 k then n else n + 1) (pt p k (t : Int)) else [] := hv
      by_cases q : ndG g y k ≤ R t
      · rw [if_pos q] at hv
        have a := ih (k + 1) _ _ _ (by omega) (fun i hi => by
          rw [pt_at]
          by_cases zi : i = t
          · rw [if_pos zi]; omega
          · rw [if_neg zi]; exact hR i hi) v hv
        have ht : t = 0 ∨ t = 1 ∨ t = 2 := by omega
        rcases ht with ht | ht | ht
        · subst ht
          rw [pt_same, pt_ne (by decide), pt_ne (by decide)] at a
          omega
        · subst ht
          rw [pt_same, pt_ne (by decide), pt_ne (by decide)] at a
          omega
        · subst ht
          rw [pt_same, pt_ne (by decide), pt_ne (by decide)] at a
          omega
      · rw [if_neg q] at hv; cases hv
/-- what a search of the class comes to -/
def mvR (E : List (Nat × Nat)) (c s : Nat) (g : Gm) (most : Int) (k : Nat) (l : List Wy) (u : Gm) (o : Option MRes) : Prop := ∃ u' : Gm, (∀ x i, x ≠ 46 → x ≠ 47 → u' x i = u x i) ∧ ((wyF most l = none ∧ o = some ((0, 0), mk E c s (hh u')) ∧ (∀ t, t < 3 → u' 47 t = u 47 t) ∧ ∀ i, i < k → u' 46 i = u 46 i) ∨ ∃ w, wyF most l = some w ∧ o = some ((0, 1), mk E c s (hh u')) ∧ ∀ i : Nat, i < 10 → g 106 i ≠ 0 → u' 46 i = w.2 i)
section MOVES
variable (X : MExt) {E : List (Nat × Nat)} {g : Gm}
/-- Hall.putFrom -/
theorem c29 (y : Int) (hnd : ∀ k : Nat, k < 10 → 0 ≤ ndG g y k ∧ ndG g y k ≤ 891) (c s : Nat) : ∀ (m d k : Nat) (R : Nat → Int) (n most : Int) (p : Nat → Int) (u : Gm), k + m = 10 → (∀ i : Nat, i < 10 → u 45 i = if g 106 i = 0 then -1 else ndG g y i) → (∀ i : Nat, u 42 i = g 132 i) → (∀ t, t < 3 → u 47 t = R t ∧ 0 ≤ R t ∧ R t ≤ 99) → 0 ≤ n → n ≤ most → most ≤ 10 → (∀ i, i < k → g 106 i ≠ 0 → u 46 i = p i) → mvR E c s g most k (mvW g y m k R n p) u (Call prog clsT X (d + m + 1) 29 [(2, 40), (0, (k : Int)), (0, most - n)] (mk E c s (hh u))) := by
  intro m
  induction m with
  | zero =>
    intro d k R n most p u hk h45 h42 h47 n0 nm m10 hp
    have hk : k = 10 := by omega
    subst hk
    refine ⟨u, fun _ _ _ _ => rfl, Or.inr ⟨(n, p), if_pos nm, ?_, fun i hi ht => hp i hi ht⟩⟩
    rw [rc29_, cmp_lt, if_neg (by decide)]
  | succ m ih =>
    intro d k R n most p u hk h45 h42 h47 n0 nm m10 hp
    have i10 : 0 ≤ (k : Int) ∧ (k : Int) < ((10 : Nat) : Int) := by omega
    have eW : mvW g y (m + 1) k R n p = if g 106 k = 0 then mvW g y m (k + 1) R n (pt p k (-1)) else wyT (fun t => if ndG g y k ≤ R t then mvW g y m (k + 1) (pt R t (R t - ndG g y k)) (if (t : Int) = g 132 k then n else n + 1) (pt p k (t : Int)) else []) 3 0 := rfl
    have hb := hnd k (by omega)
    rw [rc29_, cmp_lt, if_pos (by omega), inb_is, if_pos i10, cmp_ne, Int.toNat_natCast, h45 k (by omega), eW]
    by_cases z : g 106 k = 0
    · rw [if_pos z, if_pos z, if_neg (fun w => w rfl), w32_succ (by omega)]
      obtain ⟨u', f, r⟩ := ih d (k + 1) R n most (pt p k (-1)) u (by omega) h45 h42 h47 n0 nm m10 (fun i hi ht => by
        have ne : i ≠ k := fun q => ht (by rw [q]; exact z)
        rw [pt_ne ne]
        exact hp i (by omega) ht)
      refine ⟨u', f, ?_⟩
      rcases r with ⟨r1, r2, r3, r4⟩ | ⟨w, r1, r2, r3⟩
      · refine Or.inl ⟨r1, ?_, r3, fun i hi => r4 i (by omega)⟩
        rw [call0 (show Call prog clsT X (d + (m + 1)) 29 _ _ = _ from r2), push0, r29_17, if_pos ⟨rfl, rfl⟩]
      · refine Or.inr ⟨w, r1, ?_, r3⟩
        rw [call0 (show Call prog clsT X (d + (m + 1)) 29 _ _ = _ from r2), push0, r29_17, if_pos ⟨rfl, rfl⟩]
    rw [if_neg z, if_neg z, if_pos (show ¬ ndG g y k = -1 by omega)]
    have loop : ∀ (r t : Nat) (w4 : MV) (u1 : Gm), t + r = 3 → (∀ x i, x ≠ 46 → x ≠ 47 → u1 x i = u x i) → (∀ t, t < 3 → u1 47 t = u 47 t) → (∀ i, i < k → u1 46 i = u 46 i) → mvR E c s g most k (wyT (fun t => if ndG g y k ≤ R t then mvW g y m (k + 1) (pt R t (R t - ndG g y k)) (if (t : Int) = g 132 k then n else n + 1) (pt p k (t : Int)) else []) r t) u (Ev prog clsT X (d + (m + 1)) mc29 20 [(2, 40), (0, (k : Int)), (0, most - n), (0, (t : Int)), w4] [] (mk E c s (hh u1))) := by
      intro r
      induction r with
      | zero =>
        intro t w4 u1 ht f1 f2 f3
        have ht : t = 3 := by omega
        subst ht
        refine ⟨u1, f1, Or.inl ⟨rfl, ?_, f2, f3⟩⟩
        rw [r29_20, cmp_ge, if_pos (by decide)]
      | succ r ihr =>
        intro t w4 u1 ht f1 f2 f3
        have i3 : 0 ≤ (t : Int) ∧ (t : Int) < ((3 : Nat) : Int) := by omega
        have eT : ∀ F : Nat → List Wy, wyT F (r + 1) t = F t ++ wyT F r (t + 1) := fun _ => rfl
        have e42 : u1 42 k = g 132 k := by rw [f1 42 k (by decide) (by decide), h42]
        have e45 : u1 45 k = ndG g y k := by rw [f1 45 k (by decide) (by decide), h45 k (by omega), if_neg z]
        have e47 : u1 47 t = R t := by rw [f2 t (by omega), (h47 t (by omega)).1]
        have bR := (h47 t (by omega)).2
        -- on to the next table, without a way by this one
        have nxt : ∀ (w4 : MV) (u2 : Gm) (l1 : List Wy), (∀ x i, x ≠ 46 → x ≠ 47 → u2 x i = u x i) → (∀ t, t < 3 → u2 47 t = u 47 t) → (∀ i, i < k → u2 46 i = u 46 i) → wyF most l1 = none → mvR E c s g most k (l1 ++ wyT (fun t => if ndG g y k ≤ R t then mvW g y m (k + 1) (pt R t (R t - ndG g y k)) (if (t : Int) = g 132 k then n else n + 1) (pt p k (t : Int)) else []) r (t + 1)) u (Ev prog clsT X (d + (m + 1)) mc29 20 [(2, 40), (0, (k : Int)), (0, most - n), (0, ((t + 1 : Nat) : Int)), w4] [] (mk E c s (hh u2))) := fun w4 u2 l1 q1 q2 q3 q4 => by
          obtain ⟨u', a, b⟩ := ihr (t + 1) w4 u2 (by omega) q1 q2 q3
          refine ⟨u', a, ?_⟩
          rw [wyF_miss q4]
          exact b
        have go : ∀ cs : Int, 0 ≤ cs → cs ≤ 1 → (if (t : Int) = g 132 k then n else n + 1) = n + cs → mvR E c s g most k (wyT (fun t => if ndG g y k ≤ R t then mvW g y m (k + 1) (pt R t (R t - ndG g y k)) (if (t : Int) = g 132 k then n else n + 1) (pt p k (t : Int)) else []) (r + 1) t) u (if most - n < cs then Ev prog clsT X (d + (m + 1)) mc29 20 [(2, 40), (0, (k : Int)), (0, most - n), (0, ((t + 1 : Nat) : Int)), (0, cs)] [] (mk E c s (hh u1)) else if ndG g y k ≤ R t then ((Call prog clsT X (d + (m + 1)) 29 [(2, 40), (0, ((k + 1 : Nat) : Int)), (0, w32 (most - n - cs))] (mk E c s (hh (up (up u1 46 k (t : Int)) 47 t (w32 (R t - ndG g y k)))))).bind fun r1 => if r1.1.1 = 4 then none else Ev prog clsT X (d + (m + 1)) mc29 70 [(2, 40), (0, (k : Int)), (0, most - n), (0, (t : Int)), (0, cs)] (pushR r1.1 []) r1.2) else Ev prog clsT X (d + (m + 1)) mc29 20 [(2, 40), (0, (k : Int)), (0, most - n), (0, ((t + 1 : Nat) : Int)), (0, cs)] [] (mk E c s (hh u1))) := by
          intro cs c0 c1 hcs
          rw [eT]
          show mvR E c s g most k ((if ndG g y k ≤ R t then mvW g y m (k + 1) (pt R t (R t - ndG g y k)) (if (t : Int) = g 132 k then n else n + 1) (pt p k (t : Int)) else []) ++ _) u _
          rw [hcs]
          by_cases q1 : most - n < cs
          · rw [if_pos q1]
            refine nxt _ u1 _ f1 f2 f3 ?_
            by_cases q2 : ndG g y k ≤ R t
            · rw [if_pos q2]
              exact wyF_none (fun w hw => by have := (mvW_ge g y _ _ _ _ _ w hw).1; omega)
            · rw [if_neg q2]; rfl
          rw [if_neg q1]
          by_cases q2 : ndG g y k ≤ R t
          case neg =>
            rw [if_neg q2, if_neg q2]
            exact nxt _ u1 _ f1 f2 f3 rfl
          rw [if_pos q2, if_pos q2, w32_of (x := R t - ndG g y k) (by omega) (by omega), w32_of (x := most - n - cs) (by omega) (by omega), show most - n - cs = most - (n + cs) by omega]
          have a47 : ∀ i, up (up u1 46 k (t : Int)) 47 t (R t - ndG g y k) 47 i = if i = t then R t - ndG g y k else u1 47 i := fun i => by rw [up_at, up_cell (by decide)]
          have a46 : ∀ i, up (up u1 46 k (t : Int)) 47 t (R t - ndG g y k) 46 i = if i = k then (t : Int) else u1 46 i := fun i => by rw [up_cell (by decide), up_at]
          have aa : ∀ x i, x ≠ 46 → x ≠ 47 → up (up u1 46 k (t : Int)) 47 t (R t - ndG g y k) x i = u1 x i := fun x i h1 h2 => by rw [up_cell h2, up_cell h1]
          obtain ⟨u', b1, b2⟩ := ih d (k + 1) (pt R t (R t - ndG g y k)) (n + cs) most (pt p k (t : Int)) (up (up u1 46 k (t : Int)) 47 t (R t - ndG g y k)) (by omega) (fun i hi => by rw [aa 45 i (by decide) (by decide), f1 45 i (by decide) (by decide)]; exact h45 i hi) (fun i => by rw [aa 42 i (by decide) (by decide), f1 42 i (by decide) (by decide)]; exact h42 i) (fun i hi => by
            rw [a47, pt_at]
            by_cases zi : i = t
            · rw [if_pos zi, if_pos zi]; exact ⟨rfl, by omega, by omega⟩
            · rw [if_neg zi, if_neg zi, f2 i hi]; exact h47 i hi) (by omega) (by omega) m10 (fun i hi ht => by
            rw [a46, pt_at]
            by_cases zi : i = k
            · rw [if_pos zi, if_pos zi]
            · rw [if_neg zi, if_neg zi, f3 i (by omega)]; exact hp i (by omega) ht)
          have b3 : ∀ x i, x ≠ 46 → x ≠ 47 → u' x i = u x i := fun x i h1 h2 => by rw [b1 x i h1 h2, aa x i h1 h2, f1 x i h1 h2]
          rcases b2 with ⟨r1, r2, r3, r4⟩ | ⟨w, r1, r2, r3⟩
          · have e1 : u' 47 t = R t - ndG g y k := by rw [r3 t (by omega), a47, if_pos rfl]
            have e2 : u' 45 k = ndG g y k := by rw [b3 45 k (by decide) (by decide), h45 k (by omega), if_neg z]
            rw [call0 (show Call prog clsT X (d + (m + 1)) 29 _ _ = _ from r2), push0, r29_70, cmp_eq, if_pos rfl, inb_is, if_pos i3, inb_is, if_pos i10, inb_is, if_pos i3, Int.toNat_natCast, Int.toNat_natCast, e1, e2, w32_of (x := R t - ndG g y k + ndG g y k) (by omega) (by omega), show R t - ndG g y k + ndG g y k = R t by omega, w32_succ (by omega)]
            refine nxt _ _ _ (fun x i h1 h2 => by rw [up_cell h2]; exact b3 x i h1 h2) (fun i hi => ?_) (fun i hi => ?_) r1
            · rw [up_at]
              by_cases zi : i = t
              · rw [if_pos zi, zi, (h47 t (by omega)).1]
              · rw [if_neg zi, r3 i hi, a47, if_neg zi, f2 i hi]
            · rw [up_cell (by decide), r4 i (by omega), a46, if_neg (by omega), f3 i hi]
          · refine ⟨u', b3, Or.inr ⟨w, wyF_hit r1, ?_, r3⟩⟩
            rw [call0 (show Call prog clsT X (d + (m + 1)) 29 _ _ = _ from r2), push0, r29_70, cmp_eq, if_neg (by decide)]
        rw [r29_20, cmp_ge, if_neg (by omega), inb_is, if_pos i10, cmp_ne, Int.toNat_natCast, e42]
        by_cases hq : (t : Int) = g 132 k
        · rw [if_neg (fun w => w hq), cmp_gt, w32_succ (i := t) (by omega), w32_succ (i := k) (by omega), inb_is, if_pos i10, inb_is, if_pos i3, cmp_le, e45, Int.toNat_natCast, e47, inb_is, if_pos i10, inb_is, if_pos i3, inb_is, if_pos i10, inb_is, if_pos i3]
          exact go 0 (by decide) (by decide) (by rw [if_pos hq]; omega)
        · rw [if_pos hq, cmp_gt, w32_succ (i := t) (by omega), w32_succ (i := k) (by omega), inb_is, if_pos i10, inb_is, if_pos i3, cmp_le, e45, Int.toNat_natCast, e47, inb_is, if_pos i10, inb_is, if_pos i3, inb_is, if_pos i10, inb_is, if_pos i3]
          exact go 1 (by decide) (by decide) (by rw [if_neg hq])
    exact loop 3 0 (3, 0) u (by omega) (fun _ _ _ _ => rfl) (fun _ _ => rfl) (fun _ _ => rfl)
end MOVES
