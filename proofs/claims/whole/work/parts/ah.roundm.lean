/-! Part ah: the round, the reference. -/
/-- what a search of the reference comes to -/
def rdT (E : List (Nat × Nat)) (c s : Nat) (k : Nat) (l : List Wy) (a : Wy) (u : Gm) (o : Option MRes) : Prop := ∃ u' : Gm, (∀ x i, x ≠ 136 → x ≠ 137 → x ≠ 138 → x ≠ 139 → x ≠ 140 → ¬ (x = 89 ∧ i = 60) → u' x i = u x i) ∧ o = some ((3, 0), mk E c s (hh u')) ∧ u' 89 60 = (wyB a l).1 ∧ (0 ≤ (wyB a l).1 → ∀ i, i < 10 → u' 137 i = (wyB a l).2 i) ∧ (∀ j, j < 4 → u' 138 j = u 138 j ∧ u' 139 j = u 139 j ∧ u' 140 j = u 140 j) ∧ ∀ i, i < k → u' 136 i = u 136 i
section ROUNDM
variable (X : MExt) {E : List (Nat × Nat)} {g : Gm}
/-- Model.walks -/
theorem m224 (c s d : Nat) {lo hi ld : Nat → Int} {n : Int} (hI : rdI g lo hi ld n) {u : Gm} (h138 : ∀ j, j < 4 → u 138 j = ld j) (h139 : ∀ j, j < 4 → ld j ≠ 0 → u 139 j = lo j ∧ u 140 j = hi j) : Call prog clsT X (d + 1) 224 [(2, 89)] (mk E c s (hh u)) = some ((0, n), mk E c s (hh u)) := by
  have bf : ∀ j, j < 4 → 0 ≤ (if ld j ≤ 0 then 0 else hi j - lo j) ∧ (if ld j ≤ 0 then 0 else hi j - lo j) ≤ 2 := fun j hj => by
    by_cases z : ld j ≤ 0
    · rw [if_pos z]; decide
    · have := hI.2.1 j hj (by omega)
      rw [if_neg z]; omega
  have loop : ∀ (m j : Nat), j + m = 4 → Ev prog clsT X d mc224 4 [(2, 89), (0, sm (fun j => if ld j ≤ 0 then 0 else hi j - lo j) j), (0, (j : Int))] [] (mk E c s (hh u)) = some ((0, n), mk E c s (hh u)) := by
    intro m
    induction m with
    | zero =>
      intro j hj
      have hj : j = 4 := by omega
      subst hj
      rw [r224_4, cmp_ge, if_pos (by decide), hI.2.2]
      rfl
    | succ m ih =>
      intro j hj
      have i4 : 0 ≤ (j : Int) ∧ (j : Int) < ((4 : Nat) : Int) := by omega
      have hst : ∀ v, v = (if ld j ≤ 0 then 0 else hi j - lo j) → w32 (sm (fun j => if ld j ≤ 0 then 0 else hi j - lo j) j + v) = sm (fun j => if ld j ≤ 0 then 0 else hi j - lo j) (j + 1) := fun v hv => sm_step 2 hv (fun i hi => bf i (by omega)) (by omega) (by omega)
      rw [r224_4, cmp_ge, if_neg (by omega), inb_is, if_pos i4, cmp_le, Int.toNat_natCast, h138 j (by omega), w32_succ (by omega)]
      by_cases z : ld j ≤ 0
      · rw [if_pos z, hst 0 (by rw [if_pos z])]
        exact ih (j + 1) (by omega)
      · obtain ⟨e1, e2⟩ := h139 j (by omega) (by omega)
        have b := hI.2.1 j (by omega) (by omega)
        rw [if_neg z, inb_is, if_pos i4, inb_is, if_pos i4, e1, e2, w32_of (x := hi j - lo j) (by omega) (by omega), hst _ (by rw [if_neg z])]
        exact ih (j + 1) (by omega)
  rw [rc224_]
  exact loop 4 0 (by omega)
/-- Model.deals -/
theorem m223 {N : Int} (h : ST N E g) (c s : Nat) : ∀ (m D k : Nat) (lo hi ld : Nat → Int) (n : Int) (p : Nat → Int) (u : Gm) (a : Wy), k + m = 10 → m + 2 ≤ D → onQ g u → (∀ i : Nat, i < 10 → u 141 i = chB (fun j => g 127 j ≠ 0 ∧ kinP g (j : Int) (i : Int)) 4) → (∀ j, j < 4 → u 138 j = ld j) → (∀ j, j < 4 → ld j ≠ 0 → u 139 j = lo j ∧ u 140 j = hi j) → rdI g lo hi ld n → (∀ i, i < k → u 136 i = p i) → u 89 60 = a.1 → (0 ≤ a.1 → ∀ i, i < 10 → u 137 i = a.2 i) → rdT E c s k (rdW g m k lo hi ld n p) a u (Call prog clsT X D 223 [(2, 89), (0, (k : Int))] (mk E c s (hh u))) := by
  have hcap : 1 ≤ g 89 61 ∧ g 89 61 ≤ 10 := h.1.1.2.2.1.2.2.2.2.2.2.2.2.2
  have h132 : ∀ k : Nat, 0 ≤ g 132 k ∧ g 132 k ≤ 2 := h.1.1.2.2.2.1.2.2.2.1
  intro m
  induction m with
  | zero =>
    intro D k lo hi ld n p u a hk hD hu h141 h138 h139 hI hp h60 h137
    have hk : k = 10 := by omega
    subst hk
    obtain ⟨D, rfl⟩ : ∃ D', D = D' + 2 := ⟨D - 2, by omega⟩
    have eW : rdW g 0 10 lo hi ld n p = [(n, p)] := rfl
    have eB : wyB a [(n, p)] = if 0 ≤ a.1 ∧ a.1 ≤ n then a else (n, p) := rfl
    have w224 := fun d => m224 X (E := E) c s d hI h138 h139
    have cop : ∀ (m i : Nat) (w1 w3 w4 : MV) (u1 : Gm), i + m = 10 → (∀ x j, x ≠ 137 → u1 x j = up u 89 60 n x j) → (∀ j, j < i → u1 137 j = p j) → ∃ u' : Gm, Ev prog clsT X (D + 1) mc223 18 [(2, 89), w1, (0, (i : Int)), w3, w4] [] (mk E c s (hh u1)) = some ((3, 0), mk E c s (hh u')) ∧ (∀ x j, x ≠ 137 → u' x j = up u 89 60 n x j) ∧ ∀ j, j < 10 → u' 137 j = p j := by
      intro m
      induction m with
      | zero =>
        intro i w1 w3 w4 u1 hi2 f1 f2
        have hi2 : i = 10 := by omega
        subst hi2
        exact ⟨u1, by rw [r223_18, cmp_ge, if_pos (by decide)], f1, f2⟩
      | succ m ih =>
        intro i w1 w3 w4 u1 hi2 f1 f2
        have i10 : 0 ≤ (i : Int) ∧ (i : Int) < ((10 : Nat) : Int) := by omega
        have e136 : u1 136 i = p i := by rw [f1 136 i (by decide), up_cell (by decide)]; exact hp i (by omega)
        rw [r223_18, cmp_ge, if_neg (by omega), inb_is, if_pos i10, inb_is, if_pos i10, Int.toNat_natCast, e136, w32_succ (by omega)]
        exact ih (i + 1) _ _ _ _ (by omega) (fun x j hx => by rw [up_cell hx]; exact f1 x j hx) (fun j hj => by
          rw [up_at]
          by_cases zj : j = i
          · rw [if_pos zj, zj]
          · rw [if_neg zj]; exact f2 j (by omega))
    have main : ¬ (0 ≤ a.1 ∧ a.1 ≤ n) → rdT E c s 10 (rdW g 0 10 lo hi ld n p) a u (Ev prog clsT X (D + 1) mc223 9 [(2, 89), (0, ((10 : Nat) : Int)), (3, 0), (3, 0), (3, 0)] [] (mk E c s (hh u))) := by
      intro hq
      obtain ⟨u', b1, b2, b3⟩ := cop 10 0 (0, ((10 : Nat) : Int)) (3, 0) (3, 0) (up u 89 60 n) (by omega) (fun _ _ _ => rfl) (fun j hj => absurd hj (Nat.not_lt_zero _))
      refine ⟨u', fun x i _ x3 _ _ _ x4 => ?_, ?_, ?_, fun _ i hi => ?_, fun t _ => ?_, fun i _ => ?_⟩
      · rw [b2 x i x3]
        exact if_neg x4
      · rw [r223_9, cmp_ne, if_neg (by decide), call0 (w224 D), push0, r223_15]
        exact b1
      · rw [eW, eB, if_neg hq, b2 89 60 (by decide)]
        exact if_pos ⟨rfl, rfl⟩
      · rw [eW, eB, if_neg hq]
        exact b3 i hi
      · rw [b2 138 t (by decide), up_cell (by decide), b2 139 t (by decide), up_cell (by decide), b2 140 t (by decide), up_cell (by decide)]
        exact ⟨rfl, rfl, rfl⟩
      · rw [b2 136 i (by decide), up_cell (by decide)]
    rw [rc223_, cmp_lt, h60]
    by_cases q1 : a.1 < 0
    · rw [if_pos q1]
      exact main (by omega)
    · rw [if_neg q1, call0 (w224 D), push0, r223_5, cmp_lt, h60]
      by_cases q2 : n < a.1
      · rw [if_pos q2]
        exact main (by omega)
      · rw [if_neg q2]
        refine ⟨u, fun _ _ _ _ _ _ _ _ => rfl, rfl, ?_, ?_, fun _ _ => ⟨rfl, rfl, rfl⟩, fun _ _ => rfl⟩
        · rw [eW, eB, if_pos ⟨by omega, by omega⟩]; exact h60
        · rw [eW, eB, if_pos ⟨by omega, by omega⟩]; exact h137
  | succ m ih =>
    intro D k lo hi ld n p u a hk hD hu h141 h138 h139 hI hp h60 h137
    obtain ⟨D, rfl⟩ : ∃ D', D = D' + 3 := ⟨D - 3, by omega⟩
    have i10 : 0 ≤ (k : Int) ∧ (k : Int) < ((10 : Nat) : Int) := by omega
    have w224 := fun d => m224 X (E := E) c s d hI h138 h139
    have ne : ∀ v x j, x ≠ 136 → up u 136 k v x j = u x j := fun v x j hx => up_cell hx
    have b0 : 0 ≤ stIn g (k : Int) := by
      have b := sm_bound (f := fun e => bI (g 104 e = 0 ∧ g 99 e = (k : Int))) (a := 0) (b := 1) (n := nE g) (fun i _ => bI_b _)
      unfold stIn
      omega
    have main : rdT E c s k (rdW g (m + 1) k lo hi ld n p) a u (Ev prog clsT X (D + 2) mc223 9 [(2, 89), (0, (k : Int)), (3, 0), (3, 0), (3, 0)] [] (mk E c s (hh u))) := by
      have hu1 := onQ_up (x := 136) (i := k) (v := -1) hu rfl
      -- on without a judge
      have skip : ¬ rdH g k → rdT E c s k (rdW g (m + 1) k lo hi ld n p) a u (((Call prog clsT X (D + 2) 223 [(2, 89), (0, ((k + 1 : Nat) : Int))] (mk E c s (hh (up u 136 k (-1))))).bind fun r1 => if r1.1.1 = 4 then none else Ev prog clsT X (D + 2) mc223 52 [(2, 89), (0, (k : Int)), (3, 0), (3, 0), (3, 0)] (pushR r1.1 []) r1.2)) := by
        intro z
        obtain ⟨u', b1, b2, b3, b4, b5, b6⟩ := ih (D + 2) (k + 1) lo hi ld n (pt p k (-1)) (up u 136 k (-1)) a (by omega) (by omega) hu1 (fun i hi => by rw [ne _ 141 i (by decide)]; exact h141 i hi) (fun i hi => by rw [ne _ 138 i (by decide)]; exact h138 i hi) (fun i hi => by rw [ne _ 139 i (by decide), ne _ 140 i (by decide)]; exact h139 i hi) hI (fun i hi => by
          rw [up_at, pt_at]
          by_cases zi : i = k
          · rw [if_pos zi, if_pos zi]
          · rw [if_neg zi, if_neg zi]; exact hp i (by omega)) (by rw [ne _ 89 60 (by decide)]; exact h60) (fun q i hi => by rw [ne _ 137 i (by decide)]; exact h137 q i hi)
        rw [rdW_s, if_neg z]
        refine ⟨u', fun x i x1 x2 x3 x4 x5 x6 => by rw [b1 x i x1 x2 x3 x4 x5 x6, ne _ x i x1], ?_, b3, b4, fun t ht => by rw [(b5 t ht).1, (b5 t ht).2.1, (b5 t ht).2.2, ne _ 138 t (by decide), ne _ 139 t (by decide), ne _ 140 t (by decide)]; exact ⟨rfl, rfl, rfl⟩, fun i hi => by rw [b6 i (by omega), up_at, if_neg (by omega)]⟩
        rw [call3 b2, push3, r223_52]
      rw [r223_9, cmp_ne, if_pos (show ¬ (k : Int) = 10 by omega), inb_is, if_pos i10, inb_is, if_pos i10, cmp_eq, Int.toNat_natCast, hu 106 k rfl, w32_succ (by omega)]
      by_cases z1 : g 106 k = 0
      · rw [if_pos z1]
        exact skip (fun w => w.1 z1)
      rw [if_neg z1, call0 (show Call prog clsT X (D + 2) 190 _ _ = _ from m190n X E c s (RN_Q h hu1) (D + 1) (k : Int)), push0, stIn_Q hu1, r223_46, cmp_ne]
      by_cases z2 : stIn g (k : Int) = 0
      · rw [if_neg (fun w => w z2), w32_succ (by omega)]
        exact skip (fun w => by have := w.2; omega)
      have z : rdH g k := ⟨z1, by omega⟩
      rw [if_pos z2, rdW_s, if_pos z]
      obtain ⟨b, c1, c2, c3⟩ := chB_ok (fun j => g 127 j ≠ 0 ∧ kinP g (j : Int) (k : Int))
      have loop : ∀ (r j : Nat) (w3 w4 : MV) (u1 : Gm) (a1 : Wy), j + r = 4 → (∀ x i, x ≠ 136 → x ≠ 137 → x ≠ 138 → x ≠ 139 → x ≠ 140 → ¬ (x = 89 ∧ i = 60) → u1 x i = u x i) → (∀ j, j < 4 → u1 138 j = u 138 j ∧ u1 139 j = u 139 j ∧ u1 140 j = u 140 j) → (∀ i, i < k → u1 136 i = u 136 i) → u1 89 60 = a1.1 → (0 ≤ a1.1 → ∀ i, i < 10 → u1 137 i = a1.2 i) → rdT E c s k (wyT (rdF g (rdW g m (k + 1)) k lo hi ld n p) r j) a1 u (Ev prog clsT X (D + 2) mc223 55 [(2, 89), (0, (k : Int)), (0, (j : Int)), w3, w4] [] (mk E c s (hh u1))) := by
        intro r
        induction r with
        | zero =>
          intro j w3 w4 u1 a1 hj f1 f2 f3 f4 f5
          have hj : j = 4 := by omega
          subst hj
          refine ⟨up u1 136 k (-1), fun x i x1 x2 x3 x4 x5 x6 => by rw [up_cell x1]; exact f1 x i x1 x2 x3 x4 x5 x6, ?_, by rw [up_cell (by decide)]; exact f4, fun q i hi => by rw [up_cell (by decide)]; exact f5 q i hi, fun t ht => by rw [up_cell (by decide), up_cell (by decide), up_cell (by decide)]; exact f2 t ht, fun i hi => by rw [up_at, if_neg (by omega)]; exact f3 i hi⟩
          rw [r223_55, cmp_ge, if_pos (by decide), inb_is, if_pos i10, Int.toNat_natCast]
        | succ r ihr =>
          intro j w3 w4 u1 a1 hj f1 f2 f3 f4 f5
          have j4 : j < 4 := by omega
          have i4 : 0 ≤ (j : Int) ∧ (j : Int) < ((4 : Nat) : Int) := by omega
          have eT : wyT (rdF g (rdW g m (k + 1)) k lo hi ld n p) (r + 1) j = rdF g (rdW g m (k + 1)) k lo hi ld n p j ++ wyT (rdF g (rdW g m (k + 1)) k lo hi ld n p) r (j + 1) := rfl
          have eF : rdF g (rdW g m (k + 1)) k lo hi ld n p j = if rdO g j k ∧ ld j < g 89 61 then rdW g m (k + 1) (pt lo j (rdL lo ld j (g 132 k))) (pt hi j (rdU hi ld j (g 132 k))) (pt ld j (ld j + 1)) (n + rdM lo hi ld j (g 132 k)) (pt p k (j : Int)) else [] := rfl
          have fx : ∀ x i, x ≠ 136 → x ≠ 137 → x ≠ 138 → x ≠ 139 → x ≠ 140 → x ≠ 89 → u1 x i = u x i := fun x i x1 x2 x3 x4 x5 x6 => f1 x i x1 x2 x3 x4 x5 (fun q => x6 q.1)
          have hu1b : onQ g u1 := fun x i hs => (f1 x i (fun w => by rw [w] at hs; cases hs) (fun w => by rw [w] at hs; cases hs) (fun w => by rw [w] at hs; cases hs) (fun w => by rw [w] at hs; cases hs) (fun w => by rw [w] at hs; cases hs) (fun w => by rw [w.1, w.2] at hs; exact absurd hs (by decide))).trans (hu x i hs)
          have e138 : u1 138 j = ld j := by rw [(f2 j j4).1]; exact h138 j j4
          have e141 : u1 141 k = (b : Int) := by rw [fx 141 k (by decide) (by decide) (by decide) (by decide) (by decide) (by decide), h141 k (by omega), c2]
          have bl := hI.1 j j4
          have no : ¬ (rdO g j k ∧ ld j < g 89 61) → ∀ w3 w4 : MV, rdT E c s k (wyT (rdF g (rdW g m (k + 1)) k lo hi ld n p) (r + 1) j) a1 u (Ev prog clsT X (D + 2) mc223 55 [(2, 89), (0, (k : Int)), (0, ((j + 1 : Nat) : Int)), w3, w4] [] (mk E c s (hh u1))) := fun hn w3 w4 => by
            rw [eT, eF, if_neg hn]
            exact ihr (j + 1) w3 w4 u1 a1 (by omega) f1 f2 f3 f4 f5
          rw [r223_55, cmp_ge, if_neg (show ¬ (4 : Int) ≤ (j : Int) by omega), inb_is, if_pos i4, cmp_eq, Int.toNat_natCast, Int.toNat_natCast, hu1b 127 j rfl, w32_succ (by omega)]
          by_cases y1 : g 127 j = 0
          · rw [if_pos y1]
            exact no (fun w => w.1.1 y1) _ _
          rw [if_neg y1, inb_is, if_pos i4, cmp_eq, e138, hu1b 89 61 rfl]
          by_cases y2 : ld j = g 89 61
          · rw [if_pos y2]
            exact no (fun w => by have := w.2; omega) _ _
          rw [if_neg y2, inb_is, if_pos i10, cmp_ne, e141, c3 j j4]
          by_cases y3 : kinP g (j : Int) (k : Int)
          · rw [if_pos (show g 127 j ≠ 0 ∧ kinP g (j : Int) (k : Int) from ⟨y1, y3⟩), if_neg (fun w => w rfl)]
            exact no (fun w => w.1.2 y3) _ _
          rw [if_neg (show ¬ (g 127 j ≠ 0 ∧ kinP g (j : Int) (k : Int)) from fun w => y3 w.2), if_pos (show ¬ (0 : Int) = 1 by decide)]
          have hc : ld j < g 89 61 := by omega
          have e132 : u1 132 k = g 132 k := hu1b 132 k rfl
          have mid : Ev prog clsT X (D + 2) mc223 81 [(2, 89), (0, (k : Int)), (0, (j : Int)), (3, 0), (3, 0)] [] (mk E c s (hh u1)) = Ev prog clsT X (D + 2) mc223 139 [(2, 89), (0, (k : Int)), (0, (j : Int)), (0, u1 139 j), (0, u1 140 j)] [] (mk E c s (hh (up (up (up u1 139 j (rdL lo ld j (g 132 k))) 140 j (rdU hi ld j (g 132 k))) 138 j (ld j + 1)))) := by
            have v138 : ∀ v, up u1 139 j v 138 j = ld j := fun v => by rw [up_cell (by decide), e138]
            have v132 : ∀ v, up u1 139 j v 132 k = g 132 k := fun v => by rw [up_cell (by decide), e132]
            have v140 : ∀ v w, up (up u1 139 j v) 140 j w 138 j = ld j := fun v w => by rw [up_cell (by decide), v138]
            rw [r223_81, inb_is, if_pos i4, inb_is, if_pos i4, inb_is, if_pos i4, cmp_ne, Int.toNat_natCast, Int.toNat_natCast, e138, e132]
            by_cases y : ld j = 0
            · have eL : rdL lo ld j (g 132 k) = g 132 k := if_pos y
              have eU : rdU hi ld j (g 132 k) = g 132 k := if_pos y
              rw [if_neg (fun w => w y), inb_is, if_pos i10, inb_is, if_pos i4, r223_111, inb_is, if_pos i4, cmp_ne, Int.toNat_natCast, v138, if_neg (fun w => w y), inb_is, if_pos i10, inb_is, if_pos i4, inb_is, if_pos i4, inb_is, if_pos i4, Int.toNat_natCast, v132, w32_of (x := ld j + 1) (by omega) (by omega), eL, eU]
            · obtain ⟨e1, e2⟩ := h139 j j4 y
              have e1 : u1 139 j = lo j := by rw [(f2 j j4).2.1, e1]
              have e2 : u1 140 j = hi j := by rw [(f2 j j4).2.2, e2]
              have eL : rdL lo ld j (g 132 k) = if g 132 k < lo j then g 132 k else lo j := if_neg y
              have eU : rdU hi ld j (g 132 k) = if hi j < g 132 k then g 132 k else hi j := if_neg y
              rw [if_pos y, inb_is, if_pos i10, inb_is, if_pos i4, r223_111, inb_is, if_pos i4, cmp_ne, Int.toNat_natCast, v138, if_pos y, inb_is, if_pos i10, inb_is, if_pos i4, inb_is, if_pos i4, inb_is, if_pos i4, Int.toNat_natCast, v132, w32_of (x := ld j + 1) (by omega) (by omega), e1, e2, eL, eU]
          rw [mid, r223_139, inb_is, if_pos i10, Int.toNat_natCast, w32_succ (by omega), eT, eF, if_pos (show rdO g j k ∧ ld j < g 89 61 from ⟨⟨y1, y3⟩, hc⟩)]
          have q138 : ∀ i, up (up (up (up u1 139 j (rdL lo ld j (g 132 k))) 140 j (rdU hi ld j (g 132 k))) 138 j (ld j + 1)) 136 k (j : Int) 138 i = if i = j then ld j + 1 else u1 138 i := fun i => by rw [up_cell (by decide), up_at, up_cell (by decide), up_cell (by decide)]
          have q139 : ∀ i, up (up (up (up u1 139 j (rdL lo ld j (g 132 k))) 140 j (rdU hi ld j (g 132 k))) 138 j (ld j + 1)) 136 k (j : Int) 139 i = if i = j then rdL lo ld j (g 132 k) else u1 139 i := fun i => by rw [up_cell (by decide), up_cell (by decide), up_cell (by decide), up_at]
          have q140 : ∀ i, up (up (up (up u1 139 j (rdL lo ld j (g 132 k))) 140 j (rdU hi ld j (g 132 k))) 138 j (ld j + 1)) 136 k (j : Int) 140 i = if i = j then rdU hi ld j (g 132 k) else u1 140 i := fun i => by rw [up_cell (by decide), up_cell (by decide), up_at, up_cell (by decide)]
          have q136 : ∀ i, up (up (up (up u1 139 j (rdL lo ld j (g 132 k))) 140 j (rdU hi ld j (g 132 k))) 138 j (ld j + 1)) 136 k (j : Int) 136 i = if i = k then (j : Int) else u1 136 i := fun i => by rw [up_at, up_cell (by decide), up_cell (by decide), up_cell (by decide)]
          have qx : ∀ x i, x ≠ 136 → x ≠ 138 → x ≠ 139 → x ≠ 140 → up (up (up (up u1 139 j (rdL lo ld j (g 132 k))) 140 j (rdU hi ld j (g 132 k))) 138 j (ld j + 1)) 136 k (j : Int) x i = u1 x i := fun x i x1 x2 x3 x4 => by rw [up_cell x1, up_cell x2, up_cell x4, up_cell x3]
          have hu2 : onQ g (up (up (up (up u1 139 j (rdL lo ld j (g 132 k))) 140 j (rdU hi ld j (g 132 k))) 138 j (ld j + 1)) 136 k (j : Int)) := onQ_up (onQ_up (onQ_up (onQ_up hu1b rfl) rfl) rfl) rfl
          obtain ⟨u2, eu⟩ : ∃ u2, u2 = up (up (up (up u1 139 j (rdL lo ld j (g 132 k))) 140 j (rdU hi ld j (g 132 k))) 138 j (ld j + 1)) 136 k (j : Int) := ⟨_, rfl⟩
          rw [← eu] at q136 q138 q139 q140 qx hu2 ⊢
          obtain ⟨u', b1, b2, b3, b4, b5, b6⟩ := ih (D + 2) (k + 1) (pt lo j (rdL lo ld j (g 132 k))) (pt hi j (rdU hi ld j (g 132 k))) (pt ld j (ld j + 1)) (n + rdM lo hi ld j (g 132 k)) (pt p k (j : Int)) u2 a1 (by omega) (by omega) hu2 (fun i hi => by rw [qx 141 i (by decide) (by decide) (by decide) (by decide), fx 141 i (by decide) (by decide) (by decide) (by decide) (by decide) (by decide)]; exact h141 i hi) (fun i hi => by
            rw [q138, pt_at]
            by_cases q : i = j
            · rw [if_pos q, if_pos q]
            · rw [if_neg q, if_neg q, (f2 i hi).1, h138 i hi]) (fun i hi => by
            rw [q139, q140, pt_at, pt_at, pt_at]
            by_cases q : i = j
            · rw [if_pos q, if_pos q, if_pos q, if_pos q, if_pos q]; exact fun _ => ⟨rfl, rfl⟩
            · rw [if_neg q, if_neg q, if_neg q, if_neg q, if_neg q, (f2 i hi).2.1, (f2 i hi).2.2]; exact h139 i hi) (rdI_step hI j4 hc (h132 k)) (fun i hi => by
            rw [q136, pt_at]
            by_cases q : i = k
            · rw [if_pos q, if_pos q]
            · rw [if_neg q, if_neg q, f3 i (by omega)]; exact hp i (by omega)) (by rw [qx 89 60 (by decide) (by decide) (by decide) (by decide)]; exact f4) (fun q i hi => by rw [qx 137 i (by decide) (by decide) (by decide) (by decide)]; exact f5 q i hi)
          have e6 : u' 138 j = ld j + 1 := by rw [(b5 j j4).1, q138, if_pos rfl]
          rw [call3 b2, push3, r223_149, inb_is, if_pos i4, inb_is, if_pos i4, inb_is, if_pos i4, inb_is, if_pos i4, Int.toNat_natCast, e6, w32_of (x := ld j + 1 - 1) (by omega) (by omega), show ld j + 1 - 1 = ld j by omega, w32_succ (by omega)]
          have x138 : ∀ i, up (up (up u' 138 j (ld j)) 139 j (u1 139 j)) 140 j (u1 140 j) 138 i = if i = j then ld j else u' 138 i := fun i => by rw [up_cell (by decide), up_cell (by decide), up_at]
          have x139 : ∀ i, up (up (up u' 138 j (ld j)) 139 j (u1 139 j)) 140 j (u1 140 j) 139 i = if i = j then u1 139 j else u' 139 i := fun i => by rw [up_cell (by decide), up_at, up_cell (by decide)]
          have x140 : ∀ i, up (up (up u' 138 j (ld j)) 139 j (u1 139 j)) 140 j (u1 140 j) 140 i = if i = j then u1 140 j else u' 140 i := fun i => by rw [up_at, up_cell (by decide), up_cell (by decide)]
          have xx : ∀ x i, x ≠ 138 → x ≠ 139 → x ≠ 140 → up (up (up u' 138 j (ld j)) 139 j (u1 139 j)) 140 j (u1 140 j) x i = u' x i := fun x i x1 x2 x3 => by rw [up_cell x3, up_cell x2, up_cell x1]
          obtain ⟨u3, eu3⟩ : ∃ u3, u3 = up (up (up u' 138 j (ld j)) 139 j (u1 139 j)) 140 j (u1 140 j) := ⟨_, rfl⟩
          rw [← eu3] at x138 x139 x140 xx ⊢
          obtain ⟨u4, d1, d2, d3, d4, d5, d6⟩ := ihr (j + 1) (0, u1 139 j) (0, u1 140 j) u3 (wyB a1 (rdW g m (k + 1) (pt lo j (rdL lo ld j (g 132 k))) (pt hi j (rdU hi ld j (g 132 k))) (pt ld j (ld j + 1)) (n + rdM lo hi ld j (g 132 k)) (pt p k (j : Int)))) (by omega) (fun x i z1 z2 z3 z4 z5 z6 => by rw [xx x i z3 z4 z5, b1 x i z1 z2 z3 z4 z5 z6, qx x i z1 z3 z4 z5]; exact f1 x i z1 z2 z3 z4 z5 z6) (fun i hi => by
            rw [x138, x139, x140]
            by_cases q : i = j
            · rw [if_pos q, if_pos q, if_pos q, q]; exact ⟨(h138 j j4).symm, (f2 j j4).2⟩
            · rw [if_neg q, if_neg q, if_neg q, (b5 i hi).1, (b5 i hi).2.1, (b5 i hi).2.2, q138, q139, q140, if_neg q, if_neg q, if_neg q]; exact f2 i hi) (fun i hi => by rw [xx 136 i (by decide) (by decide) (by decide), b6 i (by omega), q136, if_neg (by omega)]; exact f3 i hi) (by rw [xx 89 60 (by decide) (by decide) (by decide)]; exact b3) (fun q i hi => by rw [xx 137 i (by decide) (by decide) (by decide)]; exact b4 q i hi)
          refine ⟨u4, d1, d2, ?_, ?_, d5, d6⟩
          · rw [wyB_app]; exact d3
          · rw [wyB_app]; exact d4
      exact loop 4 0 (3, 0) (3, 0) (up u 136 k (-1)) a (by omega) (fun x i x1 _ _ _ _ _ => ne _ x i x1) (fun t _ => by rw [ne _ 138 t (by decide), ne _ 139 t (by decide), ne _ 140 t (by decide)]; exact ⟨rfl, rfl, rfl⟩) (fun i hi => by rw [up_at, if_neg (by omega)]) (by rw [ne _ 89 60 (by decide)]; exact h60) (fun q i hi => by rw [ne _ 137 i (by decide)]; exact h137 q i hi)
    rw [rc223_, cmp_lt, h60]
    by_cases q1 : a.1 < 0
    · rw [if_pos q1]
      exact main
    · rw [if_neg q1, call0 (w224 (D + 1)), push0, r223_5, cmp_lt, h60]
      by_cases q2 : n < a.1
      · rw [if_pos q2]
        exact main
      · rw [if_neg q2]
        have eB : wyB a (rdW g (m + 1) k lo hi ld n p) = a := wyB_keep (by omega) (fun w hw => by have := (rdW_ge g _ _ _ _ _ _ _ w hw).1; omega)
        refine ⟨u, fun _ _ _ _ _ _ _ _ => rfl, rfl, ?_, ?_, fun _ _ => ⟨rfl, rfl, rfl⟩, fun _ _ => rfl⟩
        · rw [eB]; exact h60
        · rw [eB]; exact h137
end ROUNDM
