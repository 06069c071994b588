/-! Part a4: points, cup, money. -/
/-- what the reference's counting changes -/
def rsQ (g u : Gm) : Prop := ∀ x i, ¬ (117 ≤ x ∧ x ≤ 126) → x ≠ 144 → x ≠ 145 → u x i = g x i
theorem rsQ_tr {g u v : Gm} (h : rsQ g u) (h2 : rsQ u v) : rsQ g v := fun x i a b c => (h2 x i a b c).trans (h x i a b c)
theorem rsQ_rf {g u : Gm} (h : rfQ g u) : rsQ g u := fun x i a _ _ => h x i a
theorem onM_rs {g u v : Gm} (h : onM g u) (h2 : rsQ u v) : onM g v := fun x i hs => by
  have hq := sM_q hs
  refine (h2 x i (sq_rf hq) (fun z => ?_) (fun z => ?_)).trans (h x i hs)
  · rw [z] at hq; cases hq
  · rw [z] at hq; cases hq
theorem onQ_rs {g u v : Gm} (h : onQ g u) (h2 : rsQ u v) : onQ g v := fun x i hs => by
  refine (h2 x i (sq_rf hs) (fun z => ?_) (fun z => ?_)).trans (h x i hs)
  · rw [z] at hs; cases hs
  · rw [z] at hs; cases hs
theorem sT_b {g : Gm} {pl : Nat → Int} {C : Int → Int} {x i : Nat} (hi : i ≤ 40) (hC : ∀ p, 0 ≤ C p ∧ C p ≤ 999) : 0 ≤ sT g pl C x i ∧ sT g pl C x i ≤ 999 * 40 := by
  have b1 := sm_bound (f := fun e => if g 100 e = x then C (pl e) else 0) (a := 0) (b := 999) (n := i) (fun e _ => by
    split
    · exact hC _
    · decide)
  unfold sT
  omega
theorem ior0 : ∀ n : Nat, n < 1024 → ior32 (n : Int) 0 = (n : Int) := by decide +kernel
/-- the best so far: who, points, firsts -/
def ldS (g : Gm) (P F : Nat → Int) (x : Nat) (a : Int × Int × Int) : Int × Int × Int := if g 90 x ≠ 0 ∧ g 93 x = 0 ∧ 0 < P x then (if a.2.1 < P x ∨ (P x = a.2.1 ∧ a.2.2 < F x) then (ior32 0 (ishl32 1 (x : Int)), P x, F x) else if P x = a.2.1 ∧ F x = a.2.2 then (ior32 a.1 (ishl32 1 (x : Int)), a.2.1, a.2.2) else a) else a
def ldA (g : Gm) (P F : Nat → Int) : Nat → Int × Int × Int := fo (ldS g P F) (0, 0, 0)
theorem ldA_b (g : Gm) (P F : Nat → Int) : ∀ n, n ≤ 10 → ∃ m : Nat, m < 1024 ∧ (ldA g P F n).1 = (m : Int)
  | 0, _ => ⟨0, by decide, rfl⟩
  | n + 1, hn => by
    obtain ⟨m, h1, h2⟩ := ldA_b g P F n (by omega)
    have k1 := kb_ok n (by omega) m h1
    have k2 := kb_ok n (by omega) 0 (by decide)
    have e : ldA g P F (n + 1) = ldS g P F n (ldA g P F n) := rfl
    rw [e]
    unfold ldS
    split
    · split
      · exact ⟨(ior32 0 (ishl32 1 (n : Int))).toNat, by have := k2.1; have := k2.2; show (ior32 ((0 : Nat) : Int) (ishl32 1 (n : Int))).toNat < 1024; omega, (Int.toNat_of_nonneg k2.1).symm⟩
      · split
        · rw [h2]
          exact ⟨(ior32 (m : Int) (ishl32 1 (n : Int))).toNat, by have := k1.1; have := k1.2; omega, (Int.toNat_of_nonneg k1.1).symm⟩
        · exact ⟨m, h1, h2⟩
    · exact ⟨m, h1, h2⟩
theorem sm_one {f : Nat → Int} {x : Nat} : ∀ n, sm (fun i => if (i : Int) = (x : Int) then f i else 0) n = if x < n then f x else 0
  | 0 => rfl
  | n + 1 => by
    have ih := sm_one (f := f) (x := x) n
    show sm _ n + (if (n : Int) = (x : Int) then f n else 0) = _
    rw [ih]
    by_cases z : n = x
    · subst z
      rw [if_neg (Nat.lt_irrefl _), if_pos rfl, if_pos (Nat.lt_succ_self _), Int.zero_add]
    · rw [if_neg (show ¬ ((n : Int) = (x : Int)) by omega), Int.add_zero]
      by_cases y : x < n
      · rw [if_pos y, if_pos (by omega)]
      · rw [if_neg y, if_neg (by omega)]
section POINTS
variable (X : MExt) {E : List (Nat × Nat)} {g : Gm}
theorem m229 {N : Int} (h : ST N E g) {e x : Nat} (he : e < nE g) (h100 : g 100 e = x) (hx : x < 10) (c s d : Nat) (p : Int) {u : Gm} (hu : onM g u) : Call prog clsT X (d + 2) 229 [(2, 89), (0, (e : Int)), (0, p)] (mk E c s (hh u)) = some ((3, 0), mk E c s (hh (if 1 ≤ p ∧ p ≤ 3 then up (up u 144 x (w32 (u 144 x + u 142 (p - 1).toNat))) 145 x (w32 (u 145 x + cF p)) else u))) := by
  have hle := h.1.1.1.rn.le
  have i40 : 0 ≤ (e : Int) ∧ (e : Int) < ((40 : Nat) : Int) := by omega
  have i10 : 0 ≤ (x : Int) ∧ (x : Int) < ((10 : Nat) : Int) := by omega
  rw [rc229_, call0 (show Call prog clsT X (d + 1) 152 _ _ = _ from m152 X E c s d _ _ _), push0, r229_4, cmp_ne, bI_ne0]
  by_cases z : 1 ≤ p ∧ p ≤ 3
  case neg => rw [if_neg (fun y => y z), if_neg z]
  have e0 : w32 (p - 1) = p - 1 := w32_of (by omega) (by omega)
  have i3 : 0 ≤ p - 1 ∧ p - 1 < ((3 : Nat) : Int) := by omega
  have hx2 : u 100 e = x := (hu 100 e rfl).trans h100
  rw [if_pos (fun y => y z), if_pos z, Int.toNat_natCast, hx2, e0, inb_is, if_pos i40, inb_is, if_pos i10, inb_is, if_pos i3, inb_is, if_pos i10, inb_is, if_pos i40, inb_is, if_pos i10, cmp_ne, Int.toNat_natCast]
  unfold cF
  by_cases y : p = 1
  · rw [if_neg (fun q => q y), inb_is, if_pos i10, if_pos y]
  · rw [if_pos y, inb_is, if_pos i10, if_neg y]
/-- counts -/
theorem m228 {N : Int} (h : ST N E g) {pl : Nat → Int} (hp : (∀ e, 0 ≤ pl e) ∧ ∀ e, e < nE g → ∀ d c s u, onM g u → ∃ u', Call prog clsT X (d + 10) 209 [(2, 89), (0, (e : Int))] (mk E c s (hh u)) = some ((0, if 0 < pl e then pl e else -1), mk E c s (hh u')) ∧ onM g u' ∧ rfQ u u') (d c s : Nat) (u : Gm) (hu : onM g u) : ∃ u', Call prog clsT X (d + 11) 228 [(2, 89)] (mk E c s (hh u)) = some ((3, 0), mk E c s (hh u')) ∧ rsQ u u' ∧ ∀ x : Nat, x < 10 → u' 144 x = sT g pl (cP g) x (nE g) ∧ u' 145 x = sT g pl cF x (nE g) := by
  obtain ⟨p0, pm⟩ := hp
  have hre := h.1.1.1
  have hle := hre.rn.le
  have hn2 := hre.n2
  have hC := C_b h.1.1.2.2.2.2.1
  have zero : ∀ (m i : Nat) (u1 : Gm), i + m = 10 → rsQ u u1 → (∀ x : Nat, x < i → u1 144 x = 0 ∧ u1 145 x = 0) → ∃ u2, Ev prog clsT X (d + 10) mc228 2 [(2, 89), (0, (i : Int))] [] (mk E c s (hh u1)) = Ev prog clsT X (d + 10) mc228 19 [(2, 89), (0, 0)] [] (mk E c s (hh u2)) ∧ rsQ u u2 ∧ ∀ x : Nat, x < 10 → u2 144 x = 0 ∧ u2 145 x = 0 := by
    intro m
    induction m with
    | zero =>
      intro i u1 hi hr hz
      have hi : i = 10 := by omega
      subst hi
      refine ⟨u1, ?_, hr, hz⟩
      rw [r228_2, cmp_ge, if_pos (by decide)]
    | succ m ih =>
      intro i u1 hi hr hz
      have i10 : 0 ≤ (i : Int) ∧ (i : Int) < ((10 : Nat) : Int) := by omega
      rw [r228_2, cmp_ge, if_neg (by omega), inb_is, if_pos i10, inb_is, if_pos i10, Int.toNat_natCast, w32_succ (by omega)]
      refine ih (i + 1) _ (by omega) (fun x j a b e => ?_) (fun x hx => ?_)
      · rw [up_ne (fun q => e q.1), up_ne (fun q => b q.1)]; exact hr x j a b e
      · by_cases q : x = i
        · subst q
          exact ⟨by rw [up_cell (by decide), up_at, if_pos rfl], by rw [up_at, if_pos rfl]⟩
        · have := hz x (by omega)
          exact ⟨by rw [up_cell (by decide), up_at, if_neg q]; exact this.1, by rw [up_at, if_neg q, up_cell (by decide)]; exact this.2⟩
  have loop : ∀ (m i : Nat) (u1 : Gm), i + m = nE g → onM g u1 → rsQ u u1 → (∀ x : Nat, x < 10 → u1 144 x = sT g pl (cP g) x i ∧ u1 145 x = sT g pl cF x i) → ∃ u', Ev prog clsT X (d + 10) mc228 19 [(2, 89), (0, (i : Int))] [] (mk E c s (hh u1)) = some ((3, 0), mk E c s (hh u')) ∧ rsQ u u' ∧ ∀ x : Nat, x < 10 → u' 144 x = sT g pl (cP g) x (nE g) ∧ u' 145 x = sT g pl cF x (nE g) := by
    intro m
    induction m with
    | zero =>
      intro i u1 hi hu1 hr hS
      have hi : i = nE g := by omega
      subst hi
      refine ⟨u1, ?_, hr, hS⟩
      rw [r228_19, hu1 89 10 rfl, hn2, cmp_ge, if_pos (Int.le_refl _)]
    | succ m ih =>
      intro i u1 hi hu1 hr hS
      have hi2 : i < nE g := by omega
      obtain ⟨_, x, _, _, h100, _, hx, _⟩ := ent h hi2
      obtain ⟨u2, a1, a2, a3⟩ := pm i hi2 d c s u1 hu1
      have hS2 : ∀ x : Nat, x < 10 → u2 144 x = sT g pl (cP g) x i ∧ u2 145 x = sT g pl cF x i := fun x hx => by
        rw [a3 144 x (by decide), a3 145 x (by decide)]; exact hS x hx
      have next : ∀ (C : Int → Int) (y : Nat), sT g pl C y (i + 1) = sT g pl C y i + (if g 100 i = y then C (pl i) else 0) := fun C y => rfl
      rw [r228_19, hu1 89 10 rfl, hn2, cmp_ge, if_neg (by omega), call0 a1, push0, r228_28, call3 (show Call prog clsT X (d + 10) 229 _ _ = _ from m229 X h hi2 h100 hx c s (d + 8) _ a2), push3, r228_29, w32_succ (by omega)]
      have p0i := p0 i
      by_cases z2 : 1 ≤ pl i ∧ pl i ≤ 3
      case neg =>
        have hz : ¬ (1 ≤ (if 0 < pl i then pl i else -1) ∧ (if 0 < pl i then pl i else -1) ≤ 3) := fun q => by
          split at q
          · exact z2 q
          · omega
        rw [if_neg hz]
        refine ih (i + 1) u2 (by omega) a2 (rsQ_tr hr (rsQ_rf a3)) (fun y hy => ?_)
        have c1 : cP g (pl i) = 0 := if_neg z2
        have c3 : cF (pl i) = 0 := if_neg (fun q => z2 (by omega))
        rw [next, next, c1, c3, ite_self, Int.add_zero, Int.add_zero]
        exact hS2 y hy
      rw [if_pos (show 0 < pl i by omega), if_pos z2]
      have b1 := sT_b (g := g) (pl := pl) (x := x) (i := i) (by omega) hC.1
      have b2 := sT_b (g := g) (pl := pl) (x := x) (i := i) (by omega) hC.2.2
      have b4 := hC.1 (pl i)
      have b5 := hC.2.2 (pl i)
      obtain ⟨s1, s2⟩ := hS2 x hx
      have c1 : cP g (pl i) = g 142 (pl i - 1).toNat := if_pos z2
      have t1 : w32 (u2 144 x + u2 142 (pl i - 1).toNat) = sT g pl (cP g) x i + cP g (pl i) := by
        rw [s1, a2 142 _ rfl, ← c1, w32_of (by omega) (by omega)]
      have t2 : w32 (u2 145 x + cF (pl i)) = sT g pl cF x i + cF (pl i) := by
        rw [s2, w32_of (by omega) (by omega)]
      rw [t1, t2]
      refine ih (i + 1) _ (by omega) (onM_up (onM_up a2 rfl) rfl) (fun y j a b e => ?_) (fun y hy => ?_)
      · rw [up_ne (fun q => e q.1), up_ne (fun q => b q.1)]
        exact rsQ_tr hr (rsQ_rf a3) y j a b e
      · rw [next, next]
        obtain ⟨y1, y2⟩ := hS2 y hy
        by_cases q : y = x
        · subst q
          rw [if_pos h100, if_pos h100]
          exact ⟨by rw [up_cell (by decide), up_at, if_pos rfl], by rw [up_at, if_pos rfl]⟩
        · have nq : ¬ (g 100 i = y) := fun w => q (by rw [h100] at w; omega)
          rw [if_neg nq, if_neg nq, Int.add_zero, Int.add_zero]
          exact ⟨by rw [up_cell (by decide), up_at, if_neg q]; exact y1, by rw [up_at, if_neg q, up_cell (by decide)]; exact y2⟩
  obtain ⟨u2, a1, a2, a3⟩ := zero 10 0 u (by omega) (fun _ _ _ _ _ => rfl) (fun x hx => absurd hx (Nat.not_lt_zero _))
  obtain ⟨u', b1, b2, b3⟩ := loop (nE g) 0 u2 (by omega) (onM_rs hu a2) a2 (fun x hx => a3 x hx)
  refine ⟨u', ?_, b2, b3⟩
  rw [rc228_]
  have a1 : Ev prog clsT X (d + 10) mc228 2 [(2, 89), (0, 0)] [] (mk E c s (hh u)) = _ := a1
  rw [a1]
  exact b1
theorem op_points (x1 x2 : Int) : OpV X 122 227 12 [(0, x1), (0, x2)] := by
  intro N E c s d g h
  have hv := h.1.1.2.1
  have hle := h.1.1.1.rn.le
  have hC := C_b h.1.1.2.2.2.2.1
  obtain ⟨pl, p0, _, pc, pn, pm⟩ := PL X h
  obtain ⟨g1, a1, a2, a3⟩ := c123 X h ⟨p0, pc, pn⟩ (d + 4) c s g (onC_refl g)
  have a1 : Call prog clsT X (d + 11) 123 [(2, 0)] (mk E c s (hh g)) = some ((3, 0), mk E c s (hh g1)) := a1
  have q1 : onQ g g1 := onQ_su (onQ_refl g) a2
  have g0 := onQ_0 (onQ_refl g) 0
  have bT : ∀ i : Nat, 0 ≤ sT g pl (cP g) i (nE g) ∧ sT g pl (cP g) i (nE g) ≤ 39960 := fun i => by
    have := sT_b (g := g) (pl := pl) (x := i) hle hC.1
    omega
  let cc : Nat → Int := fun i => if (if x1 = 0 then (i : Int) = x2 else g 2 i = x2) then sT g pl (cP g) i (nE g) else 0
  have ec : ∀ i : Nat, cc i = if (if x1 = 0 then (i : Int) = x2 else g 2 i = x2) then sT g pl (cP g) i (nE g) else 0 := fun i => rfl
  have bc : ∀ i, 0 ≤ cc i ∧ cc i ≤ 39960 := fun i => by
    rw [ec i]
    by_cases w : (if x1 = 0 then (i : Int) = x2 else g 2 i = x2)
    · rw [if_pos w]; exact bT i
    · rw [if_neg w]; decide
  have lpC : ∀ (m i : Nat), i + m = 10 → Ev prog clsT X (d + 11) mc122 21 [(2, 0), (0, x1), (0, x2), (0, sm cc i), (0, (i : Int))] [] (mk E c s (hh g1)) = some ((0, sm cc 10), mk E c s (hh g1)) := by
    intro m
    induction m with
    | zero =>
      intro i hi
      have hi : i = 10 := by omega
      subst hi
      rw [r122_21, cmp_ge, if_pos (by decide)]
    | succ m ih =>
      intro i hi
      have i10 : 0 ≤ (i : Int) ∧ (i : Int) < ((10 : Nat) : Int) := by omega
      have st : ∀ v, v = cc i → w32 (sm cc i + v) = sm cc (i + 1) := fun v hv => sm_step 39960 hv (fun j _ => bc j) (by omega) (by omega)
      have s0 : cc i = 0 → sm cc (i + 1) = sm cc i := fun hz => by
        show sm cc i + cc i = _
        rw [hz, Int.add_zero]
      have nx := ih (i + 1) (by omega)
      rw [r122_21, cmp_ge, if_neg (by omega), cmp_eq, w32_succ (by omega)]
      by_cases y : x1 = 0
      · rw [if_pos y, cmp_ne]
        by_cases z : (i : Int) = x2
        · rw [if_neg (fun q => q z), inb_is, if_pos i10, Int.toNat_natCast, (a3 i (by omega)).1, st _ (by rw [ec i, if_pos (by rw [if_pos y]; exact z)])]
          exact nx
        · rw [if_pos z, ← s0 (by rw [ec i, if_neg (by rw [if_pos y]; exact z)])]
          exact nx
      · rw [if_neg y, inb_is, if_pos i10, Int.toNat_natCast, cmp_ne, q1 2 i rfl]
        by_cases z : g 2 i = x2
        · rw [if_neg (fun q => q z), inb_is, if_pos i10, (a3 i (by omega)).1, st _ (by rw [ec i, if_pos (by rw [if_neg y]; exact z)])]
          exact nx
        · rw [if_pos z, ← s0 (by rw [ec i, if_neg (by rw [if_neg y]; exact z)])]
          exact nx
  have lpC : Ev prog clsT X (d + 11) mc122 21 [(2, 0), (0, x1), (0, x2), (0, 0), (0, 0)] [] (mk E c s (hh g1)) = some ((0, sm cc 10), mk E c s (hh g1)) := lpC 10 0 (by omega)
  have u0 := onQ_0 q1 0
  obtain ⟨g2, b1, b2, b3⟩ := m228 X h ⟨p0, pm⟩ d c s (up g1 89 0 0) (M_of u0)
  have q2 : onQ g g2 := onQ_rs u0 b2
  by_cases y : x1 = 0
  · have c84' : Call prog clsT X (d + 11) 84 [(2, 1), (0, x2)] (mk E c s (hh g)) = _ := c84 X E c s hv (d + 9) x2
    have m154' : ∀ u, onQ g u → Call prog clsT X (d + 11) 154 [(2, 89), (0, x2)] (mk E c s (hh u)) = some ((0, bI (0 ≤ x2 ∧ x2 ≤ 9 ∧ g 90 x2.toNat ≠ 0)), mk E c s (hh u)) := fun u hu => by
      rw [show d + 11 = (d + 9) + 2 from rfl, m154 X E c s (d + 9) x2, hu 90 _ rfl]
    by_cases q : 0 ≤ x2 ∧ x2 ≤ 9 ∧ g 90 x2.toNat ≠ 0
    case neg =>
      refine ⟨-1, g, up g 89 0 0, g0, ?_, ?_⟩
      · rw [rc122_, cmp_eq, if_pos y, call0 c84', push0, bI_f q, r122_12, cmp_ne, if_neg (by decide)]
      · rw [rc227_, cmp_eq, if_pos y, call0 (m154' _ g0), push0, bI_f q, r227_14, cmp_ne, if_neg (by decide)]
    obtain ⟨k, rfl⟩ := Int.eq_ofNat_of_zero_le q.1
    have e1 : sm cc 10 = sT g pl (cP g) k (nE g) := by
      have : sm cc 10 = sm (fun i => if (i : Int) = (k : Int) then sT g pl (cP g) i (nE g) else 0) 10 := sm_congr (fun i _ => by
        rw [ec i]
        by_cases z : (i : Int) = (k : Int)
        · rw [if_pos (by rw [if_pos y]; exact z), if_pos z]
        · rw [if_neg (by rw [if_pos y]; exact z), if_neg z])
      rw [this, sm_one (f := fun i => sT g pl (cP g) i (nE g)), if_pos (by omega)]
    refine ⟨sm cc 10, g1, g2, q2, ?_, ?_⟩
    · rw [rc122_, cmp_eq, if_pos y, call0 c84', push0, bI_t q, r122_12, cmp_ne, if_pos (by decide), call3 a1, push3, r122_17]
      exact lpC
    · rw [rc227_, cmp_eq, if_pos y, call0 (m154' _ u0), push0, bI_t q, r227_14, cmp_ne, if_pos (by decide), call3 b1, push3, r227_19, cmp_ne, if_neg (fun w => w y), inb_is, if_pos (by omega), Int.toNat_natCast, (b3 k (by omega)).1, e1]
  · by_cases q : 0 ≤ x2 ∧ x2 ≤ 5
    case neg =>
      refine ⟨-1, g, up g 89 0 0, g0, ?_, ?_⟩
      · rw [rc122_, cmp_eq, if_neg y, call0 (show Call prog clsT X (d + 11) 90 _ _ = _ from c90 X E c s (d + 10) _ _ _), push0, bI_f q, r122_6, cmp_ne, if_neg (by decide)]
      · rw [rc227_, cmp_eq, if_neg y, call0 (show Call prog clsT X (d + 11) 152 _ _ = _ from m152 X E c s (d + 10) _ _ _), push0, bI_f q, r227_9, cmp_ne, if_neg (by decide)]
    have lpM : ∀ (m i : Nat) (w1 : MV), i + m = 10 → Ev prog clsT X (d + 11) mc227 30 [(2, 89), w1, (0, x2), (0, sm cc i), (0, (i : Int))] [] (mk E c s (hh g2)) = some ((0, sm cc 10), mk E c s (hh g2)) := by
      intro m
      induction m with
      | zero =>
        intro i w1 hi
        have hi : i = 10 := by omega
        subst hi
        rw [r227_30, cmp_ge, if_pos (by decide)]
      | succ m ih =>
        intro i w1 hi
        have i10 : 0 ≤ (i : Int) ∧ (i : Int) < ((10 : Nat) : Int) := by omega
        have v1 := hv.1 i (by omega)
        have v3 := hv.2.2.1 i (by omega)
        have st : ∀ v, v = cc i → w32 (sm cc i + v) = sm cc (i + 1) := fun v hv => sm_step 39960 hv (fun j _ => bc j) (by omega) (by omega)
        have nx := fun w => ih (i + 1) w (by omega)
        rw [r227_30, cmp_ge, if_neg (by omega), inb_is, if_pos i10, Int.toNat_natCast, cmp_eq, q2 90 i rfl, w32_succ (by omega)]
        by_cases z : g 90 i = 0
        · rw [if_pos z, st 0 (by rw [ec i, if_neg (by rw [if_neg y, v1.2 z]; omega)])]
          exact nx _
        · rw [if_neg z, inb_is, if_pos i10, cmp_ne, q2 91 i rfl]
          by_cases z2 : g 91 i = x2
          · rw [if_neg (fun w => w z2), inb_is, if_pos i10, (b3 i (by omega)).1, st _ (by rw [ec i, if_pos (by rw [if_neg y, v3 z]; exact z2)])]
            exact nx _
          · rw [if_pos z2, st 0 (by rw [ec i, if_neg (by rw [if_neg y, v3 z]; exact z2)])]
            exact nx _
    refine ⟨sm cc 10, g1, g2, q2, ?_, ?_⟩
    · rw [rc122_, cmp_eq, if_neg y, call0 (show Call prog clsT X (d + 11) 90 _ _ = _ from c90 X E c s (d + 10) _ _ _), push0, bI_t q, r122_6, cmp_ne, if_pos (by decide), call3 a1, push3, r122_17]
      exact lpC
    · rw [rc227_, cmp_eq, if_neg y, call0 (show Call prog clsT X (d + 11) 152 _ _ = _ from m152 X E c s (d + 10) _ _ _), push0, bI_t q, r227_9, cmp_ne, if_pos (by decide), call3 b1, push3, r227_19, cmp_ne, if_pos y]
      exact lpM 10 0 _ (by omega)
end POINTS
