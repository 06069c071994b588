/-! Part ae: ways to deal classes to judges. -/
theorem sm_upd {f f' : Nat → Int} {j : Nat} : ∀ n, j < n → (∀ i, i < n → i ≠ j → f' i = f i) → sm f' n = sm f n + (f' j - f j) := by
  intro n
  induction n with
  | zero => intro h _; exact absurd h (Nat.not_lt_zero _)
  | succ n ih =>
    intro hj h
    have e1 : sm f' (n + 1) = sm f' n + f' n := rfl
    have e2 : sm f (n + 1) = sm f n + f n := rfl
    by_cases z : j = n
    · have e3 : sm f' n = sm f n := sm_congr (fun i hi => h i (by omega) (by omega))
      rw [e1, e2, e3, z]
      omega
    · have e3 := ih (by omega) (fun i hi hne => h i (by omega) hne)
      rw [e1, e2, e3, h n (by omega) (fun q => z q.symm)]
      omega
/-- judge j may have class k; class k is to be dealt -/
abbrev rdO (g : Gm) (j k : Nat) : Prop := g 127 j ≠ 0 ∧ ¬ kinP g (j : Int) (k : Int)
abbrev rdH (g : Gm) (k : Nat) : Prop := g 106 k ≠ 0 ∧ 0 < stIn g (k : Int)
def chB (P : Nat → Prop) [DecidablePred P] (n : Nat) : Int := fo (fun j a => ior32 a (if P j then ishl32 1 (j : Int) else 0)) 0 n
theorem chB_ok (P : Nat → Prop) [DecidablePred P] : ∃ a : Nat, a < 16 ∧ chB P 4 = (a : Int) ∧ ∀ j : Nat, j < 4 → iand32 (ishr32 (a : Int) (j : Int)) 1 = if P j then 1 else 0 := by
  have e : chB P 4 = ior32 (ior32 (ior32 (ior32 0 (if P 0 then ishl32 1 ((0 : Nat) : Int) else 0)) (if P 1 then ishl32 1 ((1 : Nat) : Int) else 0)) (if P 2 then ishl32 1 ((2 : Nat) : Int) else 0)) (if P 3 then ishl32 1 ((3 : Nat) : Int) else 0) := rfl
  refine ⟨(if P 0 then 1 else 0) + (if P 1 then 2 else 0) + (if P 2 then 4 else 0) + (if P 3 then 8 else 0), ?_, ?_, ?_⟩
  · by_cases z0 : P 0 <;> by_cases z1 : P 1 <;> by_cases z2 : P 2 <;> by_cases z3 : P 3 <;> simp only [z0, z1, z2, z3, if_true, if_false] <;> decide
  · rw [e]
    by_cases z0 : P 0 <;> by_cases z1 : P 1 <;> by_cases z2 : P 2 <;> by_cases z3 : P 3 <;> simp only [z0, z1, z2, z3, if_true, if_false] <;> decide
  · intro j hj
    have hj : j = 0 ∨ j = 1 ∨ j = 2 ∨ j = 3 := by omega
    rcases hj with hj | hj | hj | hj <;> subst hj <;> by_cases z0 : P 0 <;> by_cases z1 : P 1 <;> by_cases z2 : P 2 <;> by_cases z3 : P 3 <;> simp only [z0, z1, z2, z3, if_true, if_false] <;> decide
def rdL (lo ld : Nat → Int) (j : Nat) (tb : Int) : Int := if ld j = 0 then tb else if tb < lo j then tb else lo j
def rdU (hi ld : Nat → Int) (j : Nat) (tb : Int) : Int := if ld j = 0 then tb else if hi j < tb then tb else hi j
def rdM (lo hi ld : Nat → Int) (j : Nat) (tb : Int) : Int := if ld j = 0 then 0 else (rdU hi ld j tb - rdL lo ld j tb) - (hi j - lo j)
abbrev RdW : Type := (Nat → Int) → (Nat → Int) → (Nat → Int) → Int → (Nat → Int) → List Wy
/-- class k to judge j, W: the ways from there on -/
def rdF (g : Gm) (W : RdW) (k : Nat) (lo hi ld : Nat → Int) (n : Int) (p : Nat → Int) (j : Nat) : List Wy := if rdO g j k ∧ ld j < g 89 61 then W (pt lo j (rdL lo ld j (g 132 k))) (pt hi j (rdU hi ld j (g 132 k))) (pt ld j (ld j + 1)) (n + rdM lo hi ld j (g 132 k)) (pt p k (j : Int)) else []
def rdW (g : Gm) : Nat → Nat → RdW
  | 0, _, _, _, _, n, p => [(n, p)]
  | m + 1, k, lo, hi, ld, n, p => if rdH g k then wyT (rdF g (rdW g m (k + 1)) k lo hi ld n p) 4 0 else rdW g m (k + 1) lo hi ld n (pt p k (-1))
theorem rdW_s (g : Gm) (m k : Nat) (lo hi ld : Nat → Int) (n : Int) (p : Nat → Int) : rdW g (m + 1) k lo hi ld n p = if rdH g k then wyT (rdF g (rdW g m (k + 1)) k lo hi ld n p) 4 0 else rdW g m (k + 1) lo hi ld n (pt p k (-1)) := rfl
theorem rdM_0 (lo hi ld : Nat → Int) (j : Nat) (tb : Int) : 0 ≤ rdM lo hi ld j tb := by
  unfold rdM rdU rdL
  by_cases z : ld j = 0
  · rw [if_pos z]; exact Int.le_refl _
  · rw [if_neg z, if_neg z, if_neg z]
    by_cases a : hi j < tb
    · rw [if_pos a]
      by_cases b : tb < lo j
      · rw [if_pos b]; omega
      · rw [if_neg b]; omega
    · rw [if_neg a]
      by_cases b : tb < lo j
      · rw [if_pos b]; omega
      · rw [if_neg b]; omega
theorem rdW_ge (g : Gm) : ∀ (m k : Nat) (lo hi ld : Nat → Int) (n : Int) (p : Nat → Int), ∀ w, w ∈ rdW g m k lo hi ld n p → n ≤ w.1 ∧ (∀ i, i < k → w.2 i = p i) ∧ ∀ i, k ≤ i → i < k + m → ¬ rdH g i → w.2 i = -1 := by
  intro m
  induction m with
  | zero =>
    intro k lo hi ld n p w hw
    have hw : w = (n, p) := List.mem_singleton.mp hw
    subst hw
    exact ⟨Int.le_refl _, fun _ _ => rfl, fun i h1 h2 => absurd h2 (by omega)⟩
  | succ m ih =>
    intro k lo hi ld n p w hw
    rw [rdW_s] at hw
    by_cases z : rdH g k
    · rw [if_pos z] at hw
      refine wyT_mem (P := fun w => n ≤ w.1 ∧ (∀ i, i < k → w.2 i = p i) ∧ ∀ i, k ≤ i → i < k + (m + 1) → ¬ rdH g i → w.2 i = -1) 4 0 (fun j _ _ v hv => ?_) w hw
      unfold rdF at hv
      by_cases q : rdO g j k ∧ ld j < g 89 61
      · rw [if_pos q] at hv
        obtain ⟨a, b, f⟩ := ih _ _ _ _ _ _ v hv
        have := rdM_0 lo hi ld j (g 132 k)
        refine ⟨by omega, fun i hi => by rw [b i (by omega), pt_ne (by omega)], fun i h1 h2 h3 => ?_⟩
        have ne : i ≠ k := fun w => h3 (by rw [w]; exact z)
        exact f i (by omega) (by omega) h3
      · rw [if_neg q] at hv; cases hv
    · rw [if_neg z] at hw
      obtain ⟨a, b, f⟩ := ih _ _ _ _ _ _ w hw
      refine ⟨a, fun i hi => by rw [b i (by omega), pt_ne (by omega)], fun i h1 h2 h3 => ?_⟩
      by_cases ne : i = k
      · rw [b i (by omega), ne, pt_same]
      · exact f i (by omega) (by omega) h3
/-- the walks together -/
def rdK (lo hi ld : Nat → Int) : Int := sm (fun j => if ld j ≤ 0 then 0 else hi j - lo j) 4
def rdI (g : Gm) (lo hi ld : Nat → Int) (n : Int) : Prop := (∀ j : Nat, j < 4 → 0 ≤ ld j ∧ ld j ≤ g 89 61) ∧ (∀ j : Nat, j < 4 → ld j ≠ 0 → 0 ≤ lo j ∧ lo j ≤ hi j ∧ hi j ≤ 2) ∧ n = rdK lo hi ld
theorem rdI_8 {g : Gm} {lo hi ld : Nat → Int} {n : Int} (h : rdI g lo hi ld n) : 0 ≤ n ∧ n ≤ 8 := by
  have b := sm_bound (f := fun j => if ld j ≤ 0 then 0 else hi j - lo j) (a := 0) (b := 2) (n := 4) (fun j hj => by
    have b1 := h.1 j hj
    by_cases z : ld j ≤ 0
    · rw [if_pos z]; omega
    · have b2 := h.2.1 j hj (by omega)
      rw [if_neg z]; omega)
  rw [h.2.2]
  unfold rdK
  omega
theorem rdI_step {g : Gm} {lo hi ld : Nat → Int} {n : Int} (h : rdI g lo hi ld n) {j : Nat} (hj : j < 4) (hl : ld j < g 89 61) {tb : Int} (ht : 0 ≤ tb ∧ tb ≤ 2) : rdI g (pt lo j (rdL lo ld j tb)) (pt hi j (rdU hi ld j tb)) (pt ld j (ld j + 1)) (n + rdM lo hi ld j tb) := by
  have b1 := h.1 j hj
  have bL : 0 ≤ rdL lo ld j tb ∧ rdL lo ld j tb ≤ rdU hi ld j tb ∧ rdU hi ld j tb ≤ 2 := by
    unfold rdL rdU
    by_cases z : ld j = 0
    · rw [if_pos z, if_pos z]; omega
    · have b2 := h.2.1 j hj z
      rw [if_neg z, if_neg z]
      by_cases a : hi j < tb
      · rw [if_pos a]
        by_cases b : tb < lo j
        · rw [if_pos b]; omega
        · rw [if_neg b]; omega
      · rw [if_neg a]
        by_cases b : tb < lo j
        · rw [if_pos b]; omega
        · rw [if_neg b]; omega
  refine ⟨fun i hi2 => ?_, fun i hi2 => ?_, ?_⟩
  · rw [pt_at]
    by_cases z : i = j
    · rw [if_pos z]; omega
    · rw [if_neg z]; exact h.1 i hi2
  · rw [pt_at, pt_at, pt_at]
    by_cases z : i = j
    · rw [if_pos z, if_pos z, if_pos z]; intro _; exact bL
    · rw [if_neg z, if_neg z, if_neg z]; exact h.2.1 i hi2
  · have e := sm_upd (f := fun j => if ld j ≤ 0 then 0 else hi j - lo j) (f' := fun i => if pt ld j (ld j + 1) i ≤ 0 then 0 else pt hi j (rdU hi ld j tb) i - pt lo j (rdL lo ld j tb) i) (j := j) 4 hj (fun i _ hne => by
      show (if pt ld j (ld j + 1) i ≤ 0 then 0 else pt hi j (rdU hi ld j tb) i - pt lo j (rdL lo ld j tb) i) = if ld i ≤ 0 then 0 else hi i - lo i
      rw [pt_ne hne, pt_ne hne, pt_ne hne])
    have e1 : rdK (pt lo j (rdL lo ld j tb)) (pt hi j (rdU hi ld j tb)) (pt ld j (ld j + 1)) = rdK lo hi ld + ((if pt ld j (ld j + 1) j ≤ 0 then 0 else pt hi j (rdU hi ld j tb) j - pt lo j (rdL lo ld j tb) j) - (if ld j ≤ 0 then 0 else hi j - lo j)) := e
    rw [e1, h.2.2, pt_same, pt_same, pt_same, if_neg (by omega)]
    unfold rdM
    by_cases z : ld j = 0
    · rw [if_pos z, if_pos (show ld j ≤ 0 by omega)]
      have : rdU hi ld j tb = rdL lo ld j tb := by unfold rdU rdL; rw [if_pos z, if_pos z]
      omega
    · rw [if_neg z, if_neg (show ¬ ld j ≤ 0 by omega)]
theorem rdW_le (g : Gm) (h132 : ∀ k : Nat, 0 ≤ g 132 k ∧ g 132 k ≤ 2) : ∀ (m k : Nat) (lo hi ld : Nat → Int) (n : Int) (p : Nat → Int), rdI g lo hi ld n → ∀ w, w ∈ rdW g m k lo hi ld n p → w.1 ≤ 8 := by
  intro m
  induction m with
  | zero =>
    intro k lo hi ld n p hI w hw
    have hw : w = (n, p) := List.mem_singleton.mp hw
    subst hw
    exact (rdI_8 hI).2
  | succ m ih =>
    intro k lo hi ld n p hI w hw
    rw [rdW_s] at hw
    by_cases z : rdH g k
    · rw [if_pos z] at hw
      refine wyT_mem (P := fun w => w.1 ≤ 8) 4 0 (fun j _ hj v hv => ?_) w hw
      unfold rdF at hv
      by_cases q : rdO g j k ∧ ld j < g 89 61
      · rw [if_pos q] at hv
        exact ih _ _ _ _ _ _ (rdI_step hI (by omega) q.2 (h132 k)) v hv
      · rw [if_neg q] at hv; cases hv
    · rw [if_neg z] at hw
      exact ih _ _ _ _ _ _ hI w hw
/-- a group of judges as bits -/
abbrev rdG (G j : Nat) : Prop := iand32 (ishr32 (G : Int) (j : Int)) 1 = 1
theorem rdG_in : ∀ a : Nat, a < 16 → ∀ b : Nat, b < 16 → iand32 (a : Int) (ixor32 (b : Int) (-1)) = 0 → ∀ j : Nat, j < 4 → iand32 (ishr32 (a : Int) (j : Int)) 1 = 1 → rdG b j := by decide +kernel
theorem rdG_pcn : ∀ b : Nat, b < 16 → (pcn b 10 : Int) = bI (rdG b 0) + bI (rdG b 1) + bI (rdG b 2) + bI (rdG b 3) := by decide +kernel
/-- classes that only the group may have -/
def rdN (g : Gm) (G i : Nat) : Int := bI (rdH g i ∧ iand32 (chB (fun j => rdO g j i) 4) (ixor32 (G : Int) (-1)) = 0)
theorem rdN_in {g : Gm} {G i : Nat} (hG : G < 16) (h : iand32 (chB (fun j => rdO g j i) 4) (ixor32 (G : Int) (-1)) = 0) {j : Nat} (hj : j < 4) (ho : rdO g j i) : rdG G j := by
  obtain ⟨a, a1, a2, a3⟩ := chB_ok (fun j => rdO g j i)
  rw [a2] at h
  exact rdG_in a a1 G hG h j hj (by rw [a3 j hj, if_pos ho])
def rdS (cap : Int) (G : Nat) (ld : Nat → Int) : Int := sm (fun j => if rdG G j then cap - ld j else 0) 4
theorem rdW_own (g : Gm) {G : Nat} (hG : G < 16) : ∀ (m k : Nat) (lo hi ld : Nat → Int) (n : Int) (p : Nat → Int), k + m = 10 → (∀ j : Nat, j < 4 → ld j ≤ g 89 61) → ∀ w, w ∈ rdW g m k lo hi ld n p → sm (rdN g G) 10 ≤ sm (rdN g G) k + rdS (g 89 61) G ld := by
  intro m
  induction m with
  | zero =>
    intro k lo hi ld n p hk hl w _
    have hk : k = 10 := by omega
    subst hk
    have b : ∀ n, n ≤ 4 → 0 ≤ sm (fun j => if rdG G j then g 89 61 - ld j else 0) n := by
      intro n
      induction n with
      | zero => intro _; exact Int.le_refl _
      | succ n ih =>
        intro hn
        have e : sm (fun j => if rdG G j then g 89 61 - ld j else 0) (n + 1) = sm (fun j => if rdG G j then g 89 61 - ld j else 0) n + if rdG G n then g 89 61 - ld n else 0 := rfl
        have := ih (by omega)
        have := hl n (by omega)
        rw [e]
        by_cases z : rdG G n
        · rw [if_pos z]; omega
        · rw [if_neg z]; omega
    have := b 4 (by omega)
    unfold rdS
    omega
  | succ m ih =>
    intro k lo hi ld n p hk hl w hw
    have es : sm (rdN g G) (k + 1) = sm (rdN g G) k + rdN g G k := rfl
    rw [rdW_s] at hw
    by_cases z : rdH g k
    · rw [if_pos z] at hw
      refine wyT_mem (P := fun w => sm (rdN g G) 10 ≤ sm (rdN g G) k + rdS (g 89 61) G ld) 4 0 (fun j _ hj v hv => ?_) w hw
      have hj : j < 4 := by omega
      unfold rdF at hv
      by_cases q : rdO g j k ∧ ld j < g 89 61
      · rw [if_pos q] at hv
        have a := ih _ _ _ (pt ld j (ld j + 1)) _ _ (by omega) (fun i hi => by
          rw [pt_at]
          by_cases zi : i = j
          · rw [if_pos zi]; omega
          · rw [if_neg zi]; exact hl i hi) v hv
        have e : rdS (g 89 61) G (pt ld j (ld j + 1)) = rdS (g 89 61) G ld + ((if rdG G j then g 89 61 - pt ld j (ld j + 1) j else 0) - (if rdG G j then g 89 61 - ld j else 0)) := sm_upd (f := fun j => if rdG G j then g 89 61 - ld j else 0) (f' := fun i => if rdG G i then g 89 61 - pt ld j (ld j + 1) i else 0) (j := j) 4 hj (fun i _ hne => by
          show (if rdG G i then g 89 61 - pt ld j (ld j + 1) i else 0) = if rdG G i then g 89 61 - ld i else 0
          rw [pt_ne hne])
        rw [pt_same] at e
        by_cases zg : rdG G j
        · rw [if_pos zg, if_pos zg] at e
          have b : rdN g G k ≤ 1 := (bI_b _).2
          omega
        · rw [if_neg zg, if_neg zg] at e
          have b : rdN g G k = 0 := bI_f (fun w => zg (rdN_in hG w.2 hj q.1))
          omega
      · rw [if_neg q] at hv; cases hv
    · rw [if_neg z] at hw
      have a := ih _ _ _ _ _ _ (by omega) hl w hw
      have b : rdN g G k = 0 := bI_f (fun w => z w.1)
      omega
theorem rdS_0 (cap : Int) {G : Nat} (hG : G < 16) : rdS cap G (fun _ => 0) = cap * (pcn G 10 : Int) := by
  have e : ∀ j, (if rdG G j then cap - 0 else 0) = cap * bI (rdG G j) := fun j => by
    by_cases z : rdG G j
    · rw [if_pos z, bI_t z]; omega
    · rw [if_neg z, bI_f z]; omega
  have e1 : rdS cap G (fun _ => 0) = 0 + (if rdG G 0 then cap - 0 else 0) + (if rdG G 1 then cap - 0 else 0) + (if rdG G 2 then cap - 0 else 0) + (if rdG G 3 then cap - 0 else 0) := rfl
  rw [e1, e, e, e, e, rdG_pcn G hG, Int.mul_add, Int.mul_add, Int.mul_add, Int.zero_add]
