/-! Part af: dealing, the class. -/
/-- what a search of the class comes to -/
def rdR (E : List (Nat × Nat)) (c s : Nat) (g : Gm) (most : Int) (k : Nat) (l : List Wy) (u : Gm) (o : Option MRes) : Prop := ∃ u' : Gm, (∀ x i, x ≠ 51 → x ≠ 52 → x ≠ 53 → x ≠ 54 → u' x i = u x i) ∧ ((wyF most l = none ∧ o = some ((0, 0), mk E c s (hh u')) ∧ (∀ j, j < 4 → u' 52 j = u 52 j ∧ u' 53 j = u 53 j ∧ u' 54 j = u 54 j) ∧ (∀ i, i < k → u' 51 i = u 51 i) ∧ ∀ i : Nat, i < 10 → ¬ rdH g i → u' 51 i = -1) ∨ ∃ w, wyF most l = some w ∧ o = some ((0, 1), mk E c s (hh u')) ∧ ∀ i : Nat, i < 10 → u' 51 i = w.2 i)
section DEALC
variable (X : MExt) {E : List (Nat × Nat)} {g : Gm}
/-- Round.hasWay -/
theorem c62 (hcap : 1 ≤ g 89 61 ∧ g 89 61 ≤ 10) (c s d : Nat) {u : Gm} (h49 : ∀ i : Nat, i < 10 → u 49 i = if rdH g i then chB (fun j => rdO g j i) 4 else -1) (h48 : u 48 6 = g 89 61) : ∃ v : Int, (v = 1 ∨ (v = 0 ∧ ∃ G : Nat, G < 16 ∧ g 89 61 * (pcn G 10 : Int) < sm (rdN g G) 10)) ∧ Call prog clsT X (d + 2) 62 [(2, 48)] (mk E c s (hh u)) = some ((0, v), mk E c s (hh u)) := by
  have loop : ∀ (m i : Nat) (w2 w3 : MV), i + m = 16 → ∃ v : Int, (v = 1 ∨ (v = 0 ∧ ∃ G : Nat, G < 16 ∧ g 89 61 * (pcn G 10 : Int) < sm (rdN g G) 10)) ∧ Ev prog clsT X (d + 1) mc62 2 [(2, 48), (0, (i : Int)), w2, w3] [] (mk E c s (hh u)) = some ((0, v), mk E c s (hh u)) := by
    intro m
    induction m with
    | zero =>
      intro i w2 w3 hi
      have hi : i = 16 := by omega
      subst hi
      exact ⟨1, Or.inl rfl, by rw [r62_2, cmp_ge, if_pos (by decide)]⟩
    | succ m ih =>
      intro i w2 w3 hi
      have inner : ∀ (m2 k : Nat), k + m2 = 10 → Ev prog clsT X (d + 1) mc62 9 [(2, 48), (0, (i : Int)), (0, sm (rdN g i) k), (0, (k : Int))] [] (mk E c s (hh u)) = Ev prog clsT X (d + 1) mc62 9 [(2, 48), (0, (i : Int)), (0, sm (rdN g i) 10), (0, ((10 : Nat) : Int))] [] (mk E c s (hh u)) := by
        intro m2
        induction m2 with
        | zero =>
          intro k hk
          have hk : k = 10 := by omega
          rw [hk]
        | succ m2 ih2 =>
          intro k hk
          have k10 : 0 ≤ (k : Int) ∧ (k : Int) < ((10 : Nat) : Int) := by omega
          have hst : ∀ v, v = rdN g i k → w32 (sm (rdN g i) k + v) = sm (rdN g i) (k + 1) := fun v hv => sm_step 1 hv (fun j _ => bI_b _) (by omega) (by omega)
          rw [← ih2 (k + 1) (by omega), r62_9, cmp_ge, if_neg (show ¬ (10 : Int) ≤ (k : Int) by omega), inb_is, if_pos k10, cmp_eq, Int.toNat_natCast, h49 k (by omega), w32_succ (by omega)]
          by_cases z : rdH g k
          · obtain ⟨a, a1, a2, a3⟩ := chB_ok (fun j => rdO g j k)
            rw [if_pos z, if_neg (show ¬ chB (fun j => rdO g j k) 4 = -1 by omega), inb_is, if_pos k10, cmp_ne]
            by_cases z2 : iand32 (chB (fun j => rdO g j k) 4) (ixor32 (i : Int) (-1)) = 0
            · rw [if_neg (fun w => w z2), hst 1 (bI_t ⟨z, z2⟩).symm]
            · rw [if_pos z2, hst 0 (bI_f (fun w => z2 w.2)).symm]
          · rw [if_neg z, if_pos rfl, hst 0 (bI_f (fun w => z w.1)).symm]
      have bp : 0 ≤ (pcn i 10 : Int) ∧ (pcn i 10 : Int) ≤ 4 := by
        rw [rdG_pcn i (by omega)]
        have b0 := bI_b (rdG i 0)
        have b1 := bI_b (rdG i 1)
        have b2 := bI_b (rdG i 2)
        have b3 := bI_b (rdG i 3)
        omega
      have m1 : 0 ≤ g 89 61 * (pcn i 10 : Int) := Int.mul_nonneg (by omega) bp.1
      have m2 : g 89 61 * (pcn i 10 : Int) ≤ 10 * 4 := Int.mul_le_mul hcap.2 bp.2 bp.1 (by decide)
      rw [r62_2, cmp_ge, if_neg (by omega), show Ev prog clsT X (d + 1) mc62 9 [(2, 48), (0, (i : Int)), (0, 0), (0, 0)] [] (mk E c s (hh u)) = _ from inner 10 0 (by omega), r62_9, cmp_ge, if_pos (by decide), call0 (m262 X E c s u d (n := i) (by omega)), push0, r62_40, cmp_le, h48, w32_of (x := g 89 61 * (pcn i 10 : Int)) (by omega) (by omega)]
      by_cases z : sm (rdN g i) 10 ≤ g 89 61 * (pcn i 10 : Int)
      · rw [if_pos z, w32_succ (by omega)]
        exact ih (i + 1) _ _ (by omega)
      · rw [if_neg z]
        exact ⟨0, Or.inr ⟨rfl, i, by omega, by omega⟩, rfl⟩
  rw [rc62_]
  exact loop 16 0 (3, 0) (3, 0) (by omega)
/-- Round.dealTo, up to the dealing of the others -/
theorem c64 (c s D : Nat) {u : Gm} {j k : Nat} (hj : j < 4) (hk : k < 10) {lo hi ld : Nat → Int} {left tb : Int} (h52 : u 52 j = ld j) (hl0 : 0 ≤ ld j ∧ ld j ≤ 10) (hl : ld j ≠ 0 → u 53 j = lo j ∧ u 54 j = hi j ∧ 0 ≤ lo j ∧ lo j ≤ hi j ∧ hi j ≤ 2) (h50 : u 50 k = tb) (htb : 0 ≤ tb ∧ tb ≤ 2) (hleft : 0 ≤ left ∧ left ≤ 8) : ∃ x6 : Int, Call prog clsT X (D + 2) 64 [(2, 48), (0, (j : Int)), (0, (k : Int)), (0, left)] (mk E c s (hh u)) = if rdM lo hi ld j tb ≤ left then ((Call prog clsT X (D + 1) 63 [(2, 48), (0, ((k + 1 : Nat) : Int)), (0, left - rdM lo hi ld j tb)] (mk E c s (hh (up (up (up (up u 53 j (rdL lo ld j tb)) 54 j (rdU hi ld j tb)) 52 j (ld j + 1)) 51 k (j : Int))))).bind fun r1 => if r1.1.1 = 4 then none else Ev prog clsT X (D + 1) mc64 95 [(2, 48), (0, (j : Int)), (0, (k : Int)), (0, left), (0, u 53 j), (0, u 54 j), (0, x6), (0, rdL lo ld j tb), (0, rdU hi ld j tb), (0, rdM lo hi ld j tb)] (pushR r1.1 []) r1.2) else some ((0, 0), mk E c s (hh u)) := by
  have i4 : 0 ≤ (j : Int) ∧ (j : Int) < ((4 : Nat) : Int) := by omega
  have i10 : 0 ≤ (k : Int) ∧ (k : Int) < ((10 : Nat) : Int) := by omega
  have m0 := rdM_0 lo hi ld j tb
  have fin : ∀ x6 : Int, Ev prog clsT X (D + 1) mc64 59 [(2, 48), (0, (j : Int)), (0, (k : Int)), (0, left), (0, u 53 j), (0, u 54 j), (0, x6), (0, rdL lo ld j tb), (0, rdU hi ld j tb), (0, rdM lo hi ld j tb)] [] (mk E c s (hh u)) = if rdM lo hi ld j tb ≤ left then ((Call prog clsT X (D + 1) 63 [(2, 48), (0, ((k + 1 : Nat) : Int)), (0, left - rdM lo hi ld j tb)] (mk E c s (hh (up (up (up (up u 53 j (rdL lo ld j tb)) 54 j (rdU hi ld j tb)) 52 j (ld j + 1)) 51 k (j : Int))))).bind fun r1 => if r1.1.1 = 4 then none else Ev prog clsT X (D + 1) mc64 95 [(2, 48), (0, (j : Int)), (0, (k : Int)), (0, left), (0, u 53 j), (0, u 54 j), (0, x6), (0, rdL lo ld j tb), (0, rdU hi ld j tb), (0, rdM lo hi ld j tb)] (pushR r1.1 []) r1.2) else some ((0, 0), mk E c s (hh u)) := fun x6 => by
    rw [r64_59, cmp_le]
    by_cases z : rdM lo hi ld j tb ≤ left
    · rw [if_pos z, if_pos z, r64_64, inb_is, if_pos i4, inb_is, if_pos i4, inb_is, if_pos i4, inb_is, if_pos i4, inb_is, if_pos i10, Int.toNat_natCast, Int.toNat_natCast, h52, w32_succ (by omega), w32_of (x := ld j + 1) (by omega) (by omega), w32_of (x := left - rdM lo hi ld j tb) (by omega) (by omega)]
    · rw [if_neg z, if_neg z]
  rw [rc64_, inb_is, if_pos i4, inb_is, if_pos i4, inb_is, if_pos i4, cmp_ne, Int.toNat_natCast, h52]
  by_cases z : ld j = 0
  · have eL : rdL lo ld j tb = tb := if_pos z
    have eU : rdU hi ld j tb = tb := if_pos z
    have eM : rdM lo hi ld j tb = 0 := if_pos z
    refine ⟨1, ?_⟩
    have fin := fin 1
    rw [eL, eU, eM] at fin ⊢
    rw [if_neg (fun w => w z), r64_19, cmp_eq, if_neg (by decide), inb_is, if_pos i10, r64_33, cmp_eq, if_neg (by decide), inb_is, if_pos i10, r64_47, cmp_eq, if_neg (by decide), Int.toNat_natCast, h50]
    exact fin
  · obtain ⟨e53, e54, b1, b2, b3⟩ := hl z
    have eL : rdL lo ld j tb = if tb < lo j then tb else lo j := if_neg z
    have eU : rdU hi ld j tb = if hi j < tb then tb else hi j := if_neg z
    have eM : rdM lo hi ld j tb = (rdU hi ld j tb - rdL lo ld j tb) - (hi j - lo j) := if_neg z
    have bL : 0 ≤ rdL lo ld j tb ∧ rdL lo ld j tb ≤ 2 := by
      rw [eL]
      by_cases q : tb < lo j
      · rw [if_pos q]; exact htb
      · rw [if_neg q]; omega
    have bU : 0 ≤ rdU hi ld j tb ∧ rdU hi ld j tb ≤ 2 := by
      rw [eU]
      by_cases q : hi j < tb
      · rw [if_pos q]; exact htb
      · rw [if_neg q]; omega
    refine ⟨0, ?_⟩
    have fin := fin 0
    rw [if_pos z, r64_19, cmp_eq, if_pos rfl, inb_is, if_pos i10, r64_33, cmp_eq, if_pos rfl, inb_is, if_pos i10, r64_47, cmp_eq, if_pos rfl, Int.toNat_natCast, h50]
    rw [e53, e54] at fin ⊢
    rw [← eL, ← eU, w32_of (x := rdU hi ld j tb - rdL lo ld j tb) (by omega) (by omega), w32_of (x := hi j - lo j) (by omega) (by omega), w32_of (x := rdU hi ld j tb - rdL lo ld j tb - (hi j - lo j)) (by omega) (by omega), ← eM]
    exact fin
/-- Round.dealFrom -/
theorem c63 (hcap : 1 ≤ g 89 61 ∧ g 89 61 ≤ 10) (h132 : ∀ k : Nat, 0 ≤ g 132 k ∧ g 132 k ≤ 2) (c s : Nat) : ∀ (m D k : Nat) (lo hi ld : Nat → Int) (n most : Int) (p : Nat → Int) (u : Gm), k + m = 10 → 2 * m + 1 ≤ D → (∀ i : Nat, i < 10 → u 49 i = if rdH g i then chB (fun j => rdO g j i) 4 else -1) → (∀ i : Nat, i < 10 → u 50 i = g 132 i) → u 48 6 = g 89 61 → (∀ j, j < 4 → u 52 j = ld j) → (∀ j, j < 4 → ld j ≠ 0 → u 53 j = lo j ∧ u 54 j = hi j) → rdI g lo hi ld n → n ≤ most → most ≤ 8 → (∀ i, i < k → u 51 i = p i) → (∀ i : Nat, i < 10 → ¬ rdH g i → u 51 i = -1) → rdR E c s g most k (rdW g m k lo hi ld n p) u (Call prog clsT X D 63 [(2, 48), (0, (k : Int)), (0, most - n)] (mk E c s (hh u))) := by
  intro m
  induction m with
  | zero =>
    intro D k lo hi ld n most p u hk hD h49 h50 h48 h52 h53 hI nm m8 hp hz
    have hk : k = 10 := by omega
    subst hk
    obtain ⟨D, rfl⟩ : ∃ D', D = D' + 1 := ⟨D - 1, by omega⟩
    refine ⟨u, fun _ _ _ _ _ _ => rfl, Or.inr ⟨(n, p), if_pos nm, ?_, fun i hi => hp i hi⟩⟩
    rw [rc63_, cmp_lt, if_neg (by decide)]
  | succ m ih =>
    intro D k lo hi ld n most p u hk hD h49 h50 h48 h52 h53 hI nm m8 hp hz
    obtain ⟨D, rfl⟩ : ∃ D', D = D' + 3 := ⟨D - 3, by omega⟩
    have i10 : 0 ≤ (k : Int) ∧ (k : Int) < ((10 : Nat) : Int) := by omega
    have n0 := (rdI_8 hI).1
    rw [rc63_, cmp_lt, if_pos (show (k : Int) < 10 by omega), inb_is, if_pos i10, cmp_ne, Int.toNat_natCast, h49 k (by omega), rdW_s]
    by_cases z : rdH g k
    case neg =>
      rw [if_neg z, if_neg z, if_neg (fun w => w rfl), w32_succ (by omega)]
      obtain ⟨u', f, r⟩ := ih (D + 2) (k + 1) lo hi ld n most (pt p k (-1)) u (by omega) (by omega) h49 h50 h48 h52 h53 hI nm m8 (fun i hi => by
        rw [pt_at]
        by_cases q : i = k
        · rw [if_pos q, q]; exact hz k (by omega) z
        · rw [if_neg q]; exact hp i (by omega)) hz
      refine ⟨u', f, ?_⟩
      rcases r with ⟨r1, r2, r3, r4, r5⟩ | ⟨w, r1, r2, r3⟩
      · refine Or.inl ⟨r1, ?_, r3, fun i hi => r4 i (by omega), r5⟩
        rw [call0 r2, push0, r63_17, if_pos ⟨rfl, rfl⟩]
      · refine Or.inr ⟨w, r1, ?_, r3⟩
        rw [call0 r2, push0, r63_17, if_pos ⟨rfl, rfl⟩]
    obtain ⟨a, a1, a2, a3⟩ := chB_ok (fun j => rdO g j k)
    rw [if_pos z, if_pos z, if_pos (show ¬ chB (fun j => rdO g j k) 4 = -1 by omega)]
    have loop : ∀ (r j : Nat) (u1 : Gm), j + r = 4 → (∀ x i, x ≠ 51 → x ≠ 52 → x ≠ 53 → x ≠ 54 → u1 x i = u x i) → (∀ j, j < 4 → u1 52 j = u 52 j ∧ u1 53 j = u 53 j ∧ u1 54 j = u 54 j) → (∀ i, i < k → u1 51 i = u 51 i) → (∀ i : Nat, i < 10 → ¬ rdH g i → u1 51 i = -1) → rdR E c s g most k (wyT (rdF g (rdW g m (k + 1)) k lo hi ld n p) r j) u (Ev prog clsT X (D + 2) mc63 20 [(2, 48), (0, (k : Int)), (0, most - n), (0, (j : Int))] [] (mk E c s (hh u1))) := by
      intro r
      induction r with
      | zero =>
        intro j u1 hj f1 f2 f3 f4
        have hj : j = 4 := by omega
        subst hj
        refine ⟨u1, f1, Or.inl ⟨rfl, ?_, f2, f3, f4⟩⟩
        rw [r63_20, cmp_ge, if_pos (by decide)]
      | succ r ihr =>
        intro j u1 hj f1 f2 f3 f4
        have j4 : j < 4 := by omega
        have i4 : 0 ≤ (j : Int) ∧ (j : Int) < ((4 : Nat) : Int) := by omega
        have eT : wyT (rdF g (rdW g m (k + 1)) k lo hi ld n p) (r + 1) j = rdF g (rdW g m (k + 1)) k lo hi ld n p j ++ wyT (rdF g (rdW g m (k + 1)) k lo hi ld n p) r (j + 1) := rfl
        have eF : rdF g (rdW g m (k + 1)) k lo hi ld n p j = if rdO g j k ∧ ld j < g 89 61 then rdW g m (k + 1) (pt lo j (rdL lo ld j (g 132 k))) (pt hi j (rdU hi ld j (g 132 k))) (pt ld j (ld j + 1)) (n + rdM lo hi ld j (g 132 k)) (pt p k (j : Int)) else [] := rfl
        have e49 : u1 49 k = (a : Int) := by rw [f1 49 k (by decide) (by decide) (by decide) (by decide), h49 k (by omega), if_pos z, a2]
        have e52 : u1 52 j = ld j := by rw [(f2 j j4).1, h52 j j4]
        have e48 : u1 48 6 = g 89 61 := by rw [f1 48 6 (by decide) (by decide) (by decide) (by decide), h48]
        have bl := hI.1 j j4
        have nxt : ∀ (u2 : Gm) (l1 : List Wy), (∀ x i, x ≠ 51 → x ≠ 52 → x ≠ 53 → x ≠ 54 → u2 x i = u x i) → (∀ j, j < 4 → u2 52 j = u 52 j ∧ u2 53 j = u 53 j ∧ u2 54 j = u 54 j) → (∀ i, i < k → u2 51 i = u 51 i) → (∀ i : Nat, i < 10 → ¬ rdH g i → u2 51 i = -1) → wyF most l1 = none → rdR E c s g most k (l1 ++ wyT (rdF g (rdW g m (k + 1)) k lo hi ld n p) r (j + 1)) u (Ev prog clsT X (D + 2) mc63 20 [(2, 48), (0, (k : Int)), (0, most - n), (0, ((j + 1 : Nat) : Int))] [] (mk E c s (hh u2))) := fun u2 l1 q1 q2 q3 q4 q5 => by
          obtain ⟨u', b1, b2⟩ := ihr (j + 1) u2 (by omega) q1 q2 q3 q4
          refine ⟨u', b1, ?_⟩
          rw [wyF_miss q5]
          exact b2
        rw [r63_20, cmp_ge, if_neg (show ¬ (4 : Int) ≤ (j : Int) by omega), inb_is, if_pos i10, cmp_eq, Int.toNat_natCast, Int.toNat_natCast, e49, a3 j j4, w32_succ (by omega), eT, eF]
        by_cases ho : rdO g j k
        case neg =>
          rw [if_neg ho, if_pos rfl, if_neg (fun w => ho w.1)]
          exact nxt u1 _ f1 f2 f3 f4 rfl
        rw [if_pos ho, if_neg (show ¬ (1 : Int) = 0 by decide), inb_is, if_pos i4, cmp_ge, e52, e48]
        by_cases hc : ld j < g 89 61
        case neg =>
          rw [if_pos (show g 89 61 ≤ ld j by omega), if_neg (fun w => hc w.2)]
          exact nxt u1 _ f1 f2 f3 f4 rfl
        rw [if_neg (show ¬ g 89 61 ≤ ld j by omega), if_pos ⟨ho, hc⟩]
        obtain ⟨x6, e64⟩ := c64 X (E := E) c s D (u := u1) (j := j) (k := k) j4 (by omega) (lo := lo) (hi := hi) (ld := ld) (left := most - n) (tb := g 132 k) e52 ⟨bl.1, by omega⟩ (fun q => ⟨by rw [(f2 j j4).2.1]; exact (h53 j j4 q).1, by rw [(f2 j j4).2.2]; exact (h53 j j4 q).2, hI.2.1 j j4 q⟩) (by rw [f1 50 k (by decide) (by decide) (by decide) (by decide)]; exact h50 k (by omega)) (h132 k) ⟨by omega, by omega⟩
        by_cases hm : rdM lo hi ld j (g 132 k) ≤ most - n
        case neg =>
          rw [if_neg hm] at e64
          rw [call0 e64, push0, r63_44, cmp_eq, if_pos rfl, w32_succ (by omega)]
          exact nxt u1 _ f1 f2 f3 f4 (wyF_none (fun w hw => by have := (rdW_ge g _ _ _ _ _ _ _ w hw).1; omega))
        rw [if_pos hm] at e64
        have q52 : ∀ i, up (up (up (up u1 53 j (rdL lo ld j (g 132 k))) 54 j (rdU hi ld j (g 132 k))) 52 j (ld j + 1)) 51 k (j : Int) 52 i = if i = j then ld j + 1 else u1 52 i := fun i => by rw [up_cell (by decide), up_at, up_cell (by decide), up_cell (by decide)]
        have q53 : ∀ i, up (up (up (up u1 53 j (rdL lo ld j (g 132 k))) 54 j (rdU hi ld j (g 132 k))) 52 j (ld j + 1)) 51 k (j : Int) 53 i = if i = j then rdL lo ld j (g 132 k) else u1 53 i := fun i => by rw [up_cell (by decide), up_cell (by decide), up_cell (by decide), up_at]
        have q54 : ∀ i, up (up (up (up u1 53 j (rdL lo ld j (g 132 k))) 54 j (rdU hi ld j (g 132 k))) 52 j (ld j + 1)) 51 k (j : Int) 54 i = if i = j then rdU hi ld j (g 132 k) else u1 54 i := fun i => by rw [up_cell (by decide), up_cell (by decide), up_at, up_cell (by decide)]
        have q51 : ∀ i, up (up (up (up u1 53 j (rdL lo ld j (g 132 k))) 54 j (rdU hi ld j (g 132 k))) 52 j (ld j + 1)) 51 k (j : Int) 51 i = if i = k then (j : Int) else u1 51 i := fun i => by rw [up_at, up_cell (by decide), up_cell (by decide), up_cell (by decide)]
        have qx : ∀ x i, x ≠ 51 → x ≠ 52 → x ≠ 53 → x ≠ 54 → up (up (up (up u1 53 j (rdL lo ld j (g 132 k))) 54 j (rdU hi ld j (g 132 k))) 52 j (ld j + 1)) 51 k (j : Int) x i = u x i := fun x i x1 x2 x3 x4 => by rw [up_cell x1, up_cell x2, up_cell x4, up_cell x3]; exact f1 x i x1 x2 x3 x4
        obtain ⟨u2, eu⟩ : ∃ u2, u2 = up (up (up (up u1 53 j (rdL lo ld j (g 132 k))) 54 j (rdU hi ld j (g 132 k))) 52 j (ld j + 1)) 51 k (j : Int) := ⟨_, rfl⟩
        rw [← eu] at q51 q52 q53 q54 qx e64
        have e5 : most - n - rdM lo hi ld j (g 132 k) = most - (n + rdM lo hi ld j (g 132 k)) := by omega
        rw [e5] at e64
        obtain ⟨u', b1, b2⟩ := ih (D + 1) (k + 1) (pt lo j (rdL lo ld j (g 132 k))) (pt hi j (rdU hi ld j (g 132 k))) (pt ld j (ld j + 1)) (n + rdM lo hi ld j (g 132 k)) most (pt p k (j : Int)) u2 (by omega) (by omega) (fun i hi => by rw [qx 49 i (by decide) (by decide) (by decide) (by decide)]; exact h49 i hi) (fun i hi => by rw [qx 50 i (by decide) (by decide) (by decide) (by decide)]; exact h50 i hi) (by rw [qx 48 6 (by decide) (by decide) (by decide) (by decide)]; exact h48) (fun i hi => by
          rw [q52, pt_at]
          by_cases q : i = j
          · rw [if_pos q, if_pos q]
          · rw [if_neg q, if_neg q, (f2 i hi).1, h52 i hi]) (fun i hi => by
          rw [q53, q54, pt_at, pt_at, pt_at]
          by_cases q : i = j
          · rw [if_pos q, if_pos q, if_pos q, if_pos q, if_pos q]; exact fun _ => ⟨rfl, rfl⟩
          · rw [if_neg q, if_neg q, if_neg q, if_neg q, if_neg q, (f2 i hi).2.1, (f2 i hi).2.2]; exact h53 i hi) (rdI_step hI j4 hc (h132 k)) (by omega) m8 (fun i hi => by
          rw [q51, pt_at]
          by_cases q : i = k
          · rw [if_pos q, if_pos q]
          · rw [if_neg q, if_neg q, f3 i (by omega)]; exact hp i (by omega)) (fun i hi hn => by
          rw [q51]
          have ne : i ≠ k := fun q => hn (by rw [q]; exact z)
          rw [if_neg ne]
          exact f4 i hi hn)
        have b3 : ∀ x i, x ≠ 51 → x ≠ 52 → x ≠ 53 → x ≠ 54 → u' x i = u x i := fun x i x1 x2 x3 x4 => by rw [b1 x i x1 x2 x3 x4, qx x i x1 x2 x3 x4]
        rcases b2 with ⟨r1, r2, r3, r4, r5⟩ | ⟨w, r1, r2, r3⟩
        · have e6 : u' 52 j = ld j + 1 := by rw [(r3 j j4).1, q52, if_pos rfl]
          have cc : Call prog clsT X (D + 2) 64 [(2, 48), (0, (j : Int)), (0, (k : Int)), (0, most - n)] (mk E c s (hh u1)) = some ((0, 0), mk E c s (hh (up (up (up u' 53 j (u1 53 j)) 54 j (u1 54 j)) 52 j (ld j)))) := by
            rw [e64, call0 r2, push0, r64_95, cmp_eq, if_pos rfl, inb_is, if_pos i4, inb_is, if_pos i4, inb_is, if_pos i4, inb_is, if_pos i4, Int.toNat_natCast, e6, w32_of (x := ld j + 1 - 1) (by omega) (by omega), show ld j + 1 - 1 = ld j by omega]
          rw [call0 cc, push0, r63_44, cmp_eq, if_pos rfl, w32_succ (by omega)]
          refine nxt _ _ (fun x i x1 x2 x3 x4 => by rw [up_cell x2, up_cell x4, up_cell x3]; exact b3 x i x1 x2 x3 x4) (fun i hi => ?_) (fun i hi => ?_) (fun i hi hn => ?_) r1
          · have y1 : up (up (up u' 53 j (u1 53 j)) 54 j (u1 54 j)) 52 j (ld j) 52 i = if i = j then ld j else u' 52 i := by rw [up_at, up_cell (by decide), up_cell (by decide)]
            have y2 : up (up (up u' 53 j (u1 53 j)) 54 j (u1 54 j)) 52 j (ld j) 53 i = if i = j then u1 53 j else u' 53 i := by rw [up_cell (by decide), up_cell (by decide), up_at]
            have y3 : up (up (up u' 53 j (u1 53 j)) 54 j (u1 54 j)) 52 j (ld j) 54 i = if i = j then u1 54 j else u' 54 i := by rw [up_cell (by decide), up_at, up_cell (by decide)]
            rw [y1, y2, y3, (r3 i hi).1, (r3 i hi).2.1, (r3 i hi).2.2, q52, q53, q54]
            by_cases q : i = j
            · rw [if_pos q, if_pos q, if_pos q, q]; exact ⟨(h52 j j4).symm, (f2 j j4).2⟩
            · rw [if_neg q, if_neg q, if_neg q, if_neg q, if_neg q, if_neg q]; exact f2 i hi
          · rw [up_cell (by decide), up_cell (by decide), up_cell (by decide), r4 i (by omega), q51, if_neg (by omega)]
            exact f3 i hi
          · rw [up_cell (by decide), up_cell (by decide), up_cell (by decide)]
            exact r5 i hi hn
        · have cc : Call prog clsT X (D + 2) 64 [(2, 48), (0, (j : Int)), (0, (k : Int)), (0, most - n)] (mk E c s (hh u1)) = some ((0, 1), mk E c s (hh u')) := by
            rw [e64, call0 r2, push0, r64_95, cmp_eq, if_neg (by decide)]
          refine ⟨u', b3, Or.inr ⟨w, wyF_hit r1, ?_, r3⟩⟩
          rw [call0 cc, push0, r63_44, cmp_eq, if_neg (by decide)]
    exact loop 4 0 u (by omega) (fun _ _ _ _ _ _ => rfl) (fun _ _ => ⟨rfl, rfl, rfl⟩) (fun _ _ => rfl) hz
end DEALC
