/-! Part 9k: a text read by the class; by the reference. -/
def s0 : Sm := (0, 10, 0, fun _ => 0, fun _ => false, fun _ => [], fun _ => [])
theorem SG_0 (tx : Nat) : SG tx s0 := by
  unfold s0
  exact ⟨by decide, by decide, fun _ => rfl, fun q => absurd rfl q, by decide, fun i hi => absurd hi (Nat.not_lt_zero _), fun _ => rfl, fun j hj => absurd hj (show ¬ (false = true) by decide)⟩
def txs (tx : Nat) : Int := if tx = 2 then -11 else -10
/-- the first token -/
def tok0 (T : Nat → Int) (L : Nat) : Nat := spn blk T L 0
section READ
variable {X : MExt} {T : Nat → Int} {L : Nat}
/-- Reader.read up to its first line -/
theorem c39_pre (hX : XT X) {tx : Nat} (htx : tx < 3) (hL : L ≤ 1000) (E : List (Nat × Nat)) (c s : Nat) {g : Gm} (h1 : g 9 1 = L) (hT : agr (g 10) T L) (hk : ∀ i, i < L → okB (T i)) (t : Nat) : ∃ g1, Call prog clsT X (t + 6) 39 [(2, 9), (0, (tx : Int))] (mk E c s (hh g)) = Ev prog clsT X (t + 5) mc39 25 [(2, 9), (0, (tx : Int)), (0, 0)] [] (mk (E ++ nE5 L) (c + 5) (s + (36 + L)) (hh g1)) ∧ CI T L (plan tx) (E ++ nE5 L) (159 + E.length) (tok0 T L) g1 ∧ HC tx s0 (159 + E.length) g1 ∧ ∀ x i, x < 159 + E.length → ¬ (x = 9 ∧ 2 ≤ i ∧ i ≤ 8) → g1 x i = g x i := by
  obtain ⟨u, k1, k2, k3, k4, k5, k6, k7, k8, k9⟩ := new_rules X E c s L (g := g) hL (t + 3)
  generalize hr : 159 + E.length = r at k1 k2 k3 k4 k5 k6 k7 k8 k9 ⊢
  generalize hE : E ++ nE5 L = E' at k1 k2 ⊢
  have hlen : (159 + E'.length : Nat) = r + 5 := by rw [← hE, List.length_append, ← hr]; show 159 + (E.length + 5) = _; omega
  have hw1 : up (up (up (up u 9 2 (r : Int)) 9 8 (txs tx)) 9 3 0) 9 4 0 9 1 = L := by
    rw [up_ne (by omega), up_ne (by omega), up_ne (by omega), up_ne (by omega), k9 9 1 (by omega)]; exact h1
  obtain ⟨g1, j1, j2, j3⟩ := c40t X E' (c + 5) (s + (36 + L)) (g := up (up (up (up u 9 2 (r : Int)) 9 8 (txs tx)) 9 3 0) 9 4 0) (T := T) hX t L 0 hL (Nat.zero_le _) hw1 up_same (by rw [up_ne (by omega)]; exact up_same) (fun i hi => by rw [up_ne (by omega), up_ne (by omega), up_ne (by omega), up_ne (by omega), k9 10 i (by omega)]; exact hT i hi) hk
  rw [Nat.sub_zero] at j2
  have f : ∀ x i, ¬ (x = 9 ∧ 2 ≤ i ∧ i ≤ 8) → g1 x i = u x i := fun x i q => by
    rw [j3 x i (by unfold zC; omega), up_ne (by omega), up_ne (by omega), up_ne (by omega), up_ne (by omega)]
  have hrp : RP g1 r := by
    unfold RP at k3 ⊢
    rw [f r 3 (by omega), f r 4 (by omega), f r 5 (by omega), f r 6 (by omega)]
    exact k3
  refine ⟨g1, ?_, ⟨j2, ⟨k2, hrp, ?_, by omega, ?_, ?_, hL⟩, ?_, ?_⟩, ⟨?_, ?_, ?_, fun i hi => absurd hi (Nat.not_lt_zero _), fun j hj => Or.inl ⟨rfl, ?_⟩⟩, fun x i q1 q2 => ?_⟩
  · have e9 : nx (mk E c s (hh g)) = (r : Int) := by rw [nx_mk, hr]
    have efg : ∀ {k : Int → Option MRes}, (fget 2564 (growF (mk E c s (hh g)) 7 8 (fDef (clsT.getD 7 []))) 9).bind k = k (g 9 1) := by
      intro k
      rw [grow_mk, F2564_9, sF_ne (by omega)]
    have erv : rcv (growF (mk E c s (hh g)) 7 8 (fDef (clsT.getD 7 []))) (r : Int) 8 = true := by
      rw [grow_mk, hr]
      have hc : CE (E ++ [(7, 8)]) r 7 8 := by rw [← hr]; exact CE_new
      unfold rcv
      rw [if_pos (Int.natCast_nonneg r), layC _ _ _ hc]
      rfl
    have evr : ∀ {u' : Gm} {x : Int}, x < 1 ∨ x = (r : Int) → vref (mk E' (c + 5) (s + (36 + L)) (hh u')) x = true := fun {u' x} hx => vr_mk _ _ _ (by omega)
    rw [rc39_, efg, e9, if_pos ⟨rfl, erv⟩, h1, call3 k1, push3, r39_6, fT 2570 _ _ (evr (Or.inr rfl)) rfl (by decide), cmp_ne]
    by_cases q : tx = 2
    · have e : txs tx = -11 := if_pos q
      rw [e] at j1
      rw [if_neg (by omega), fT 2594 _ _ (evr (Or.inl (by decide))) rfl (by decide), call3 j1, push3, r39_23]
    · have e : txs tx = -10 := if_neg q
      rw [e] at j1
      rw [if_pos (by omega), fT 2594 _ _ (evr (Or.inl (by decide))) rfl (by decide), call3 j1, push3, r39_23]
  · rw [j3 9 2 (by unfold zC; omega), up_ne (by omega), up_ne (by omega), up_ne (by omega), up_same]
  · rw [f r 7 (by omega), k7]; decide
  · rw [f r 7 (by omega), k7]; omega
  · rw [f r 7 (by omega), k7]; omega
  · rw [j3 9 8 (by unfold zC; omega), up_ne (by omega), up_ne (by omega), up_same]
    unfold txs plan
    by_cases q : tx = 2
    · rw [if_pos q, decide_eq_true q]; rfl
    · rw [if_neg q, decide_eq_false q]; rfl
  · rw [f r 0 (by omega), k4]; rfl
  · rw [f r 1 (by omega), k5]; rfl
  · rw [f r 2 (by omega), k6]; rfl
  · rw [f (r + 2) _ (by omega)]; exact k8 _ (cl_lt hj)
  · rw [f x i q2, k9 x i q1]
/-- Model.readsFor up to its first line -/
def clr (g : Gm) (n : Nat) : Gm := fun x i => if x = 110 ∧ 108 ≤ i ∧ i < 108 + n then 0 else g x i
theorem m169_pre {tx k : Nat} (hk : regOK tx k) (E : List (Nat × Nat)) (c s : Nat) {g : Gm} {n : Nat} (h : TM T L n g) (t : Nat) : ∃ g1 w, Call prog clsT X (t + 11) 169 [(2, 89), (0, (k : Int))] (mk E c s (hh g)) = Ev prog clsT X (t + 10) mc169 38 [(2, 89), (0, (k : Int)), w] [] (mk E c s (hh g1)) ∧ MI T L (plan tx) n g1 ∧ HM s0 g1 ∧ ∀ x i, ¬ (zR x i ∨ (x = 89 ∧ i = 36)) → g1 x i = g x i := by
  have loop : ∀ (m i : Nat), i + m = 9 → Ev prog clsT X (t + 10) mc169 2 [(2, 89), (0, (k : Int)), (0, ((108 + i : Nat) : Int))] [] (mk E c s (hh (clr g i))) = Ev prog clsT X (t + 10) mc169 2 [(2, 89), (0, (k : Int)), (0, ((108 + 9 : Nat) : Int))] [] (mk E c s (hh (clr g 9))) := by
    intro m
    induction m with
    | zero => intro i hi; rw [show i = 9 by omega]
    | succ m ih =>
      intro i hi
      have e : up (clr g i) 110 (108 + i) (bit1 0) = clr g (i + 1) := by
        funext x j
        unfold up clr
        by_cases q : x = 110 ∧ j = 108 + i
        · rw [if_pos q, if_pos ⟨q.1, by omega, by omega⟩]; rfl
        · rw [if_neg q]
          by_cases q2 : x = 110 ∧ 108 ≤ j ∧ j < 108 + i
          · rw [if_pos q2, if_pos ⟨q2.1, q2.2.1, by omega⟩]
          · rw [if_neg q2, if_neg (fun z => by
              by_cases y : j = 108 + i
              · exact q ⟨z.1, y⟩
              · exact q2 ⟨z.1, z.2.1, by omega⟩)]
      rw [r169_2, cmp_ge, if_neg (by omega), inb_is, if_pos (by omega), Int.toNat_natCast, e, w32_succ (by omega)]
      exact ih (i + 1) (by omega)
  have e0 : clr g 0 = g := by
    funext x j
    exact if_neg (by omega)
  have hl := loop 9 0 (by omega)
  rw [e0] at hl
  have hl : Ev prog clsT X (t + 10) mc169 2 [(2, 89), (0, (k : Int)), (0, 108)] [] (mk E c s (hh g)) = _ := hl
  have hc : ∀ x i, ¬ (x = 110 ∧ 108 ≤ i) → clr g 9 x i = g x i := fun x i q => if_neg (fun z => q ⟨z.1, z.2.1⟩)
  have key : ∀ v : Int, v = (if plan tx = true then 1 else 0) → MI T L (plan tx) n (up (up (up (up (up (clr g 9) 107 12 0) 108 12 10) 109 12 0) 89 35 12000) 89 36 v) ∧ HM s0 (up (up (up (up (up (clr g 9) 107 12 0) 108 12 10) 109 12 0) 89 35 12000) 89 36 v) ∧ ∀ x i, ¬ (zR x i ∨ (x = 89 ∧ i = 36)) → up (up (up (up (up (clr g 9) 107 12 0) 108 12 10) 109 12 0) 89 35 12000) 89 36 v x i = g x i := by
    intro v hv
    refine ⟨⟨TM_fr h (fun j q1 q2 => ?_) (fun j => ?_), ?_, ?_, ?_⟩, ⟨?_, ?_, ?_, fun i hi => absurd hi (Nat.not_lt_zero _), fun j hj => Or.inl ⟨rfl, ?_⟩⟩, fun x i q => ?_⟩
    · rw [up_ne (by omega), up_ne (by omega), up_ne (by omega), up_ne (by omega), up_ne (by omega), hc 89 j (by omega)]
    · rw [up_ne (by omega), up_ne (by omega), up_ne (by omega), up_ne (by omega), up_ne (by omega), hc 105 j (by omega)]
    · rw [up_ne (by omega), up_same]; decide
    · rw [up_ne (by omega), up_same]; omega
    · rw [up_same]; exact hv
    · rw [up_ne (by omega), up_ne (by omega), up_ne (by omega), up_ne (by omega), up_same]; rfl
    · rw [up_ne (by omega), up_ne (by omega), up_ne (by omega), up_same]; rfl
    · rw [up_ne (by omega), up_ne (by omega), up_same]; rfl
    · rw [up_ne (by omega), up_ne (by omega), up_ne (by omega), up_ne (by omega), up_ne (by omega)]
      exact if_pos ⟨rfl, by omega, by omega⟩
    · have q1 : ¬ (x = 89 ∧ i = 36) := fun z => q (Or.inr z)
      have q2 : ¬ (x = 89 ∧ i = 35) := fun z => q (Or.inl (Or.inr (Or.inl ⟨z.1, Or.inr z.2⟩)))
      have q3 : ¬ (107 ≤ x ∧ x ≤ 109 ∧ i = 12) := fun z => q (Or.inl (Or.inr (Or.inr (Or.inr (Or.inr (Or.inr (Or.inl z)))))))
      have q4 : ¬ (110 ≤ x ∧ x ≤ 113 ∧ 108 ≤ i) := fun z => q (Or.inl (Or.inr (Or.inr (Or.inr (Or.inr (Or.inr (Or.inr z)))))))
      rw [up_ne q1, up_ne q2, up_ne (by omega), up_ne (by omega), up_ne (by omega), hc x i (by omega)]
  rw [rc169_, hl, r169_2, cmp_ge, if_pos (by omega), cmp_ne]
  by_cases q : tx = 2
  · have hk11 : (k : Int) = 11 := by rcases hk with z | z | z <;> omega
    obtain ⟨p1, p2, p3⟩ := key 1 (by unfold plan; rw [decide_eq_true q]; rfl)
    rw [if_neg (fun z => z hk11)]
    exact ⟨_, _, rfl, p1, p2, p3⟩
  · have hk11 : ¬ ((k : Int) = 11) := by rcases hk with z | z | z <;> omega
    obtain ⟨p1, p2, p3⟩ := key 0 (by unfold plan; rw [decide_eq_false q]; rfl)
    rw [if_pos hk11]
    exact ⟨_, _, rfl, p1, p2, p3⟩
/-- .. and what it does at the end -/
def cpX (g : Gm) (k x j : Nat) : Int := if x = 110 then bit1 (g 110 (108 + j)) else if x = 111 then g 111 (108 + j) else if x = 112 then w32 (w32 (g 112 (108 + j) - 12000) + w32 (1000 * (k : Int))) else w32 (w32 (g 113 (108 + j) - 12000) + w32 (1000 * (k : Int)))
def cp1 (g : Gm) (k n : Nat) : Gm := fun x i => if 110 ≤ x ∧ x ≤ 113 ∧ 9 * k ≤ i ∧ i < 9 * k + n then cpX g k x (i - 9 * k) else g x i
def cp2 (g : Gm) (k n : Nat) : Gm := fun x i => if x = 114 ∧ 1000 * k ≤ i ∧ i < 1000 * k + n then g 114 (12000 + (i - 1000 * k)) else g x i
theorem m169_end {k : Nat} (hk : k ≤ 11) (E : List (Nat × Nat)) (c s : Nat) {g : Gm} (h22 : g 89 22 = 0) (t : Nat) (w : MV) : Ev prog clsT X t mc169 38 [(2, 89), (0, (k : Int)), w] [] (mk E c s (hh g)) = some ((0, 0), mk E c s (hh (cp2 (cp1 (up (up (up g 107 k (g 107 12)) 108 k (g 108 12)) 109 k (g 109 12)) k 9) k 1000))) := by
  rw [r169_38, cmp_eq, if_pos h22, inb_is, if_pos (by omega), inb_is, if_pos (by omega), inb_is, if_pos (by omega), Int.toNat_natCast]
  generalize up (up (up g 107 k (g 107 12)) 108 k (g 108 12)) 109 k (g 109 12) = u
  have e9k : w32 (9 * (k : Int)) = ((9 * k : Nat) : Int) := by rw [w32_of (by omega) (by omega)]; omega
  have e1k : w32 (1000 * (k : Int)) = ((1000 * k : Nat) : Int) := by rw [w32_of (by omega) (by omega)]; omega
  have loop1 : ∀ (m i : Nat), i + m = 9 → Ev prog clsT X t mc169 86 [(2, 89), (0, (k : Int)), (0, (i : Int))] [] (mk E c s (hh (cp1 u k i))) = Ev prog clsT X t mc169 161 [(2, 89), (0, (k : Int)), (0, 0)] [] (mk E c s (hh (cp1 u k 9))) := by
    intro m
    induction m with
    | zero => intro i hi; rw [r169_86, cmp_ge, if_pos (by omega), show i = 9 by omega]
    | succ m ih =>
      intro i hi
      have a1 : w32 (108 + (i : Int)) = ((108 + i : Nat) : Int) := w108 i (by omega)
      have a2 : w32 (((9 * k : Nat) : Int) + (i : Int)) = ((9 * k + i : Nat) : Int) := by rw [w32_of (by omega) (by omega)]; omega
      have src : ∀ x, cp1 u k i x (108 + i) = u x (108 + i) := fun x => if_neg (by omega)
      have e : up (up (up (up (cp1 u k i) 110 (9 * k + i) (bit1 (cp1 u k i 110 (108 + i)))) 111 (9 * k + i) (cp1 u k i 111 (108 + i))) 112 (9 * k + i) (w32 (w32 (cp1 u k i 112 (108 + i) - 12000) + w32 (1000 * (k : Int))))) 113 (9 * k + i) (w32 (w32 (cp1 u k i 113 (108 + i) - 12000) + w32 (1000 * (k : Int)))) = cp1 u k (i + 1) := by
        rw [src, src, src, src]
        funext x j
        by_cases q : 110 ≤ x ∧ x ≤ 113 ∧ j = 9 * k + i
        · obtain ⟨q1, q2, rfl⟩ := q
          have er : cp1 u k (i + 1) x (9 * k + i) = cpX u k x i := by
            unfold cp1
            rw [if_pos ⟨q1, q2, by omega, by omega⟩, Nat.add_sub_cancel_left]
          rw [er]
          unfold cpX
          have : x = 110 ∨ x = 111 ∨ x = 112 ∨ x = 113 := by omega
          rcases this with z | z | z | z
          · subst z; rw [up_ne (by omega), up_ne (by omega), up_ne (by omega), up_same, if_pos rfl]
          · subst z; rw [up_ne (by omega), up_ne (by omega), up_same, if_neg (by decide), if_pos rfl]
          · subst z; rw [up_ne (by omega), up_same, if_neg (by decide), if_neg (by decide), if_pos rfl]
          · subst z; rw [up_same, if_neg (by decide), if_neg (by decide), if_neg (by decide)]
        · rw [up_ne (by omega), up_ne (by omega), up_ne (by omega), up_ne (by omega)]
          unfold cp1
          by_cases q2 : 110 ≤ x ∧ x ≤ 113 ∧ 9 * k ≤ j ∧ j < 9 * k + i
          · rw [if_pos q2, if_pos ⟨q2.1, q2.2.1, q2.2.2.1, by omega⟩]
          · rw [if_neg q2, if_neg (by omega)]
      rw [r169_86, cmp_ge, if_neg (by omega), a1, e9k, a2]
      rw [inb_is, if_pos (by omega), inb_is, if_pos (by omega), inb_is, if_pos (by omega), inb_is, if_pos (by omega), inb_is, if_pos (by omega), inb_is, if_pos (by omega), inb_is, if_pos (by omega), inb_is, if_pos (by omega), Int.toNat_natCast, Int.toNat_natCast, e, w32_succ (by omega)]
      exact ih (i + 1) (by omega)
  have loop2 : ∀ (v : Gm) (m i : Nat), i + m = 1000 → Ev prog clsT X t mc169 161 [(2, 89), (0, (k : Int)), (0, (i : Int))] [] (mk E c s (hh (cp2 v k i))) = some ((0, 0), mk E c s (hh (cp2 v k 1000))) := by
    intro v m
    induction m with
    | zero => intro i hi; rw [r169_161, cmp_ge, if_pos (by omega), show i = 1000 by omega]
    | succ m ih =>
      intro i hi
      have a1 : w32 (12000 + (i : Int)) = ((12000 + i : Nat) : Int) := by rw [w32_of (by omega) (by omega)]; omega
      have a2 : w32 (((1000 * k : Nat) : Int) + (i : Int)) = ((1000 * k + i : Nat) : Int) := by rw [w32_of (by omega) (by omega)]; omega
      have e : up (cp2 v k i) 114 (1000 * k + i) (cp2 v k i 114 (12000 + i)) = cp2 v k (i + 1) := by
        have src : cp2 v k i 114 (12000 + i) = v 114 (12000 + i) := if_neg (by omega)
        rw [src]
        funext x j
        by_cases q : x = 114 ∧ j = 1000 * k + i
        · obtain ⟨rfl, rfl⟩ := q
          rw [up_same]
          unfold cp2
          rw [if_pos ⟨rfl, by omega, by omega⟩, Nat.add_sub_cancel_left]
        · rw [up_ne q]
          unfold cp2
          by_cases q2 : x = 114 ∧ 1000 * k ≤ j ∧ j < 1000 * k + i
          · rw [if_pos q2, if_pos ⟨q2.1, q2.2.1, by omega⟩]
          · rw [if_neg q2, if_neg (by omega)]
      rw [r169_161, cmp_ge, if_neg (by omega), a1, e1k, a2, inb_is, if_pos (by omega), inb_is, if_pos (by omega), Int.toNat_natCast, Int.toNat_natCast, e, w32_succ (by omega)]
      exact ih (i + 1) (by omega)
  have z1 : cp1 u k 0 = u := by funext x j; exact if_neg (by omega)
  have z2 : cp2 (cp1 u k 9) k 0 = cp1 u k 9 := by funext x j; exact if_neg (by omega)
  have h1 := loop1 9 0 (by omega)
  have h2 := loop2 (cp1 u k 9) 1000 0 (by omega)
  rw [z1] at h1
  rw [z2] at h2
  exact h1.trans h2
end READ
