/-! Part 9w: places. -/
theorem sm1_step {f : Nat → Int} {i : Nat} {v : Int} (hv : v = f i) (hb : ∀ j, 0 ≤ f j ∧ f j ≤ 1) (hi : i < 1000) : w32 (1 + sm f i + v) = 1 + sm f (i + 1) := by
  have := sm_bound (f := f) (a := 0) (b := 1) (n := i) (fun j _ => hb j)
  have h2 := hb i
  rw [hv, w32_of (by omega) (by omega)]
  show 1 + sm f i + f i = 1 + (sm f i + f i)
  omega
theorem bI_iff {p q : Prop} [Decidable p] [Decidable q] (h : p ↔ q) : bI p = bI q := by
  by_cases z : p
  · rw [bI_t z, bI_t (h.1 z)]
  · rw [bI_f z, bI_f (fun y => z (h.2 y))]
abbrev inK (g : Gm) (w : Nat → Int) (k : Int) (x : Nat) : Prop := x < nE g ∧ g 104 x = 0 ∧ g 99 x = k ∧ w x = -1
abbrev bt (m t : Nat → Int) (a b : Nat) : Prop := m b < m a ∨ (m a = m b ∧ t b < t a)
def pls (g : Gm) (w m t : Nat → Int) (k : Int) (x : Nat) : Nat → Int := sm (fun a => bI (inK g w k a ∧ bt m t a x))
def plv (g : Gm) (w m t : Nat → Int) (k : Int) (n2 n3 x : Nat) : Int := if inK g w k x then 1 + pls g w m t k x (if x < n2 then nE g else if x = n2 then n3 else 0) else 0
section PLACE
variable (X : MExt) {E : List (Nat × Nat)} {g : Gm}
theorem c22Q {N : Int} (h : ST N E g) {e : Nat} (he : e < nE g) {u : Gm} (hu : onQ g u) (c s d : Nat) (k : Int) : Call prog clsT X (d + 2) 22 [(2, 30), (0, (e : Int)), (0, k)] (mk E c s (hh u)) = some ((0, bI (g 104 e = 0 ∧ g 99 e = k)), mk E c s (hh u)) := by
  rw [c22 X E c s (ST_Q h hu).1.1.1 d, Int.toNat_natCast, hu 104 e rfl, hu 99 e rfl, nE_Q hu]
  rw [bI_iff (q := g 104 e = 0 ∧ g 99 e = k) ⟨fun z => z.2.2, fun z => ⟨by omega, by omega, z⟩⟩]
/-- what the class makes of entry e's facts, wherever the rules are those of g -/
abbrev evU (X : MExt) (E : List (Nat × Nat)) (g : Gm) (e : Nat) (w : Int) (m : Nat → Int) (t : Int) : Prop := ∀ k r rb : Nat, g 99 e = k → g 16 k = r → g 0 3 = rb → ∀ u, sameR g u → (∀ i, u 38 i = g 38 i) → (∀ f, f < 11 → u 28 f = (rowE g e).getD f 0) → (∃ u', Call prog clsT X 5 72 [(2, 27), (2, (r : Int)), (2, (rb : Int))] (mk E 0 0 (hh u)) = some ((0, w), mk E 0 0 (hh u'))) ∧ (∀ j : Nat, j < 4 → ∃ u', Call prog clsT X 4 109 [(2, 0), (0, (j : Int)), (2, (r : Int))] (mk E 0 0 (hh u)) = some ((0, m j), mk E 0 0 (hh u'))) ∧ ∃ u', Call prog clsT X 3 74 [(2, 27), (2, (r : Int)), (0, 7)] (mk E 0 0 (hh u)) = some ((0, t), mk E 0 0 (hh u'))
/-- word, marks and tie of every entry -/
theorem EV {N : Int} (h : ST N E g) : ∃ (w t : Nat → Int) (m : Nat → Nat → Int), ∀ e, e < nE g → -1 ≤ w e ∧ evU X E g e (w e) (m e) (t e) ∧ (∀ j : Nat, j < 4 → ∀ k r rb : Nat, g 99 e = k → g 16 k = r → g 0 3 = rb → ∀ d c s u, onC g u → ∃ u1 u2, Call prog clsT X (d + 5) 108 [(2, 0), (0, (e : Int))] (mk E c s (hh u)) = some ((3, 0), mk E c s (hh u1)) ∧ Call prog clsT X (d + 5) 72 [(2, 27), (2, (r : Int)), (2, (rb : Int))] (mk E c s (hh u1)) = some ((0, w e), mk E c s (hh u2)) ∧ onC g u1 ∧ onC g u2 ∧ off2 u u2 ∧ ∃ u3 u4, Call prog clsT X (d + 5) 109 [(2, 0), (0, (j : Int)), (2, (r : Int))] (mk E c s (hh u2)) = some ((0, m e j), mk E c s (hh u3)) ∧ Call prog clsT X (d + 5) 74 [(2, 27), (2, (r : Int)), (0, 7)] (mk E c s (hh u3)) = some ((0, t e), mk E c s (hh u4)) ∧ onC g u4 ∧ off2 u u4) ∧ ∀ d c s u, onM g u → (∃ u', Call prog clsT X (d + 8) 211 [(2, 89), (0, (e : Int))] (mk E c s (hh u)) = some ((0, bI (g 104 e = 0 ∧ w e = -1)), mk E c s (hh u')) ∧ onM g u' ∧ rfQ u u') ∧ (∀ j : Nat, j < 4 → ∃ u', Call prog clsT X (d + 8) 206 [(2, 89), (0, (e : Int)), (0, (j : Int))] (mk E c s (hh u)) = some ((0, m e j), mk E c s (hh u')) ∧ onM g u' ∧ rfQ u u') ∧ ∃ u', Call prog clsT X (d + 8) 212 [(2, 89), (0, (e : Int))] (mk E c s (hh u)) = some ((0, t e), mk E c s (hh u')) ∧ onM g u' ∧ rfQ u u' := by
  have key : ∀ e : Nat, ∃ a : Int × (Nat → Int) × Int, e < nE g → -1 ≤ a.1 ∧ evU X E g e a.1 a.2.1 a.2.2 ∧ (∀ j : Nat, j < 4 → ∀ k r rb : Nat, g 99 e = k → g 16 k = r → g 0 3 = rb → ∀ d c s u, onC g u → ∃ u1 u2, Call prog clsT X (d + 5) 108 [(2, 0), (0, (e : Int))] (mk E c s (hh u)) = some ((3, 0), mk E c s (hh u1)) ∧ Call prog clsT X (d + 5) 72 [(2, 27), (2, (r : Int)), (2, (rb : Int))] (mk E c s (hh u1)) = some ((0, a.1), mk E c s (hh u2)) ∧ onC g u1 ∧ onC g u2 ∧ off2 u u2 ∧ ∃ u3 u4, Call prog clsT X (d + 5) 109 [(2, 0), (0, (j : Int)), (2, (r : Int))] (mk E c s (hh u2)) = some ((0, a.2.1 j), mk E c s (hh u3)) ∧ Call prog clsT X (d + 5) 74 [(2, 27), (2, (r : Int)), (0, 7)] (mk E c s (hh u3)) = some ((0, a.2.2), mk E c s (hh u4)) ∧ onC g u4 ∧ off2 u u4) ∧ ∀ d c s u, onM g u → (∃ u', Call prog clsT X (d + 8) 211 [(2, 89), (0, (e : Int))] (mk E c s (hh u)) = some ((0, bI (g 104 e = 0 ∧ a.1 = -1)), mk E c s (hh u')) ∧ onM g u' ∧ rfQ u u') ∧ (∀ j : Nat, j < 4 → ∃ u', Call prog clsT X (d + 8) 206 [(2, 89), (0, (e : Int)), (0, (j : Int))] (mk E c s (hh u)) = some ((0, a.2.1 j), mk E c s (hh u')) ∧ onM g u' ∧ rfQ u u') ∧ ∃ u', Call prog clsT X (d + 8) 212 [(2, 89), (0, (e : Int))] (mk E c s (hh u)) = some ((0, a.2.2), mk E c s (hh u')) ∧ onM g u' ∧ rfQ u u' := fun e => by
    by_cases he : e < nE g
    case neg => exact ⟨(0, fun _ => 0, 0), fun z => absurd z he⟩
    obtain ⟨k, x, r, h99, h100, hk, hx, h16, _⟩ := ent h he
    have hle := h.1.1.1.rn.le
    have i40 : 0 ≤ (e : Int) ∧ (e : Int) < ((40 : Nat) : Int) := by omega
    obtain ⟨w, w1, _, _, wm, rb, hb, wc⟩ := ewx X h he
    obtain ⟨mf, _, mc, mm⟩ := ejx X h he h99 h16
    obtain ⟨t, _, tc, tm⟩ := elx X h he (j := 7) (by decide) h99 h16
    refine ⟨(w, mf, t), fun _ => ⟨w1, fun k' r' rb' z1 z2 z3 u hu hu38 hf => ?_, fun j hj k' r' rb' z1 z2 z3 d c s u hu => ?_, fun d c s u hu => ⟨?_, ?_, ?_⟩⟩⟩
    · have : k' = k := by rw [h99] at z1; omega
      subst this
      have : r' = r := by rw [h16] at z2; omega
      subst this
      have : rb' = rb := by rw [hb] at z3; omega
      subst this
      obtain ⟨u2, b1, _⟩ := wc r' ⟨k', h99, h16⟩ 0 0 0 u hu hf
      obtain ⟨u4, d1, _⟩ := tc 0 0 0 u hu hf
      exact ⟨⟨u2, b1⟩, fun j hj => by
        obtain ⟨u3, c1, _⟩ := mc j hj 0 0 0 u hu hu38 hf
        exact ⟨u3, c1⟩, u4, d1⟩
    · have : k' = k := by rw [h99] at z1; omega
      subst this
      have : r' = r := by rw [h16] at z2; omega
      subst this
      have : rb' = rb := by rw [hb] at z3; omega
      subst this
      obtain ⟨u1, a1, a2, a3, a4⟩ := tellCx X c s h he hu (d + 1)
      have h38 : ∀ v, onC g v → ∀ i, v 38 i = g 38 i := fun v hv i => hv 38 i rfl
      obtain ⟨u2, b1, b4⟩ := wc r' ⟨k', h99, h16⟩ d c s u1 (sameR_C a2) a3
      have b2 := onC_2 a2 (off2_29 b4)
      have b3 : ∀ f, f < 11 → u2 28 f = (rowE g e).getD f 0 := fun f hf => by rw [b4 28 f (by decide)]; exact a3 f hf
      obtain ⟨u3, c1, c4⟩ := mc j hj (d + 1) c s u2 (sameR_C b2) (h38 u2 b2) b3
      have c2 := onC_2 b2 (off2_29 c4)
      have c3 : ∀ f, f < 11 → u3 28 f = (rowE g e).getD f 0 := fun f hf => by rw [c4 28 f (by decide)]; exact b3 f hf
      obtain ⟨u4, d1, d4⟩ := tc (d + 2) c s u3 (sameR_C c2) c3
      have d2 := onC_2 c2 (off2_29 d4)
      exact ⟨u1, u2, a1, b1, a2, b2, off2_tr a4 (off2_29 b4), u3, u4, c1, d1, d2, off2_tr a4 (off2_tr (off2_29 b4) (off2_tr (off2_29 c4) (off2_29 d4)))⟩
    · rw [rc211_, inb_is, if_pos i40, Int.toNat_natCast, cmp_ne, hu 104 e rfl]
      by_cases q : g 104 e = 0
      · obtain ⟨u', q1, q2, q3⟩ := wm d c s u hu
        rw [if_neg (fun z => z q), call0 q1, push0, r211_8, cmp_ge]
        refine ⟨u', ?_, q2, q3⟩
        by_cases z : w = -1
        · rw [if_neg (by omega), bI_t ⟨q, z⟩]
        · rw [if_pos (by omega), bI_f (fun y => z y.2)]
      · rw [if_pos q, bI_f (fun y => q y.1)]
        exact ⟨u, rfl, hu, rfQ_refl u⟩
    · exact fun j hj => mm j hj (d + 2) c s u hu
    · obtain ⟨u1, a1, a2, a3, a4⟩ := tellMx X c s h he hu (d + 4)
      have e0 : w32 (w32 (9 * (k : Int)) + 7) = ((9 * k + 7 : Nat) : Int) := by
        rw [w32_of (x := 9 * (k : Int)) (by omega) (by omega), w32_of (by omega) (by omega)]; omega
      have i117 : 0 ≤ ((9 * k + 7 : Nat) : Int) ∧ ((9 * k + 7 : Nat) : Int) < ((117 : Nat) : Int) := by omega
      rw [rc212_, call3 a1, push3, r212_3, inb_is, if_pos i40, Int.toNat_natCast, a2 99 e rfl, h99, e0, inb_is, if_pos i117, Int.toNat_natCast, cmp_eq, a2 110 _ rfl]
      rcases tm with ⟨y1, y2⟩ | ⟨y1, y2⟩
      · rw [if_pos y1]
        show ∃ u', some (((0 : Nat), (0 : Int)), mk E c s (hh u1)) = some (((0 : Nat), t), mk E c s (hh u')) ∧ onM g u' ∧ rfQ u u'
        rw [y2]
        exact ⟨u1, rfl, a2, a4⟩
      · obtain ⟨u', q1, q2, _, q4⟩ := y2 (d + 3) c s u1 a2 a3
        rw [if_neg (by rw [y1]; decide), inb_is, if_pos i40, call0 q1, push0, r212_25]
        exact ⟨u', rfl, q2, rfQ_tr a4 q4⟩
  obtain ⟨f, hf⟩ := Classical.axiomOfChoice key
  exact ⟨fun e => (f e).1, fun e => (f e).2.2, fun e => (f e).2.1, hf⟩
theorem CA56 : CA E 56 40 := ⟨rfl, rfl⟩
/-- Cards.givePlaces -/
theorem c3 {N : Int} (h : ST N E g) (w m t : Nat → Int) (k : Int) (d c s : Nat) : ∀ (u : Gm), (∀ x, x < 40 → u 56 x = plv g w m t k 0 0 x) → (∀ x, inK g w k x → u 58 x = m x ∧ u 59 x = t x) → ∃ u', Call prog clsT X (d + 2) 3 [(2, 55), (0, (nE g : Int))] (mk E c s (hh u)) = some ((3, 0), mk E c s (hh u')) ∧ clQ u u' ∧ ∀ x, x < 40 → u' 56 x = plv g w m t k (nE g) 0 x := by
  intro u0 h56 hmt
  have hle := h.1.1.1.rn.le
  have hcell : ∀ u : Gm, (∀ x i, x ≠ 56 → u x i = u0 x i) → ∀ x, inK g w k x → u 58 x = m x ∧ u 59 x = t x := fun u hu x hx => by rw [hu 58 x (by decide), hu 59 x (by decide)]; exact hmt x hx
  have pos : ∀ n2 n3 x, inK g w k x → 0 < plv g w m t k n2 n3 x := fun n2 n3 x hx => by
    unfold plv pls
    rw [if_pos hx]
    have := sm_bound (f := fun a => bI (inK g w k a ∧ bt m t a x)) (a := 0) (b := 1) (n := if x < n2 then nE g else if x = n2 then n3 else 0) (fun j _ => bI_b _)
    omega
  have non : ∀ n2 n3 x, ¬ inK g w k x → plv g w m t k n2 n3 x = 0 := fun n2 n3 x hx => if_neg hx
  have nx : ∀ n2 x, plv g w m t k (n2 + 1) 0 x = plv g w m t k n2 (nE g) x := fun n2 x => by
    unfold plv
    by_cases z : x < n2
    · rw [if_pos (show x < n2 + 1 by omega), if_pos z]
    · by_cases z2 : x = n2
      · rw [if_pos (show x < n2 + 1 by omega), if_neg z, if_pos z2]
      · rw [if_neg (show ¬ x < n2 + 1 by omega), if_neg z, if_neg z2, ite_self]
  have skip : ∀ n2 x, ¬ inK g w k n2 → plv g w m t k n2 (nE g) x = plv g w m t k n2 0 x := fun n2 x hn => by
    by_cases z : x = n2
    · subst z; rw [non _ _ _ hn, non _ _ _ hn]
    · unfold plv
      rw [if_neg z, if_neg z]
  have stay : ∀ n2 n3 x, ¬ (inK g w k n3 ∧ bt m t n3 n2) → plv g w m t k n2 (n3 + 1) x = plv g w m t k n2 n3 x := fun n2 n3 x hn => by
    by_cases z : x = n2
    · subst z
      unfold plv pls
      rw [if_neg (Nat.lt_irrefl _), if_pos rfl, if_neg (Nat.lt_irrefl _), if_pos rfl]
      show (if _ then 1 + (sm _ n3 + bI (inK g w k n3 ∧ bt m t n3 x)) else 0) = _
      rw [bI_f hn, Int.add_zero]
    · unfold plv
      rw [if_neg z, if_neg z]
  have grow : ∀ n2 n3, inK g w k n2 → (inK g w k n3 ∧ bt m t n3 n2) → n3 < 1000 → w32 (plv g w m t k n2 n3 n2 + 1) = plv g w m t k n2 (n3 + 1) n2 := fun n2 n3 h2 hn h3 => by
    unfold plv pls
    rw [if_neg (Nat.lt_irrefl _), if_pos rfl, if_neg (Nat.lt_irrefl _), if_pos rfl, if_pos h2, if_pos h2]
    exact sm1_step (bI_t hn).symm (fun j => bI_b _) h3
  have c4 : ∀ a b : Nat, inK g w k a → inK g w k b → ∀ u : Gm, (∀ x i, x ≠ 56 → u x i = u0 x i) → Call prog clsT X (d + 1) 4 [(2, 55), (0, (a : Int)), (0, (b : Int))] (mk E c s (hh u)) = some ((0, bI (bt m t a b)), mk E c s (hh u)) := fun a b ha hb u hu => by
    have e1 := hcell u hu a ha
    have e2 := hcell u hu b hb
    have a40 : 0 ≤ (a : Int) ∧ (a : Int) < ((40 : Nat) : Int) := by have := ha.1; omega
    have b40 : 0 ≤ (b : Int) ∧ (b : Int) < ((40 : Nat) : Int) := by have := hb.1; omega
    rw [rc4_, inb_is, if_pos a40, inb_is, if_pos b40, Int.toNat_natCast, Int.toNat_natCast, cmp_eq, e1.1, e2.1]
    by_cases z : m a = m b
    · rw [if_pos z, inb_is, if_pos a40, inb_is, if_pos b40, cmp_le, e1.2, e2.2]
      by_cases y : t a ≤ t b
      · rw [if_pos y, bI_f (fun q => by rcases q with q | q <;> omega)]
      · rw [if_neg y, bI_t (Or.inr ⟨z, by omega⟩)]
    · rw [if_neg z, inb_is, if_pos a40, inb_is, if_pos b40, cmp_le]
      by_cases y : m a ≤ m b
      · rw [if_pos y, bI_f (fun q => by rcases q with q | q <;> omega)]
      · rw [if_neg y, bI_t (Or.inl (by omega))]
  have inner : ∀ (p n2 n3 : Nat) (u : Gm), n3 + p = nE g → n2 < nE g → inK g w k n2 → (∀ x i, x ≠ 56 → u x i = u0 x i) → (∀ x, x < 40 → u 56 x = plv g w m t k n2 n3 x) → ∃ u', Ev prog clsT X (d + 1) mc3 10 [(2, 55), (0, (nE g : Int)), (0, (n2 : Int)), (0, (n3 : Int))] [] (mk E c s (hh u)) = Ev prog clsT X (d + 1) mc3 2 [(2, 55), (0, (nE g : Int)), (0, ((n2 + 1 : Nat) : Int)), (0, (nE g : Int))] [] (mk E c s (hh u')) ∧ (∀ x i, x ≠ 56 → u' x i = u0 x i) ∧ (∀ x, x < 40 → u' 56 x = plv g w m t k (n2 + 1) 0 x) := by
    intro p
    induction p with
    | zero =>
      intro n2 n3 u hp h2 hin hu hv
      have hp : n3 = nE g := by omega
      subst hp
      refine ⟨u, ?_, hu, fun x hx => by rw [nx, hv x hx]⟩
      rw [r3_10, inb_is, if_pos (by omega), Int.toNat_natCast, cmp_le, if_neg (by rw [hv n2 (by omega)]; have := pos n2 (nE g) n2 hin; omega), cmp_ge, if_pos (Int.le_refl _), w32_succ (by omega)]
    | succ p ih =>
      intro n2 n3 u hp h2 hin hu hv
      have hgo : Ev prog clsT X (d + 1) mc3 10 [(2, 55), (0, (nE g : Int)), (0, (n2 : Int)), (0, (n3 : Int))] [] (mk E c s (hh u)) = if u 56 n3 ≤ 0 then Ev prog clsT X (d + 1) mc3 10 [(2, 55), (0, (nE g : Int)), (0, (n2 : Int)), (0, ((n3 + 1 : Nat) : Int))] [] (mk E c s (hh u)) else ((Call prog clsT X (d + 1) 4 [(2, 55), (0, (n3 : Int)), (0, (n2 : Int))] (mk E c s (hh u))).bind fun r1 => if r1.1.1 = 4 then none else Ev prog clsT X (d + 1) mc3 30 [(2, 55), (0, (nE g : Int)), (0, (n2 : Int)), (0, (n3 : Int))] (pushR r1.1 []) r1.2) := by
        rw [r3_10, inb_is, if_pos (by omega), Int.toNat_natCast, cmp_le, if_neg (by rw [hv n2 (by omega)]; have := pos n2 n3 n2 hin; omega), cmp_ge, if_neg (by omega), cmp_ge, if_neg (by omega), inb_is, if_pos (by omega), Int.toNat_natCast, cmp_le, w32_succ (by omega)]
      rw [hgo]
      by_cases q : inK g w k n3
      · rw [if_neg (by rw [hv n3 (by omega)]; have := pos n2 n3 n3 q; omega), call0 (c4 n3 n2 q hin u hu), push0, r3_30, cmp_eq]
        by_cases q2 : bt m t n3 n2
        · rw [bI_t q2, if_neg (by decide), inb_is, if_pos (by omega), inb_is, if_pos (by omega), Int.toNat_natCast, w32_succ (by omega)]
          refine ih n2 (n3 + 1) _ (by omega) h2 hin (fun x i hx => by rw [up_cell hx]; exact hu x i hx) (fun x hx => ?_)
          rw [up_at]
          by_cases z : x = n2
          · subst z
            rw [if_pos rfl, hv x hx, grow x n3 hin ⟨q, q2⟩ (by omega)]
          · rw [if_neg z, hv x hx]
            unfold plv
            rw [if_neg z, if_neg z]
        · rw [bI_f q2, if_pos rfl, w32_succ (by omega)]
          exact ih n2 (n3 + 1) u (by omega) h2 hin hu (fun x hx => by rw [hv x hx, stay _ _ _ (fun z => q2 z.2)])
      · rw [if_pos (by rw [hv n3 (by omega), non _ _ _ q]; exact Int.le_refl _)]
        exact ih n2 (n3 + 1) u (by omega) h2 hin hu (fun x hx => by rw [hv x hx, stay _ _ _ (fun z => q z.1)])
  have outer : ∀ (p n2 : Nat) (w3 : MV) (u : Gm), n2 + p = nE g → (∀ x i, x ≠ 56 → u x i = u0 x i) → (∀ x, x < 40 → u 56 x = plv g w m t k n2 0 x) → ∃ u', Ev prog clsT X (d + 1) mc3 2 [(2, 55), (0, (nE g : Int)), (0, (n2 : Int)), w3] [] (mk E c s (hh u)) = some ((3, 0), mk E c s (hh u')) ∧ (∀ x i, x ≠ 56 → u' x i = u0 x i) ∧ (∀ x, x < 40 → u' 56 x = plv g w m t k (nE g) 0 x) := by
    intro p
    induction p with
    | zero =>
      intro n2 w3 u hp hu hv
      have hp : n2 = nE g := by omega
      subst hp
      refine ⟨u, ?_, hu, hv⟩
      rw [r3_2, cmp_ge, if_pos (Int.le_refl _)]
    | succ p ih =>
      intro n2 w3 u hp hu hv
      rw [r3_2, cmp_ge, if_neg (by omega), cmp_ge, if_neg (by omega)]
      by_cases q : inK g w k n2
      · obtain ⟨u', a1, a2, a3⟩ := inner (nE g) n2 0 u (by omega) (by omega) q hu hv
        have a1 : Ev prog clsT X (d + 1) mc3 10 [(2, 55), (0, (nE g : Int)), (0, (n2 : Int)), (0, 0)] [] (mk E c s (hh u)) = _ := a1
        rw [a1]
        exact ih (n2 + 1) _ u' (by omega) a2 a3
      · rw [r3_10, inb_is, if_pos (by omega), Int.toNat_natCast, cmp_le, if_pos (by rw [hv n2 (by omega), non _ _ _ q]; exact Int.le_refl _), w32_succ (by omega)]
        exact ih (n2 + 1) _ u (by omega) hu (fun x hx => by rw [hv x hx, nx, skip _ _ q])
  obtain ⟨u', a1, a2, a3⟩ := outer (nE g) 0 (3, 0) u0 (by omega) (fun _ _ _ => rfl) h56
  refine ⟨u', ?_, fun x i hx => a2 x i (fun z => hx (by omega)), a3⟩
  rw [rc3_]
  exact a1
end PLACE
