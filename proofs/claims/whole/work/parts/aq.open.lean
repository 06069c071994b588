/-! Part aq: the classes that are still open, as both sides list them. -/
def lnK (N : Nat → Nat) : Nat → Nat
  | 0 => 0
  | k + 1 => if 0 < N k then lnK N k + 1 else lnK N k
def lwK (N : Nat → Nat) : Nat → Nat → Nat
  | 0 => fun _ => 0
  | k + 1 => if 0 < N k then (fun q => if q = lnK N k then k else lwK N k q) else lwK N k
theorem lnK_s (N : Nat → Nat) (k : Nat) : lnK N (k + 1) = if 0 < N k then lnK N k + 1 else lnK N k := rfl
theorem lwK_s (N : Nat → Nat) (k : Nat) : lwK N (k + 1) = if 0 < N k then (fun q => if q = lnK N k then k else lwK N k q) else lwK N k := rfl
/-- one class, or one entry, too many -/
def badK (N : Nat → Nat) (k : Nat) : Prop := 5 < N k ∨ (0 < N k ∧ 3 ≤ lnK N k)
/-- how many entries of a class have a place to come; of each name -/
def nK (g : Gm) (w : Nat → Int) (k : Nat) : Int := sm (fun e => bI (inK g w (k : Int) e)) (nE g)
def cK (g : Gm) (w : Nat → Int) (k x : Nat) : Int := sm (fun e => bI (inK g w (k : Int) e ∧ phi g (g 100 e).toNat = x)) (nE g)
def oK (g : Gm) (w : Nat → Int) (k : Nat) : Nat := if g 130 k < 0 then (nK g w k).toNat else 0
theorem nK_0 (g : Gm) (w : Nat → Int) (k : Nat) : 0 ≤ nK g w k := by
  have := sm_bound (f := fun e => bI (inK g w (k : Int) e)) (a := 0) (b := 1) (n := nE g) (fun i _ => bI_b _)
  unfold nK; omega
theorem cK_0 (g : Gm) (w : Nat → Int) (k x : Nat) : 0 ≤ cK g w k x := by
  have := sm_bound (f := fun e => bI (inK g w (k : Int) e ∧ phi g (g 100 e).toNat = x)) (a := 0) (b := 1) (n := nE g) (fun i _ => bI_b _)
  unfold cK; omega
theorem sm_le {f : Nat → Int} (hf : ∀ i, 0 ≤ f i) : ∀ {n m : Nat}, n ≤ m → sm f n ≤ sm f m := by
  intro n m h
  induction m with
  | zero =>
    have : n = 0 := by omega
    subst this
    exact Int.le_refl _
  | succ m ih =>
    by_cases z : n = m + 1
    · subst z; exact Int.le_refl _
    · have := ih (by omega)
      have e : sm f (m + 1) = sm f m + f m := rfl
      have := hf m
      omega
theorem phi_ok {N : Int} {E : List (Nat × Nat)} {g : Gm} (h : ST N E g) {e : Nat} (he : e < nE g) : phi g (g 100 e).toNat < 11 ∧ (phi g (g 100 e).toNat < 10 → g 90 (phi g (g 100 e).toNat) ≠ 0 ∧ g 93 (phi g (g 100 e).toNat) = 0) := by
  obtain ⟨_, x, _, _, h100, _, hx, _, _, _, h90⟩ := ent h he
  rw [h100, Int.toNat_natCast]
  unfold phi
  by_cases z : g 93 x = 0
  · rw [if_pos z]
    exact ⟨by omega, fun _ => ⟨h90, z⟩⟩
  · rw [if_neg z]
    exact ⟨by omega, fun q => absurd q (by omega)⟩
/-- names of the class's list number q: as many of each as class k has -/
def nmL (g : Gm) (w : Nat → Int) (u : Gm) (q k n : Nat) : Prop := (∀ x : Nat, sm (fun j => bI (u 69 (5 * q + j) = (x : Int))) n = cK g w k x) ∧ ∀ j, j < n → ∃ e, e < nE g ∧ u 69 (5 * q + j) = (phi g (g 100 e).toNat : Int)
def lsQ (cl : Nat) (u u' : Gm) : Prop := (∀ y i, y ≠ 28 → y ≠ 29 → y ≠ 69 → u' y i = u y i) ∧ ∀ i, ¬ (5 * cl ≤ i ∧ i < 5 * cl + 5) → u' 69 i = u 69 i
theorem lsQ_refl (cl : Nat) (u : Gm) : lsQ cl u u := ⟨fun _ _ _ _ _ => rfl, fun _ _ => rfl⟩
theorem lsQ_tr {cl : Nat} {u v w : Gm} (h : lsQ cl u v) (h2 : lsQ cl v w) : lsQ cl u w := ⟨fun y i a b c => (h2.1 y i a b c).trans (h.1 y i a b c), fun i a => (h2.2 i a).trans (h.2 i a)⟩
theorem lsQ_2 {cl : Nat} {u v : Gm} (h : off2 u v) : lsQ cl u v := ⟨fun y i a b _ => h y i a b, fun i _ => h 69 i (by decide) (by decide)⟩
theorem onQ_ls {cl : Nat} {g u v : Gm} (h : onQ g u) (h2 : lsQ cl u v) : onQ g v := fun x i hs => (h2.1 x i (fun z => by rw [z] at hs; cases hs) (fun z => by rw [z] at hs; cases hs) (fun z => by rw [z] at hs; cases hs)).trans (h x i hs)
/-- what both sides know of a word -/
def evW (X : MExt) (E : List (Nat × Nat)) (g : Gm) (w : Nat → Int) : Prop := ∀ e, e < nE g → -1 ≤ w e ∧ (∀ k r rb : Nat, g 99 e = k → g 16 k = r → g 0 3 = rb → ∀ d c s u, onQ g u → ∃ u1 u2, Call prog clsT X (d + 5) 108 [(2, 0), (0, (e : Int))] (mk E c s (hh u)) = some ((3, 0), mk E c s (hh u1)) ∧ Call prog clsT X (d + 5) 72 [(2, 27), (2, (r : Int)), (2, (rb : Int))] (mk E c s (hh u1)) = some ((0, w e), mk E c s (hh u2)) ∧ onC g u1 ∧ off2 u u2) ∧ ∀ d c s u, onM g u → ∃ u', Call prog clsT X (d + 8) 211 [(2, 89), (0, (e : Int))] (mk E c s (hh u)) = some ((0, bI (g 104 e = 0 ∧ w e = -1)), mk E c s (hh u')) ∧ onM g u' ∧ rfQ u u'
section OPENS
variable (X : MExt) {E : List (Nat × Nat)} {g : Gm}
theorem EVw {N : Int} (h : ST N E g) : ∃ w, evW X E g w := by
  obtain ⟨w, t, m, ev⟩ := EV X h
  refine ⟨w, fun e he => ?_⟩
  obtain ⟨a1, _, a3, a4⟩ := ev e he
  refine ⟨a1, fun k r rb h1 h2 h3 d c s u hu => ?_, fun d c s u hu => (a4 d c s u hu).1⟩
  obtain ⟨u1, u2, b1, b2, b3, b4, b5, _⟩ := a3 0 (by decide) k r rb h1 h2 h3 d c s u (C_of hu)
  exact ⟨u1, u2, b1, b2, b3, b5⟩
theorem c10x (d c s cl f x : Nat) {u : Gm} (hcl : u 65 2 = cl) (h3 : cl ≤ 3) (hf : f < 1000) : Call prog clsT X (d + 1) 10 [(2, 65), (0, (f : Int)), (0, (x : Int))] (mk E c s (hh u)) = some ((3, 0), mk E c s (hh (if cl < 3 ∧ f < 5 then up u 69 (5 * cl + f) x else u))) := by
  rw [rc10_, hcl, cmp_ge, cmp_ge]
  by_cases z : cl < 3
  case neg => rw [if_pos (by omega), if_neg (fun q => z q.1)]
  by_cases y : f < 5
  case neg => rw [if_neg (by omega), if_pos (by omega), if_neg (fun q => y q.2)]
  have e0 : w32 (w32 ((cl : Int) * 5) + (f : Int)) = ((5 * cl + f : Nat) : Int) := by
    rw [w32_of (x := (cl : Int) * 5) (by omega) (by omega), w32_of (by omega) (by omega)]; omega
  have i15 : 0 ≤ ((5 * cl + f : Nat) : Int) ∧ ((5 * cl + f : Nat) : Int) < ((15 : Nat) : Int) := by omega
  rw [if_neg (by omega), if_neg (by omega), e0, inb_is, if_pos i15, if_pos ⟨z, y⟩, Int.toNat_natCast]
/-- the entries of one class, those of one kind -/
theorem c128_loop {N : Int} (h : ST N E g) {w : Nat → Int} (ev : evW X E g w) {k T cl : Nat} (hk : k < 10) (h3 : cl ≤ 3) (d c s : Nat) (t : Nat) (S : Nat → Prop) [DecidablePred S] (ht : t = 0 ∨ t = 1) (hS : ∀ e, S e ↔ if t = 0 then g 100 e = T else ¬ (g 100 e = T)) (base : Nat → Int) (f0 : Nat) (h0 : f0 ≤ 40) : ∀ (p i f : Nat) (w6 : MV) (u : Gm), i + p = nE g → onQ g u → u 65 2 = cl → (f : Int) = f0 + sm (fun e => bI (S e ∧ inK g w (k : Int) e)) i → (cl < 3 → f ≤ 5 → (∀ x : Nat, sm (fun j => bI (u 69 (5 * cl + j) = (x : Int))) f = base x + sm (fun e => bI (S e ∧ inK g w (k : Int) e ∧ phi g (g 100 e).toNat = x)) i) ∧ ∀ j, j < f → ∃ e, e < nE g ∧ u 69 (5 * cl + j) = (phi g (g 100 e).toNat : Int)) → ∃ (f' : Nat) (u' : Gm), Ev prog clsT X (d + 5) mc128 9 [(2, 0), (0, (k : Int)), (0, (T : Int)), (0, (f : Int)), (0, (t : Int)), (0, (i : Int)), w6] [] (mk E c s (hh u)) = Ev prog clsT X (d + 5) mc128 4 [(2, 0), (0, (k : Int)), (0, (T : Int)), (0, (f' : Int)), (0, ((t + 1 : Nat) : Int)), (0, (nE g : Int)), (3, 0)] [] (mk E c s (hh u')) ∧ lsQ cl u u' ∧ (f' : Int) = f0 + sm (fun e => bI (S e ∧ inK g w (k : Int) e)) (nE g) ∧ (cl < 3 → f' ≤ 5 → (∀ x : Nat, sm (fun j => bI (u' 69 (5 * cl + j) = (x : Int))) f' = base x + sm (fun e => bI (S e ∧ inK g w (k : Int) e ∧ phi g (g 100 e).toNat = x)) (nE g)) ∧ ∀ j, j < f' → ∃ e, e < nE g ∧ u' 69 (5 * cl + j) = (phi g (g 100 e).toNat : Int)) := by
  have hre := h.1.1.1
  have hle := hre.rn.le
  have hn := hre.n
  have e4 := h.1.1.2.1.2.2.2.2.1
  have e32 : ∀ e : Nat, g 32 e = g 100 e := by
    obtain ⟨_, _, _, _, _, _, e32, _⟩ := hre
    exact e32
  obtain ⟨rb, hb, _⟩ := h.1.2.2.2.2.2.1
  intro p
  induction p with
  | zero =>
    intro i f w6 u hi hu hcl hf hN
    have hi : i = nE g := by omega
    subst hi
    refine ⟨f, u, ?_, lsQ_refl cl u, hf, hN⟩
    rw [r128_9, hu 30 0 rfl, hn, cmp_ge, if_pos (Int.le_refl _), w32_succ (by omega)]
  | succ p ih =>
    intro i f w6 u hi hu hcl hf hN
    have hi2 : i < nE g := by omega
    have i40 : 0 ≤ (i : Int) ∧ (i : Int) < ((40 : Nat) : Int) := by omega
    obtain ⟨kk, x, r, h99, h100, hkk, hx, h16, _, _, h90⟩ := ent h hi2
    have bS := sm_bound (f := fun e => bI (S e ∧ inK g w (k : Int) e)) (a := 0) (b := 1) (n := i) (fun j _ => bI_b _)
    have f100 : f < 1000 := by omega
    have i6 : i < 1000000 := by omega
    have ip : i + 1 + p = nE g := by omega
    -- an entry that does not count
    have skip : ∀ (w6 : MV) (v : Gm), ¬ (S i ∧ inK g w (k : Int) i) → off2 u v → ∃ (f' : Nat) (u' : Gm), Ev prog clsT X (d + 5) mc128 9 [(2, 0), (0, (k : Int)), (0, (T : Int)), (0, (f : Int)), (0, (t : Int)), (0, ((i + 1 : Nat) : Int)), w6] [] (mk E c s (hh v)) = Ev prog clsT X (d + 5) mc128 4 [(2, 0), (0, (k : Int)), (0, (T : Int)), (0, (f' : Int)), (0, ((t + 1 : Nat) : Int)), (0, (nE g : Int)), (3, 0)] [] (mk E c s (hh u')) ∧ lsQ cl u u' ∧ (f' : Int) = f0 + sm (fun e => bI (S e ∧ inK g w (k : Int) e)) (nE g) ∧ (cl < 3 → f' ≤ 5 → (∀ x : Nat, sm (fun j => bI (u' 69 (5 * cl + j) = (x : Int))) f' = base x + sm (fun e => bI (S e ∧ inK g w (k : Int) e ∧ phi g (g 100 e).toNat = x)) (nE g)) ∧ ∀ j, j < f' → ∃ e, e < nE g ∧ u' 69 (5 * cl + j) = (phi g (g 100 e).toNat : Int)) := fun w6 v hno hv => by
      obtain ⟨f', u', a1, a2, a3, a4⟩ := ih (i + 1) f w6 v ip (onQ_2 hu hv) ((hv 65 2 (by decide) (by decide)).trans hcl) (by
        show (f : Int) = f0 + (sm (fun e => bI (S e ∧ inK g w (k : Int) e)) i + bI (S i ∧ inK g w (k : Int) i))
        rw [bI_f hno, Int.add_zero]
        exact hf) (fun c1 c2 => by
        obtain ⟨n1, n2⟩ := hN c1 c2
        refine ⟨fun x => ?_, fun j hj => ?_⟩
        · show _ = base x + (sm (fun e => bI (S e ∧ inK g w (k : Int) e ∧ phi g (g 100 e).toNat = x)) i + bI (S i ∧ inK g w (k : Int) i ∧ phi g (g 100 i).toNat = x))
          rw [bI_f (fun z => hno ⟨z.1, z.2.1⟩), Int.add_zero, ← n1 x]
          exact sm_congr (fun j _ => by rw [hv 69 _ (by decide) (by decide)])
        · rw [hv 69 _ (by decide) (by decide)]
          exact n2 j hj)
      exact ⟨f', u', a1, lsQ_tr (lsQ_2 hv) a2, a3, a4⟩
    rw [r128_9, hu 30 0 rfl, hn, cmp_ge, if_neg (by omega), inb_is, if_pos i40, Int.toNat_natCast, cmp_ne, hu 32 i rfl, e32, h100]
    -- does the turn take it
    have s22 := c22Q X h hi2 hu c s (d + 3) (k : Int)
    have s22 : Call prog clsT X (d + 5) 22 [(2, 30), (0, (i : Int)), (0, (k : Int))] (mk E c s (hh u)) = _ := s22
    by_cases q : S i
    case neg =>
      have e1 : ∀ A B D G : Option MRes, (∃ (f' : Nat) (u' : Gm), A = Ev prog clsT X (d + 5) mc128 4 [(2, 0), (0, (k : Int)), (0, (T : Int)), (0, (f' : Int)), (0, ((t + 1 : Nat) : Int)), (0, (nE g : Int)), (3, 0)] [] (mk E c s (hh u')) ∧ lsQ cl u u' ∧ (f' : Int) = f0 + sm (fun e => bI (S e ∧ inK g w (k : Int) e)) (nE g) ∧ (cl < 3 → f' ≤ 5 → (∀ x : Nat, sm (fun j => bI (u' 69 (5 * cl + j) = (x : Int))) f' = base x + sm (fun e => bI (S e ∧ inK g w (k : Int) e ∧ phi g (g 100 e).toNat = x)) (nE g)) ∧ ∀ j, j < f' → ∃ e, e < nE g ∧ u' 69 (5 * cl + j) = (phi g (g 100 e).toNat : Int))) → B = A → ∃ (f' : Nat) (u' : Gm), B = Ev prog clsT X (d + 5) mc128 4 [(2, 0), (0, (k : Int)), (0, (T : Int)), (0, (f' : Int)), (0, ((t + 1 : Nat) : Int)), (0, (nE g : Int)), (3, 0)] [] (mk E c s (hh u')) ∧ lsQ cl u u' ∧ (f' : Int) = f0 + sm (fun e => bI (S e ∧ inK g w (k : Int) e)) (nE g) ∧ (cl < 3 → f' ≤ 5 → (∀ x : Nat, sm (fun j => bI (u' 69 (5 * cl + j) = (x : Int))) f' = base x + sm (fun e => bI (S e ∧ inK g w (k : Int) e ∧ phi g (g 100 e).toNat = x)) (nE g)) ∧ ∀ j, j < f' → ∃ e, e < nE g ∧ u' 69 (5 * cl + j) = (phi g (g 100 e).toNat : Int)) := fun A B _ _ hA hB => by rw [hB]; exact hA
      refine e1 _ _ none none (skip (0, (x : Int)) u (fun z => q z.1) (off2_refl u)) ?_
      rw [hS] at q
      rw [w32_succ i6]
      rcases ht with ht | ht
      · subst ht
        rw [if_pos rfl, h100] at q
        rw [if_pos q, cmp_ne, if_neg (fun z => z rfl), cmp_ne, if_pos (by decide)]
      · subst ht
        rw [if_neg (by decide), h100] at q
        rw [if_neg (fun z => q z), cmp_ne, if_pos (by decide), cmp_ne, if_pos (by decide)]
    have take : (if ¬ ((x : Int) = (T : Int)) then (if cmpI .ne (t : Int) 0 = true then (if cmpI .ne 0 0 = true then Ev prog clsT X (d + 5) mc128 9 [(2, 0), (0, (k : Int)), (0, (T : Int)), (0, (f : Int)), (0, (t : Int)), (0, w32 ((i : Int) + 1)), (0, (x : Int))] [] (mk E c s (hh u)) else ((Call prog clsT X (d + 5) 22 [(2, 30), (0, (i : Int)), (0, (k : Int))] (mk E c s (hh u))).bind fun r1 => if r1.1.1 = 4 then none else Ev prog clsT X (d + 5) mc128 37 [(2, 0), (0, (k : Int)), (0, (T : Int)), (0, (f : Int)), (0, (t : Int)), (0, (i : Int)), (0, (x : Int))] (pushR r1.1 []) r1.2)) else (if cmpI .ne 0 1 = true then Ev prog clsT X (d + 5) mc128 9 [(2, 0), (0, (k : Int)), (0, (T : Int)), (0, (f : Int)), (0, (t : Int)), (0, w32 ((i : Int) + 1)), (0, (x : Int))] [] (mk E c s (hh u)) else ((Call prog clsT X (d + 5) 22 [(2, 30), (0, (i : Int)), (0, (k : Int))] (mk E c s (hh u))).bind fun r1 => if r1.1.1 = 4 then none else Ev prog clsT X (d + 5) mc128 37 [(2, 0), (0, (k : Int)), (0, (T : Int)), (0, (f : Int)), (0, (t : Int)), (0, (i : Int)), (0, (x : Int))] (pushR r1.1 []) r1.2))) else (if cmpI .ne (t : Int) 0 = true then (if cmpI .ne 1 0 = true then Ev prog clsT X (d + 5) mc128 9 [(2, 0), (0, (k : Int)), (0, (T : Int)), (0, (f : Int)), (0, (t : Int)), (0, w32 ((i : Int) + 1)), (0, (x : Int))] [] (mk E c s (hh u)) else ((Call prog clsT X (d + 5) 22 [(2, 30), (0, (i : Int)), (0, (k : Int))] (mk E c s (hh u))).bind fun r1 => if r1.1.1 = 4 then none else Ev prog clsT X (d + 5) mc128 37 [(2, 0), (0, (k : Int)), (0, (T : Int)), (0, (f : Int)), (0, (t : Int)), (0, (i : Int)), (0, (x : Int))] (pushR r1.1 []) r1.2)) else (if cmpI .ne 1 1 = true then Ev prog clsT X (d + 5) mc128 9 [(2, 0), (0, (k : Int)), (0, (T : Int)), (0, (f : Int)), (0, (t : Int)), (0, w32 ((i : Int) + 1)), (0, (x : Int))] [] (mk E c s (hh u)) else ((Call prog clsT X (d + 5) 22 [(2, 30), (0, (i : Int)), (0, (k : Int))] (mk E c s (hh u))).bind fun r1 => if r1.1.1 = 4 then none else Ev prog clsT X (d + 5) mc128 37 [(2, 0), (0, (k : Int)), (0, (T : Int)), (0, (f : Int)), (0, (t : Int)), (0, (i : Int)), (0, (x : Int))] (pushR r1.1 []) r1.2)))) = Ev prog clsT X (d + 5) mc128 37 [(2, 0), (0, (k : Int)), (0, (T : Int)), (0, (f : Int)), (0, (t : Int)), (0, (i : Int)), (0, (x : Int))] [(0, bI (g 104 i = 0 ∧ g 99 i = k))] (mk E c s (hh u)) := by
      rw [call0 s22, push0]
      have q := (hS i).1 q
      rcases ht with ht | ht
      · subst ht
        rw [if_pos rfl, h100] at q
        rw [if_neg (fun z => z q), cmp_ne, if_neg (fun z => z rfl), cmp_ne, if_neg (by decide)]
      · subst ht
        rw [if_neg (by decide), h100] at q
        rw [if_pos q, cmp_ne, if_pos (by decide), cmp_ne, if_neg (by decide)]
    rw [take, r128_37, cmp_ne, bI_ne0, w32_succ i6]
    by_cases q2 : g 104 i = 0 ∧ g 99 i = k
    case neg =>
      rw [if_neg (fun z => z q2)]
      exact skip _ u (fun z => q2 ⟨z.2.2.1, z.2.2.2.1⟩) (off2_refl u)
    rw [if_pos (fun z => z q2)]
    have : kk = k := by have := q2.2; rw [h99] at this; omega
    subst this
    obtain ⟨u1, u2, b1, b2, b3, b4⟩ := (ev i hi2).2.1 kk r rb h99 h16 hb d c s u hu
    have s97 := s97x X c s h hk h16 b3 (d + 3)
    have s97 : Call prog clsT X (d + 5) 97 [(2, 0), (0, (kk : Int))] (mk E c s (hh u1)) = _ := s97
    rw [call3 b1, push3, r128_42, call2 s97, push2, r128_47, b3 0 3 rfl, hb, call0 b2, push0, r128_50, cmp_ne, w32_succ i6]
    by_cases q3 : w i = -1
    case neg =>
      rw [if_pos q3]
      exact skip _ u2 (fun z => q3 z.2.2.2.2) b4
    have hin : inK g w (kk : Int) i := ⟨hi2, q2.1, q2.2, q3⟩
    have i10 : 0 ≤ (x : Int) ∧ (x : Int) < ((10 : Nat) : Int) := by omega
    have hu2 := onQ_2 hu b4
    have cl2 : u2 65 2 = cl := (b4 65 2 (by decide) (by decide)).trans hcl
    rw [if_neg (fun z => z q3), inb_is, if_pos i10, Int.toNat_natCast, cmp_eq, hu2 4 x rfl, e4]
    have hph : phi g (g 100 i).toNat = if g 93 x = 0 then x else 10 := by rw [h100, Int.toNat_natCast]; rfl
    have s10 := fun y : Nat => c10x X (E := E) (d + 4) c s cl f y cl2 h3 f100
    have s10 : ∀ y : Nat, Call prog clsT X (d + 5) 10 [(2, 65), (0, (f : Int)), (0, (y : Int))] (mk E c s (hh u2)) = _ := s10
    have both : (if g 93 x = 0 then ((Call prog clsT X (d + 5) 10 [(2, 65), (0, (f : Int)), (0, (x : Int))] (mk E c s (hh u2))).bind fun r1 => if r1.1.1 = 4 then none else Ev prog clsT X (d + 5) mc128 65 [(2, 0), (0, (kk : Int)), (0, (T : Int)), (0, (f : Int)), (0, (t : Int)), (0, (i : Int)), (0, (x : Int))] (pushR r1.1 []) r1.2) else ((Call prog clsT X (d + 5) 10 [(2, 65), (0, (f : Int)), (0, 10)] (mk E c s (hh u2))).bind fun r1 => if r1.1.1 = 4 then none else Ev prog clsT X (d + 5) mc128 65 [(2, 0), (0, (kk : Int)), (0, (T : Int)), (0, (f : Int)), (0, (t : Int)), (0, (i : Int)), (0, (x : Int))] (pushR r1.1 []) r1.2)) = Ev prog clsT X (d + 5) mc128 9 [(2, 0), (0, (kk : Int)), (0, (T : Int)), (0, ((f + 1 : Nat) : Int)), (0, (t : Int)), (0, ((i + 1 : Nat) : Int)), (0, (x : Int))] [] (mk E c s (hh (if cl < 3 ∧ f < 5 then up u2 69 (5 * cl + f) (phi g (g 100 i).toNat : Int) else u2))) := by
      rw [hph]
      by_cases z : g 93 x = 0
      · rw [if_pos z, if_pos z, call3 (s10 x), push3, r128_65, w32_succ (by omega), w32_succ i6]
      · have s := s10 10
        have s : Call prog clsT X (d + 5) 10 [(2, 65), (0, (f : Int)), (0, 10)] (mk E c _ (hh u2)) = _ := s
        rw [if_neg z, if_neg z, call3 s, push3, r128_65, w32_succ (by omega), w32_succ i6]
    rw [both]
    have l3 : lsQ cl u2 (if cl < 3 ∧ f < 5 then up u2 69 (5 * cl + f) (phi g (g 100 i).toNat : Int) else u2) := by
      by_cases z : cl < 3 ∧ f < 5
      · rw [if_pos z]
        exact ⟨fun y j _ _ c1 => up_cell c1, fun j hj => up_ne (fun v => hj (by omega))⟩
      · rw [if_neg z]; exact lsQ_refl cl u2
    obtain ⟨f', u', a1, a2, a3, a4⟩ := ih (i + 1) (f + 1) (0, (x : Int)) _ ip (onQ_ls hu2 l3) ((l3.1 65 2 (by decide) (by decide) (by decide)).trans cl2) (by
      show ((f + 1 : Nat) : Int) = f0 + (sm (fun e => bI (S e ∧ inK g w (kk : Int) e)) i + bI (S i ∧ inK g w (kk : Int) i))
      rw [bI_t ⟨q, hin⟩]
      omega) (fun c1 c2 => by
      obtain ⟨n1, n2⟩ := hN c1 (by omega)
      rw [if_pos ⟨c1, by omega⟩]
      refine ⟨fun y => ?_, fun j hj => ?_⟩
      · show sm (fun j => bI (up u2 69 (5 * cl + f) (phi g (g 100 i).toNat : Int) 69 (5 * cl + j) = (y : Int))) f + bI (up u2 69 (5 * cl + f) (phi g (g 100 i).toNat : Int) 69 (5 * cl + f) = (y : Int)) = base y + (sm (fun e => bI (S e ∧ inK g w (kk : Int) e ∧ phi g (g 100 e).toNat = y)) i + bI (S i ∧ inK g w (kk : Int) i ∧ phi g (g 100 i).toNat = y))
        have e1 : sm (fun j => bI (up u2 69 (5 * cl + f) (phi g (g 100 i).toNat : Int) 69 (5 * cl + j) = (y : Int))) f = sm (fun j => bI (u 69 (5 * cl + j) = (y : Int))) f := sm_congr (fun j hj => by rw [up_place (by omega), b4 69 _ (by decide) (by decide)])
        have e2 : bI (up u2 69 (5 * cl + f) (phi g (g 100 i).toNat : Int) 69 (5 * cl + f) = (y : Int)) = bI (S i ∧ inK g w (kk : Int) i ∧ phi g (g 100 i).toNat = y) := bI_iff (by
          rw [up_same]
          exact ⟨fun z => ⟨q, hin, by omega⟩, fun z => by have := z.2.2; omega⟩)
        rw [e1, e2, n1 y]
        omega
      · by_cases z : j = f
        · rw [z, up_same]
          exact ⟨i, hi2, rfl⟩
        · rw [up_place (by omega), b4 69 _ (by decide) (by decide)]
          exact n2 j (by omega))
    exact ⟨f', u', a1, lsQ_tr (lsQ_2 b4) (lsQ_tr l3 a2), a3, a4⟩
end OPENS
