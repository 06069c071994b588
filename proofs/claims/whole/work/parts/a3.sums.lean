/-! Part a3: what the judged classes give: points, firsts, money. -/
theorem sm_add {f h : Nat → Int} : ∀ n, sm f n + sm h n = sm (fun i => f i + h i) n
  | 0 => rfl
  | n + 1 => by
    have ih := sm_add (f := f) (h := h) n
    show sm f n + f n + (sm h n + h n) = sm (fun i => f i + h i) n + (f n + h n)
    omega
def cP (g : Gm) (p : Int) : Int := if 1 ≤ p ∧ p ≤ 3 then g 142 (p - 1).toNat else 0
def cM (g : Gm) (p : Int) : Int := if 1 ≤ p ∧ p ≤ 3 then g 143 (p - 1).toNat else 0
def cF (p : Int) : Int := if p = 1 then 1 else 0
/-- what exhibitor x has from the entries so far of the classes so far -/
def sU (g : Gm) (pl : Nat → Int) (C : Int → Int) (x k i : Nat) : Int := sm (fun e => if g 99 e < k ∧ g 100 e = x then C (pl e) else 0) (nE g) + sm (fun e => if g 99 e = k ∧ g 100 e = x then C (pl e) else 0) i
def sT (g : Gm) (pl : Nat → Int) (C : Int → Int) (x i : Nat) : Int := sm (fun e => if g 100 e = x then C (pl e) else 0) i
theorem sU_next {g : Gm} {pl : Nat → Int} {C : Int → Int} {x k : Nat} : sU g pl C x k (nE g) = sU g pl C x (k + 1) 0 := by
  unfold sU
  rw [sm_add]
  show _ = _ + 0
  rw [Int.add_zero]
  refine sm_congr (fun e _ => ?_)
  by_cases h1 : g 99 e < k
  · rw [if_neg (show ¬ (g 99 e = k ∧ g 100 e = x) from fun z => by omega), Int.add_zero]
    by_cases h2 : g 100 e = x
    · rw [if_pos ⟨h1, h2⟩, if_pos ⟨by omega, h2⟩]
    · rw [if_neg (fun z => h2 z.2), if_neg (fun z => h2 z.2)]
  · rw [if_neg (show ¬ (g 99 e < k ∧ g 100 e = x) from fun z => h1 z.1), Int.zero_add]
    by_cases h2 : g 99 e = k ∧ g 100 e = x
    · rw [if_pos h2, if_pos ⟨by omega, h2.2⟩]
    · rw [if_neg h2, if_neg (fun z => h2 ⟨by omega, z.2⟩)]
theorem sU_0 {g : Gm} (h : RE g) {pl : Nat → Int} {C : Int → Int} {x : Nat} : sU g pl C x 0 0 = 0 := by
  unfold sU
  obtain ⟨_, _, _, _, _, _, _, _, _, _, _, _, _, b99, _⟩ := h
  rw [sm0 (fun i _ => if_neg (fun z => by have := (b99 i).1; omega))]
  rfl
theorem sU_10 {g : Gm} (h : RE g) {pl : Nat → Int} {C : Int → Int} {x : Nat} : sU g pl C x 10 0 = sT g pl C x (nE g) := by
  unfold sU sT
  obtain ⟨_, _, _, _, _, _, _, _, _, _, _, _, _, b99, _⟩ := h
  show _ + 0 = _
  rw [Int.add_zero]
  refine sm_congr (fun e _ => ?_)
  have := (b99 e).2
  by_cases h2 : g 100 e = x
  · rw [if_pos ⟨by omega, h2⟩, if_pos h2]
  · rw [if_neg (fun z => h2 z.2), if_neg h2]
theorem sU_b {g : Gm} (h : RE g) {pl : Nat → Int} {C : Int → Int} {x k i : Nat} (hi : i ≤ nE g) (hC : ∀ p, 0 ≤ C p ∧ C p ≤ 999) : 0 ≤ sU g pl C x k i ∧ sU g pl C x k i ≤ 999 * 80 := by
  have hle := h.rn.le
  have b : ∀ (Q : Nat → Prop) [∀ e, Decidable (Q e)] (e : Nat), 0 ≤ (if Q e then C (pl e) else 0) ∧ (if Q e then C (pl e) else 0) ≤ 999 := fun Q _ e => by
    split
    · exact hC _
    · decide
  have b1 := sm_bound (f := fun e => if g 99 e < k ∧ g 100 e = x then C (pl e) else 0) (a := 0) (b := 999) (n := nE g) (fun e _ => b (fun e => g 99 e < k ∧ g 100 e = x) e)
  have b2 := sm_bound (f := fun e => if g 99 e = k ∧ g 100 e = x then C (pl e) else 0) (a := 0) (b := 999) (n := i) (fun e _ => b (fun e => g 99 e = k ∧ g 100 e = x) e)
  unfold sU
  omega
def plf (g : Gm) (w t : Nat → Int) (mj : Nat → Nat → Int) (e : Nat) : Int := if 0 ≤ g 130 (g 99 e).toNat then plv g w (fun e' => mj e' (g 130 (g 99 e).toNat).toNat) t (g 99 e) (nE g) 0 e else 0
theorem plf_k {g : Gm} {w t : Nat → Int} {mj : Nat → Nat → Int} {e k : Nat} (h : g 99 e = k) : plf g w t mj e = if 0 ≤ g 130 k then plv g w (fun e' => mj e' (g 130 k).toNat) t k (nE g) 0 e else 0 := by
  unfold plf
  rw [h, Int.toNat_natCast]
section SUMS
variable (X : MExt) {E : List (Nat × Nat)} {g : Gm}
/-- who judges the class places its entries -/
theorem PLw {N : Int} (h : ST N E g) : ∃ (w t : Nat → Int) (mj : Nat → Nat → Int) (pl : Nat → Int), (∀ e, e < nE g → evU X E g e (w e) (mj e) (t e)) ∧ pl = plf g w t mj ∧ (∀ e, 0 ≤ pl e) ∧ (∀ e, g 104 e ≠ 0 → pl e = 0) ∧ (∀ k : Nat, k < 10 → 0 ≤ g 130 k → ∀ d c s u, onC g u → ∃ u', Call prog clsT X (d + 6) 107 [(2, 0), (0, (k : Int)), (0, g 130 k)] (mk E c s (hh u)) = some ((3, 0), mk E c s (hh u')) ∧ onC g u' ∧ clQ u u' ∧ ∀ e, e < 40 → u' 56 e = if g 99 e = k then pl e else 0) ∧ (∀ e, g 130 (g 99 e).toNat < 0 → pl e = 0) ∧ ∀ e, e < nE g → ∀ d c s u, onM g u → ∃ u', Call prog clsT X (d + 10) 209 [(2, 89), (0, (e : Int))] (mk E c s (hh u)) = some ((0, if 0 < pl e then pl e else -1), mk E c s (hh u')) ∧ onM g u' ∧ rfQ u u' := by
  obtain ⟨w, t, mj, eu, rk⟩ := RKx X h
  have hle := h.1.1.1.rn.le
  have b130 := h.1.1.2.2.1.2.2.2.2.2.2.2.1
  have nn : ∀ (m : Nat → Int) k e, 0 ≤ plv g w m t k (nE g) 0 e := fun m k e => by
    unfold plv pls
    have := sm_bound (f := fun a => bI (inK g w k a ∧ bt m t a e)) (a := 0) (b := 1) (n := if e < nE g then nE g else if e = nE g then 0 else 0) (fun j _ => bI_b _)
    split <;> omega
  refine ⟨w, t, mj, plf g w t mj, eu, rfl, fun e => ?_, fun e he => ?_, fun k hk hJ d c s u hu => ?_, fun e he => if_neg (by omega), fun e he d c s u hu => ?_⟩
  · unfold plf
    split
    · exact nn _ _ _
    · exact Int.le_refl _
  · unfold plf
    split
    · exact if_neg (fun z => he z.2.1)
    · rfl
  · obtain ⟨j, hj⟩ := Int.eq_ofNat_of_zero_le hJ
    have hj4 : j < 4 := by have := b130 k hk; omega
    obtain ⟨u', a1, a2, a3, a4⟩ := (rk j hj4).1 k hk d c s u hu
    rw [hj]
    refine ⟨u', a1, a2, a3, fun e he => ?_⟩
    rw [a4 e he]
    by_cases z : g 99 e = k
    · rw [if_pos z, plf_k z, if_pos hJ, hj, Int.toNat_natCast]
    · rw [if_neg z]
      exact if_neg (fun y => z y.2.2.1)
  · obtain ⟨k, _, _, h99, _, hk, _⟩ := ent h he
    have i40 : 0 ≤ (e : Int) ∧ (e : Int) < ((40 : Nat) : Int) := by omega
    have i10 : 0 ≤ (k : Int) ∧ (k : Int) < ((10 : Nat) : Int) := by omega
    rw [plf_k h99, rc209_, inb_is, if_pos i40, Int.toNat_natCast, hu 99 e rfl, h99, inb_is, if_pos i10, Int.toNat_natCast, hu 130 k rfl, cmp_ge]
    by_cases z : 0 ≤ g 130 k
    · obtain ⟨j, hj⟩ := Int.eq_ofNat_of_zero_le z
      have hj4 : j < 4 := by have := b130 k hk; omega
      obtain ⟨u', a1, a2, a3⟩ := ((rk j hj4).2 e he d c s u hu).2
      rw [h99] at a1
      rw [if_pos z, if_pos z, inb_is, if_pos i40, inb_is, if_pos i10, hj, Int.toNat_natCast, call0 a1, push0, r209_20]
      exact ⟨u', rfl, a2, a3⟩
    · rw [if_neg z, if_neg z, if_neg (by decide), r209_20]
      exact ⟨u, rfl, hu, rfQ_refl u⟩
theorem PL {N : Int} (h : ST N E g) : ∃ pl : Nat → Int, (∀ e, 0 ≤ pl e) ∧ (∀ e, g 104 e ≠ 0 → pl e = 0) ∧ (∀ k : Nat, k < 10 → 0 ≤ g 130 k → ∀ d c s u, onC g u → ∃ u', Call prog clsT X (d + 6) 107 [(2, 0), (0, (k : Int)), (0, g 130 k)] (mk E c s (hh u)) = some ((3, 0), mk E c s (hh u')) ∧ onC g u' ∧ clQ u u' ∧ ∀ e, e < 40 → u' 56 e = if g 99 e = k then pl e else 0) ∧ (∀ e, g 130 (g 99 e).toNat < 0 → pl e = 0) ∧ ∀ e, e < nE g → ∀ d c s u, onM g u → ∃ u', Call prog clsT X (d + 10) 209 [(2, 89), (0, (e : Int))] (mk E c s (hh u)) = some ((0, if 0 < pl e then pl e else -1), mk E c s (hh u')) ∧ onM g u' ∧ rfQ u u' := by
  obtain ⟨_, _, _, pl, _, _, hp⟩ := PLw X h
  exact ⟨pl, hp⟩
/-- Cards.reward -/
theorem c6 (c s d : Nat) {x : Nat} (hx : x < 10) (p : Int) (u : Gm) : Call prog clsT X (d + 1) 6 [(2, 55), (0, (x : Int)), (0, p)] (mk E c s (hh u)) = some ((3, 0), mk E c s (hh (if 1 ≤ p ∧ p ≤ 3 then up (up (up u 62 x (w32 (u 62 x + u 60 (p - 1).toNat))) 64 x (w32 (u 64 x + u 61 (p - 1).toNat))) 63 x (w32 (u 63 x + cF p)) else u))) := by
  have i10 : 0 ≤ (x : Int) ∧ (x : Int) < ((10 : Nat) : Int) := by omega
  rw [rc6_, cmp_lt]
  by_cases h1 : p < 1
  · rw [if_pos h1, if_neg (by omega)]
  rw [if_neg h1, cmp_le]
  by_cases h2 : p ≤ 3
  case neg => rw [if_neg h2, if_neg (by omega)]
  have e0 : w32 (p - 1) = p - 1 := w32_of (by omega) (by omega)
  have i3 : 0 ≤ p - 1 ∧ p - 1 < ((3 : Nat) : Int) := by omega
  rw [if_pos h2, inb_is, if_pos i10, e0, inb_is, if_pos i3, inb_is, if_pos i10, inb_is, if_pos i10, inb_is, if_pos i3, inb_is, if_pos i10, inb_is, if_pos i10, cmp_ne, if_pos (show 1 ≤ p ∧ p ≤ 3 by omega), Int.toNat_natCast]
  unfold cF
  by_cases z : p = 1
  · rw [if_neg (fun q => q z), inb_is, if_pos i10, if_pos z]
  · rw [if_pos z, inb_is, if_pos i10, if_neg z]
/-- what sums change -/
def suQ (g u : Gm) : Prop := ∀ x i, ¬ (x = 28 ∨ x = 29 ∨ x = 56 ∨ x = 58 ∨ x = 59 ∨ x = 62 ∨ x = 63 ∨ x = 64) → u x i = g x i
theorem suQ_tr {g u v : Gm} (h : suQ g u) (h2 : suQ u v) : suQ g v := fun x i a => (h2 x i a).trans (h x i a)
theorem suQ_cl {g u : Gm} (h : clQ g u) : suQ g u := fun x i a => h x i (fun q => a (by omega))
theorem onC_su {g u v : Gm} (h : onC g u) (h2 : suQ u v) : onC g v := fun x i hs => by
  refine (h2 x i (fun q => ?_)).trans (h x i hs)
  have := sC_q hs
  rcases q with z | z | z | z | z | z | z | z <;> rw [z] at this <;> cases this
theorem onQ_su {g u v : Gm} (h : onQ g u) (h2 : suQ u v) : onQ g v := fun x i hs => by
  refine (h2 x i (fun q => ?_)).trans (h x i hs)
  rcases q with z | z | z | z | z | z | z | z <;> rw [z] at hs <;> cases hs
def SU (g : Gm) (pl : Nat → Int) (k i : Nat) (u : Gm) : Prop := ∀ x : Nat, x < 10 → u 62 x = sU g pl (cP g) x k i ∧ u 63 x = sU g pl cF x k i ∧ u 64 x = sU g pl (cM g) x k i
theorem C_b {g : Gm} (h : RC g) : (∀ p, 0 ≤ cP g p ∧ cP g p ≤ 999) ∧ (∀ p, 0 ≤ cM g p ∧ cM g p ≤ 999) ∧ ∀ p, 0 ≤ cF p ∧ cF p ≤ 999 := by
  obtain ⟨_, b1, _, b2, _⟩ := h
  refine ⟨fun p => ?_, fun p => ?_, fun p => ?_⟩
  · unfold cP
    split
    · have := b1 (p - 1).toNat; omega
    · decide
  · unfold cM
    split
    · exact b2 _
    · decide
  · unfold cF
    split <;> decide
theorem CA62 : CA E 62 10 ∧ CA E 63 10 ∧ CA E 64 10 := ⟨⟨rfl, rfl⟩, ⟨rfl, rfl⟩, ⟨rfl, rfl⟩⟩
/-- sumUp -/
theorem c123 {N : Int} (h : ST N E g) {pl : Nat → Int} (hp : (∀ e, 0 ≤ pl e) ∧ (∀ k : Nat, k < 10 → 0 ≤ g 130 k → ∀ d c s u, onC g u → ∃ u', Call prog clsT X (d + 6) 107 [(2, 0), (0, (k : Int)), (0, g 130 k)] (mk E c s (hh u)) = some ((3, 0), mk E c s (hh u')) ∧ onC g u' ∧ clQ u u' ∧ ∀ e, e < 40 → u' 56 e = if g 99 e = k then pl e else 0) ∧ ∀ e, g 130 (g 99 e).toNat < 0 → pl e = 0) (d c s : Nat) (u : Gm) (hu : onC g u) : ∃ u', Call prog clsT X (d + 7) 123 [(2, 0)] (mk E c s (hh u)) = some ((3, 0), mk E c s (hh u')) ∧ suQ u u' ∧ ∀ x : Nat, x < 10 → u' 62 x = sT g pl (cP g) x (nE g) ∧ u' 63 x = sT g pl cF x (nE g) ∧ u' 64 x = sT g pl (cM g) x (nE g) := by
  obtain ⟨p0, pc, pn⟩ := hp
  have hre := h.1.1.1
  have hle := hre.rn.le
  have hn := hre.n
  have hrc := h.1.1.2.2.2.2.1
  have hC := C_b hrc
  have e60 := hrc.1
  have e61 := hrc.2.2.1
  have e39 : ∀ k : Nat, g 39 k = g 130 k := h.1.1.2.2.1.2.2.2.2.2.2.1
  have b130 := h.1.1.2.2.1.2.2.2.2.2.2.2.1
  have e32 : ∀ e : Nat, g 32 e = g 100 e := by
    obtain ⟨_, _, _, _, _, _, e32, _⟩ := hre
    exact e32
  have zero : ∀ C : Int → Int, C = cP g ∨ C = cM g ∨ C = cF → ∀ p, p ≤ 0 → C p = 0 := fun C hC p hp => by
    rcases hC with q | q | q <;> subst q
    · exact if_neg (by omega)
    · exact if_neg (by omega)
    · exact if_neg (by omega)
  have inner : ∀ (k : Nat), k < 10 → ∀ (m i : Nat) (u1 : Gm), i + m = nE g → onC g u1 → suQ u u1 → (∀ e, e < 40 → u1 56 e = if g 99 e = k then pl e else 0) → SU g pl k i u1 → ∃ u2, Ev prog clsT X (d + 6) mc123 26 [(2, 0), (0, (k : Int)), (0, (i : Int))] [] (mk E c s (hh u1)) = Ev prog clsT X (d + 6) mc123 5 [(2, 0), (0, ((k + 1 : Nat) : Int)), (0, (nE g : Int))] [] (mk E c s (hh u2)) ∧ onC g u2 ∧ suQ u u2 ∧ SU g pl (k + 1) 0 u2 := by
    intro k hk m
    induction m with
    | zero =>
      intro i u1 hi hu1 hs h56 hS
      have hi : i = nE g := by omega
      subst hi
      refine ⟨u1, ?_, hu1, hs, fun x hx => ?_⟩
      · rw [r123_26, hu1 30 0 rfl, hn, cmp_ge, if_pos (Int.le_refl _), w32_succ (by omega)]
      · rw [← sU_next, ← sU_next, ← sU_next]; exact hS x hx
    | succ m ih =>
      intro i u1 hi hu1 hs h56 hS
      have hi2 : i < nE g := by omega
      have i40 : 0 ≤ (i : Int) ∧ (i : Int) < ((40 : Nat) : Int) := by omega
      obtain ⟨_, x, _, _, h100, _, hx, _⟩ := ent h hi2
      rw [r123_26, hu1 30 0 rfl, hn, cmp_ge, if_neg (by omega), inb_is, if_pos i40, inb_is, if_pos i40, Int.toNat_natCast, hu1 32 i rfl, e32, h100, call3 (show Call prog clsT X (d + 6) 6 _ _ = _ from c6 X c s (d + 5) hx (u1 56 i) u1), push3, r123_44, w32_succ (by omega)]
      have hp56 := h56 i (by omega)
      have next : ∀ (C : Int → Int) (y : Nat), sU g pl C y k (i + 1) = sU g pl C y k i + (if g 99 i = k ∧ g 100 i = y then C (pl i) else 0) := fun C y => (Int.add_assoc _ _ _).symm
      by_cases z : g 99 i = k
      case neg =>
        rw [if_neg z] at hp56
        rw [hp56, if_neg (by decide)]
        refine ih (i + 1) u1 (by omega) hu1 hs h56 (fun y hy => ?_)
        rw [next, next, next, if_neg (fun q => z q.1), if_neg (fun q => z q.1), if_neg (fun q => z q.1), Int.add_zero, Int.add_zero, Int.add_zero]
        exact hS y hy
      rw [if_pos z] at hp56
      rw [hp56]
      by_cases z2 : 1 ≤ pl i ∧ pl i ≤ 3
      case neg =>
        rw [if_neg z2]
        refine ih (i + 1) u1 (by omega) hu1 hs h56 (fun y hy => ?_)
        have c1 : cP g (pl i) = 0 := if_neg z2
        have c2 : cM g (pl i) = 0 := if_neg z2
        have c3 : cF (pl i) = 0 := if_neg (fun q => z2 (by omega))
        rw [next, next, next, c1, c2, c3, ite_self, Int.add_zero, Int.add_zero, Int.add_zero]
        exact hS y hy
      rw [if_pos z2]
      have b1 := sU_b hre (pl := pl) (x := x) (k := k) (i := i) (by omega) hC.1
      have b2 := sU_b hre (pl := pl) (x := x) (k := k) (i := i) (by omega) hC.2.2
      have b3 := sU_b hre (pl := pl) (x := x) (k := k) (i := i) (by omega) hC.2.1
      have b4 := hC.1 (pl i)
      have b5 := hC.2.2 (pl i)
      have b6 := hC.2.1 (pl i)
      obtain ⟨s1, s2, s3⟩ := hS x hx
      have c1 : cP g (pl i) = g 142 (pl i - 1).toNat := if_pos z2
      have c2 : cM g (pl i) = g 143 (pl i - 1).toNat := if_pos z2
      have t1 : w32 (u1 62 x + u1 60 (pl i - 1).toNat) = sU g pl (cP g) x k i + cP g (pl i) := by
        rw [s1, hu1 60 _ rfl, e60, ← c1, w32_of (by omega) (by omega)]
      have t2 : w32 (u1 63 x + cF (pl i)) = sU g pl cF x k i + cF (pl i) := by
        rw [s2, w32_of (by omega) (by omega)]
      have t3 : w32 (u1 64 x + u1 61 (pl i - 1).toNat) = sU g pl (cM g) x k i + cM g (pl i) := by
        rw [s3, hu1 61 _ rfl, e61, ← c2, w32_of (by omega) (by omega)]
      rw [t1, t2, t3]
      refine ih (i + 1) _ (by omega) (onC_up (onC_up (onC_up hu1 rfl) rfl) rfl) (fun y j hy => ?_) (fun e he => ?_) (fun y hy => ?_)
      · rw [up_ne (fun q => hy (by omega)), up_ne (fun q => hy (by omega)), up_ne (fun q => hy (by omega))]
        exact hs y j hy
      · rw [up_cell (by decide), up_cell (by decide), up_cell (by decide)]; exact h56 e he
      · rw [next, next, next]
        obtain ⟨y1, y2, y3⟩ := hS y hy
        by_cases q : y = x
        · subst q
          rw [if_pos ⟨z, h100⟩, if_pos ⟨z, h100⟩, if_pos ⟨z, h100⟩]
          refine ⟨?_, ?_, ?_⟩
          · rw [up_cell (by decide), up_cell (by decide), up_at, if_pos rfl]
          · rw [up_at, if_pos rfl]
          · rw [up_cell (by decide), up_at, if_pos rfl]
        · have nq : ¬ (g 99 i = k ∧ g 100 i = y) := fun w => q (by have := w.2; rw [h100] at this; omega)
          rw [if_neg nq, if_neg nq, if_neg nq, Int.add_zero, Int.add_zero, Int.add_zero]
          refine ⟨?_, ?_, ?_⟩
          · rw [up_cell (by decide), up_cell (by decide), up_at, if_neg q]; exact y1
          · rw [up_at, if_neg q, up_cell (by decide), up_cell (by decide)]; exact y2
          · rw [up_cell (by decide), up_at, if_neg q, up_cell (by decide)]; exact y3
  have outer : ∀ (m k : Nat) (w2 : MV) (u1 : Gm), k + m = 10 → onC g u1 → suQ u u1 → SU g pl k 0 u1 → ∃ u', Ev prog clsT X (d + 6) mc123 5 [(2, 0), (0, (k : Int)), w2] [] (mk E c s (hh u1)) = some ((3, 0), mk E c s (hh u')) ∧ suQ u u' ∧ ∀ x : Nat, x < 10 → u' 62 x = sT g pl (cP g) x (nE g) ∧ u' 63 x = sT g pl cF x (nE g) ∧ u' 64 x = sT g pl (cM g) x (nE g) := by
    intro m
    induction m with
    | zero =>
      intro k w2 u1 hk hu1 hs hS
      have hk : k = 10 := by omega
      subst hk
      refine ⟨u1, ?_, hs, fun x hx => ?_⟩
      · rw [r123_5, cmp_ge, if_pos (by decide)]
      · rw [← sU_10 hre, ← sU_10 hre, ← sU_10 hre]; exact hS x hx
    | succ m ih =>
      intro k w2 u1 hk hu1 hs hS
      have i10 : 0 ≤ (k : Int) ∧ (k : Int) < ((10 : Nat) : Int) := by omega
      have bk := b130 k (by omega)
      rw [r123_5, cmp_ge, if_neg (by omega), inb_is, if_pos i10, Int.toNat_natCast, cmp_ne, hu1 39 k rfl, e39]
      by_cases z : g 130 k = -1
      · rw [if_neg (fun q => q z), w32_succ (by omega)]
        refine ih (k + 1) _ u1 (by omega) hu1 hs (fun x hx => ?_)
        have hz : ∀ C, C = cP g ∨ C = cM g ∨ C = cF → sU g pl C x (k + 1) 0 = sU g pl C x k 0 := fun C hC => by
          have h0 : sm (fun e => if g 99 e = k ∧ g 100 e = x then C (pl e) else 0) (nE g) = 0 := sm0 (fun e _ => by
            by_cases y : g 99 e = k ∧ g 100 e = x
            · rw [if_pos y, pn e (by rw [y.1, Int.toNat_natCast, z]; decide)]
              exact zero C hC 0 (Int.le_refl _)
            · rw [if_neg y])
          rw [← sU_next]
          unfold sU
          rw [h0]
          rfl
        rw [hz _ (Or.inl rfl), hz _ (Or.inr (Or.inr rfl)), hz _ (Or.inr (Or.inl rfl))]
        exact hS x hx
      · obtain ⟨u2, a1, a2, a3, a4⟩ := pc k (by omega) (by omega) d c s u1 hu1
        rw [if_pos z, inb_is, if_pos i10, call3 a1, push3, r123_24]
        obtain ⟨u3, b1, b2, b3, b4⟩ := inner k (by omega) (nE g) 0 u2 (by omega) a2 (suQ_tr hs (suQ_cl a3)) a4 (fun x hx => by
          rw [a3 62 x (by decide), a3 63 x (by decide), a3 64 x (by decide)]; exact hS x hx)
        have b1 : Ev prog clsT X (d + 6) mc123 26 [(2, 0), (0, (k : Int)), (0, 0)] [] (mk E c s (hh u2)) = _ := b1
        rw [b1]
        exact ih (k + 1) _ u3 (by omega) b2 b3 b4
  have c5 : Call prog clsT X (d + 6) 5 [(2, 55)] (mk E c s (hh u)) = some ((3, 0), mk E c s (hh (fil (fil (fil u 62 10 0) 63 10 0) 64 10 0))) := by
    rw [show d + 6 = (d + 5) + 1 from rfl, rc5_, call3 (show Call prog clsT X (d + 5) 248 [(2, 62), (0, 0)] _ = _ from m248 X E c s CA62.1 (by decide) (d + 4) 0), push3, r5_4, call3 (show Call prog clsT X (d + 5) 248 [(2, 63), (0, 0)] _ = _ from m248 X E c s CA62.2.1 (by decide) (d + 4) 0), push3, r5_8, call3 (show Call prog clsT X (d + 5) 248 [(2, 64), (0, 0)] _ = _ from m248 X E c s CA62.2.2 (by decide) (d + 4) 0), push3, r5_12]
  have f62 : suQ u (fil (fil (fil u 62 10 0) 63 10 0) 64 10 0) := fun x i a => by
    unfold fil
    rw [if_neg (fun q => a (by omega)), if_neg (fun q => a (by omega)), if_neg (fun q => a (by omega))]
  obtain ⟨u', a1, a2, a3⟩ := outer 10 0 (3, 0) _ (by omega) (onC_su hu f62) f62 (fun x hx => by
    rw [sU_0 hre, sU_0 hre, sU_0 hre]
    unfold fil
    refine ⟨?_, ?_, ?_⟩
    · rw [if_neg (by omega), if_neg (by omega), if_pos ⟨rfl, hx⟩]
    · rw [if_neg (by omega), if_pos ⟨rfl, hx⟩]
    · rw [if_pos ⟨rfl, hx⟩])
  refine ⟨u', ?_, a2, a3⟩
  rw [rc123_, call3 c5, push3, r123_3]
  exact a1
end SUMS
