/-! Part am: protest. -/
theorem val_inj {o : Option MRes} {t : Nat} {v v2 : Int} {M M2 : Mem} (h : o = some ((t, v), M)) (h2 : o = some ((t, v2), M2)) : v = v2 := by
  rw [h] at h2
  injection h2 with q
  injection q with q _
  injection q with _ q
theorem plv_congr {g p : Gm} {w w2 m m2 t t2 : Nat → Int} {k : Int} {n x : Nat} (hn : nE p = nE g) (hi : ∀ a, inK g w k a ↔ inK p w2 k a) (hm : ∀ a, inK g w k a → m a = m2 a ∧ t a = t2 a) : plv g w m t k n 0 x = plv p w2 m2 t2 k n 0 x := by
  have hN : (if x < n then nE p else if x = n then 0 else 0) = (if x < n then nE g else if x = n then 0 else 0) := by rw [hn]
  unfold plv pls
  by_cases z : inK g w k x
  · rw [if_pos z, if_pos ((hi x).1 z), hN]
    refine congrArg (fun z => 1 + z) (sm_congr (fun a _ => bI_iff ⟨fun y => ⟨(hi a).1 y.1, ?_⟩, fun y => ⟨(hi a).2 y.1, ?_⟩⟩))
    · have e1 := hm a y.1
      have e2 := hm x z
      have y2 : m x < m a ∨ (m a = m x ∧ t x < t a) := y.2
      show m2 x < m2 a ∨ (m2 a = m2 x ∧ t2 x < t2 a)
      omega
    · have e1 := hm a ((hi a).2 y.1)
      have e2 := hm x z
      have y2 : m2 x < m2 a ∨ (m2 a = m2 x ∧ t2 x < t2 a) := y.2
      show m x < m a ∨ (m a = m x ∧ t x < t a)
      omega
  · rw [if_neg z, if_neg (fun y => z ((hi x).2 y))]
theorem rowX_of {g u : Gm} (h96 : ∀ p, u 96 p = g 96 p) (h97 : ∀ p, u 97 p = g 97 p) (h98 : ∀ p, u 98 p = g 98 p) (h108 : ∀ p, u 108 p = g 108 p) (h92 : ∀ p, u 92 p = g 92 p) (h91 : ∀ p, u 91 p = g 91 p) (h93 : ∀ p, u 93 p = g 93 p) (k x : Nat) (P am : Int) : rowX u k x P am = rowX g k x P am := by
  have e : ∀ w, pst u P w = pst g P w := fun w => by
    funext p a
    unfold pst
    rw [h96 p, h97 p, h98 p]
  unfold rowX stM
  rw [h108 k, e, h92 x, h91 x, h93 x]
theorem stk_104 {g : Gm} {e a : Nat} (ha : a ≠ e) : stk g e 104 a = g 104 a := by
  show up (up g 30 1 _) 104 e 1 104 a = g 104 a
  rw [up_at, if_neg ha, up_cell (by decide)]
theorem stk_ne {g : Gm} {e x i : Nat} (h30 : x ≠ 30) (h104 : x ≠ 104) : stk g e x i = g x i := by
  show up (up g 30 1 _) 104 e 1 x i = g x i
  rw [up_cell h104, up_cell h30]
theorem sameR_28 {g : Gm} {l : List Int} : sameR g (wr 28 0 11 g l) := fun x i hs => wr_ne (fun q => by rw [q] at hs; cases hs)
theorem sameR_stk {g u : Gm} {e : Nat} (h : sameR g u) : sameR (stk g e) u := fun x i hs => by
  have h30 : x ≠ 30 := fun z => by rw [z] at hs; cases hs
  have h104 : x ≠ 104 := fun z => by rw [z] at hs; cases hs
  rw [stk_ne h30 h104]
  exact h x i hs
theorem nE_stk {g : Gm} {e : Nat} : nE (stk g e) = nE g := by
  unfold nE
  rw [stk_ne (by decide) (by decide)]
theorem rowE_stk {g : Gm} {e a : Nat} (ha : g 99 a ≠ g 99 e) : rowE (stk g e) a = rowE g a := by
  have hs : stOf (stk g e) (g 100 a) (g 99 a) = stOf g (g 100 a) (g 99 a) := by
    unfold stOf
    rw [nE_stk]
    refine sm_congr (fun i _ => bI_iff ?_)
    rw [stk_ne (g := g) (e := e) (x := 99) (by decide) (by decide), stk_ne (g := g) (e := e) (x := 100) (by decide) (by decide)]
    by_cases z : i = e
    · subst z
      exact ⟨fun y => absurd y.2.1.symm ha, fun y => absurd y.2.1.symm ha⟩
    · rw [stk_104 z]
  unfold rowE
  rw [stk_ne (g := g) (e := e) (x := 99) (by decide) (by decide), stk_ne (g := g) (e := e) (x := 100) (by decide) (by decide), stk_ne (g := g) (e := e) (x := 101) (by decide) (by decide), hs]
  exact rowX_of (fun _ => stk_ne (by decide) (by decide)) (fun _ => stk_ne (by decide) (by decide)) (fun _ => stk_ne (by decide) (by decide)) (fun _ => stk_ne (by decide) (by decide)) (fun _ => stk_ne (by decide) (by decide)) (fun _ => stk_ne (by decide) (by decide)) (fun _ => stk_ne (by decide) (by decide)) _ _ _ _
section PROTEST
variable (X : MExt) {E : List (Nat × Nat)} {g : Gm}
/-- in other classes nothing changes -/
theorem pl_other {N : Int} (h : ST N E g) {e : Nat} {w t w2 t2 : Nat → Int} {mj mj2 : Nat → Nat → Int} (eu : ∀ a, a < nE g → evU X E g a (w a) (mj a) (t a)) (eu2 : ∀ a, a < nE (stk g e) → evU X E (stk g e) a (w2 a) (mj2 a) (t2 a)) {i : Nat} (hi : g 99 i ≠ g 99 e) : plf g w t mj i = plf (stk g e) w2 t2 mj2 i := by
  have key : ∀ a, a < nE g → g 99 a ≠ g 99 e → w a = w2 a ∧ (∀ j, j < 4 → mj a j = mj2 a j) ∧ t a = t2 a := fun a ha hne => by
    obtain ⟨k, x, r, a99, a100, hk, hx, h16, _⟩ := ent h ha
    obtain ⟨rb, hb, _⟩ := h.1.2.2.2.2.2.1
    have q1 := eu a ha k r rb a99 h16 hb (wr 28 0 11 g (rowE g a)) sameR_28 (fun i => wr_ne (by decide)) (fun f hf => w28_at hf)
    have q2 := eu2 a (by rw [nE_stk]; exact ha) k r rb ((stk_ne (by decide) (by decide)).trans a99) ((stk_ne (by decide) (by decide)).trans h16) ((stk_ne (by decide) (by decide)).trans hb) (wr 28 0 11 g (rowE g a)) (sameR_stk sameR_28) (fun i => by rw [stk_ne (by decide) (by decide)]; exact wr_ne (by decide)) (fun f hf => by rw [rowE_stk hne]; exact w28_at hf)
    obtain ⟨⟨_, b1⟩, c1, ⟨_, d1⟩⟩ := q1
    obtain ⟨⟨_, b2⟩, c2, ⟨_, d2⟩⟩ := q2
    refine ⟨val_inj b1 b2, fun j hj => ?_, val_inj d1 d2⟩
    obtain ⟨_, e1⟩ := c1 j hj
    obtain ⟨_, e2⟩ := c2 j hj
    exact val_inj e1 e2
  obtain ⟨_, _, _, _, _, _, _, _, _, _, _, _, _, b99, _⟩ := h.1.1.1
  have b130 := h.1.1.2.2.1.2.2.2.2.2.2.2.1
  unfold plf
  rw [stk_ne (g := g) (e := e) (x := 99) (by decide) (by decide), stk_ne (g := g) (e := e) (x := 130) (by decide) (by decide), nE_stk]
  by_cases z : 0 ≤ g 130 (g 99 i).toNat
  · rw [if_pos z, if_pos z]
    have b := b99 i
    have hj : (g 130 (g 99 i).toNat).toNat < 4 := by
      have := b130 (g 99 i).toNat (by omega)
      omega
    have ne : ∀ a, g 99 a = g 99 i → a ≠ e := fun a y q => hi (by rw [← y, q])
    refine plv_congr nE_stk (fun a => ⟨fun y => ?_, fun y => ?_⟩) (fun a y => ?_)
    · obtain ⟨y1, y2, y3, y4⟩ := y
      refine ⟨by rw [nE_stk]; exact y1, by rw [stk_104 (ne a y3)]; exact y2, by rw [stk_ne (by decide) (by decide)]; exact y3, ?_⟩
      rw [← (key a y1 (by rw [y3]; exact hi)).1]
      exact y4
    · obtain ⟨y1, y2, y3, y4⟩ := y
      rw [nE_stk] at y1
      rw [stk_ne (by decide) (by decide)] at y3
      rw [stk_104 (ne a y3)] at y2
      refine ⟨y1, y2, y3, ?_⟩
      rw [(key a y1 (by rw [y3]; exact hi)).1]
      exact y4
    · have := key a y.1 (by rw [y.2.2.1]; exact hi)
      exact ⟨this.2.1 _ hj, this.2.2⟩
  · rw [if_neg z, if_neg z]
/-- what the reference's protest changes -/
def prQ (g u : Gm) : Prop := ∀ x i, ¬ (117 ≤ x ∧ x ≤ 126) → x ≠ 144 → x ≠ 145 → x ≠ 148 → u x i = g x i
theorem prQ_refl (g : Gm) : prQ g g := fun _ _ _ _ _ _ => rfl
theorem prQ_tr {g u v : Gm} (h : prQ g u) (h2 : prQ u v) : prQ g v := fun x i a b c d => (h2 x i a b c d).trans (h x i a b c d)
theorem prQ_rf {g u : Gm} (h : rfQ g u) : prQ g u := fun x i a _ _ _ => h x i a
theorem prQ_rs {g u : Gm} (h : rsQ g u) : prQ g u := fun x i a b c _ => h x i a b c
theorem prQ_148 {g : Gm} {i : Nat} {v : Int} : prQ g (up g 148 i v) := fun x j _ _ _ d => up_cell d
theorem scq_pr {x i : Nat} (h : scq x i = false) : ¬ (117 ≤ x ∧ x ≤ 126) ∧ x ≠ 144 ∧ x ≠ 145 ∧ x ≠ 148 := ⟨sq_rf h, fun z => (by rw [z] at h; cases h), fun z => (by rw [z] at h; cases h), fun z => (by rw [z] at h; cases h)⟩
theorem op_protest (x1 x2 : Int) : OpV X 129 236 12 [(0, x1), (0, x2)] := by
  intro N E c s d g h
  have hle := h.1.1.1.rn.le
  have hn2 := h.1.1.1.n2
  have s19 : Call prog clsT X (d + 11) 19 [(2, 30), (0, x1)] (mk E c s (hh g)) = _ := c19 X E c s h.1.1.1 (d + 9) x1
  have s161 : ∀ u, onQ g u → Call prog clsT X (d + 11) 161 [(2, 89), (0, x1)] (mk E c s (hh u)) = some ((0, bI (0 ≤ x1 ∧ x1 < nE g ∧ g 104 x1.toNat = 0)), mk E c s (hh u)) := fun u hu => by
    rw [show d + 11 = (d + 9) + 2 from rfl, m161 X E c s (RN_Q h hu) (d + 9) x1, nE_Q hu, hu 104 _ rfl]
  have s90 : Call prog clsT X (d + 11) 90 [(0, x2), (0, 0), (0, 1)] (mk E c s (hh g)) = _ := c90 X E c s (d + 10) x2 0 1
  have s152 : ∀ u : Gm, Call prog clsT X (d + 11) 152 [(0, x2), (0, 0), (0, 1)] (mk E c s (hh u)) = some ((0, bI (0 ≤ x2 ∧ x2 ≤ 1)), mk E c s (hh u)) := fun u => m152 X E c s (g := u) (d + 10) x2 0 1
  have v0 : onQ g (up g 89 0 0) := onQ_0 (onQ_refl g) 0
  by_cases q1 : 0 ≤ x1 ∧ x1 < nE g ∧ g 104 x1.toNat = 0
  case neg =>
    refine ⟨-1, g, up g 89 0 0, v0, ?_, ?_⟩
    · rw [rc129_, call0 s19, push0, bI_f q1, r129_4, cmp_eq, if_pos rfl]
    · rw [rc236_, call0 (s161 _ v0), push0, bI_f q1, r236_6, cmp_eq, if_pos rfl]
  by_cases q2 : 0 ≤ x2 ∧ x2 ≤ 1
  case neg =>
    refine ⟨-1, g, up g 89 0 0, v0, ?_, ?_⟩
    · rw [rc129_, call0 s19, push0, bI_t q1, r129_4, cmp_eq, if_neg (by decide), call0 s90, push0, bI_f q2, r129_9, cmp_ne, if_neg (by decide)]
    · rw [rc236_, call0 (s161 _ v0), push0, bI_t q1, r236_6, cmp_eq, if_neg (by decide), call0 (s152 _), push0, bI_f q2, r236_11, cmp_ne, if_neg (by decide)]
  obtain ⟨e, rfl⟩ := Int.eq_ofNat_of_zero_le q1.1
  have he : e < nE g := by omega
  have h104 : g 104 e = 0 := q1.2.2
  have hp := ST_stk h he
  have e40 : 0 ≤ (e : Int) ∧ (e : Int) < ((40 : Nat) : Int) := by omega
  obtain ⟨w, t, mj, pl, eu, epl, p0, _, pc, pn, pm⟩ := PLw X h
  obtain ⟨w', t', mj', pl', eu', epl', p0', _, pc', pn', pm'⟩ := PLw X hp
  obtain ⟨kk, _, _, h99, _, hkk, _⟩ := ent h he
  have other : ∀ i, g 99 i ≠ (kk : Int) → pl i = pl' i := fun i hi => by
    rw [epl, epl']
    exact pl_other X h eu eu' (by rw [h99]; exact hi)
  have far : ∀ i, nE g ≤ i → pl i = 0 ∧ pl' i = 0 := fun i hi => by
    constructor
    · rw [epl]
      unfold plf
      split
      · exact if_neg (fun z => by have := z.1; omega)
      · rfl
    · rw [epl']
      unfold plf
      split
      · exact if_neg (fun z => by have := z.1; rw [nE_stk] at this; omega)
      · rfl
  have hC' := C_b hp.1.1.2.2.2.2.1
  have nes : nE (stk g e) = nE g := nE_stk
  generalize hST : sm (fun i => bI (i ≠ e ∧ (if 0 < pl' i then pl' i else -1) ≠ (if 0 < pl i then pl i else -1))) (nE g) = cnt
  generalize hLD : (ldA (stk g e) (fun x => sT (stk g e) pl' (cP (stk g e)) x (nE (stk g e))) (fun x => sT (stk g e) pl' cF x (nE (stk g e))) 10).1 = cup
  -- the class
  have cls : ∃ g1, onQ g g1 ∧ Call prog clsT X (d + 12) 129 [(2, 0), (0, (e : Int)), (0, x2)] (mk E c s (hh g)) = some ((0, if x2 = 0 then cnt else cup), mk E c s (hh g1)) := by
    have back : ∀ u u2 : Gm, onQ g u → clQ (up u 30 1 (land64 (g 30 1) (lxor64 (lshl64 1 (e : Int)) (-1)))) u2 → onQ g (up u2 30 1 (g 30 1)) := fun u u2 hu h2 x i hs => by
      by_cases q : x = 30 ∧ i = 1
      · rw [q.1, q.2, up_at, if_pos rfl]
      · rw [up_ne q, h2 x i (sq_cl hs), up_ne q]
        exact hu x i hs
    rw [rc129_, call0 s19, push0, bI_t q1, r129_4, cmp_eq, if_neg (by decide), call0 s90, push0, bI_t q2, r129_9, cmp_ne, if_pos (by decide), cmp_ne, Int.toNat_natCast]
    by_cases y : x2 = 0
    case neg =>
      rw [if_pos y, if_neg y]
      obtain ⟨u1, a1, a2, a3⟩ := c123 X hp ⟨p0', pc', pn'⟩ (d + 4) c s _ (stk_C (e := e) (onQ_refl g))
      have a1 : Call prog clsT X (d + 11) 123 [(2, 0)] (mk E c s (hh (up g 30 1 (land64 (g 30 1) (lxor64 (lshl64 1 (e : Int)) (-1)))))) = _ := a1
      have l1 := c125 X hp (P := fun x => sT (stk g e) pl' (cP (stk g e)) x (nE (stk g e))) (F := fun x => sT (stk g e) pl' cF x (nE (stk g e))) c s (d + 8) (onC_su (stk_C (e := e) (onQ_refl g)) a2) (fun x hx => ⟨(a3 x hx).1, (a3 x hx).2.1⟩)
      have l1 : Call prog clsT X (d + 11) 125 [(2, 0)] (mk E c s (hh u1)) = _ := l1
      refine ⟨_, ?_, by rw [call3 a1, push3, r129_63, call0 l1, push0, r129_65, hLD]⟩
      intro x i hs
      by_cases q : x = 30 ∧ i = 1
      · rw [q.1, q.2, up_at, if_pos rfl]
      · rw [up_ne q, a2 x i (fun z => ?_), up_ne q]
        rcases z with z | z | z | z | z | z | z | z <;> rw [z] at hs <;> cases hs
    rw [if_neg (fun z => z y), if_pos y, inb_is, if_pos e40]
    have e31 : g 31 e = kk := by
      obtain ⟨_, _, _, _, _, e31, _⟩ := h.1.1.1
      rw [e31 e, h99]
    obtain ⟨u1, a1, a2, a3, a4⟩ := c130 X h pc pn (d + 4) c s hkk (onC_refl g)
    have a1 : Call prog clsT X (d + 11) 130 [(2, 0), (0, (kk : Int))] (mk E c s (hh g)) = _ := a1
    have b1 : Call prog clsT X (d + 11) 7 [(2, 55)] (mk E c s (hh u1)) = _ := c7 X c s (d + 10) u1
    have w1 : onQ g (cpy u1 56 57 40) := fun x i hs => by
      rw [cpy_cell (fun z => by rw [z] at hs; cases hs)]
      exact a3 x i (sq_cl hs)
    have w31 : cpy u1 56 57 40 31 e = kk := (w1 31 e rfl).trans e31
    obtain ⟨u2, d1, d2, d3, d4⟩ := c130 X hp pc' pn' (d + 4) c s hkk (stk_C (e := e) w1)
    have d1 : Call prog clsT X (d + 11) 130 [(2, 0), (0, (kk : Int))] (mk E c s (hh (up (cpy u1 56 57 40) 30 1 (land64 (g 30 1) (lxor64 (lshl64 1 (e : Int)) (-1)))))) = _ := d1
    have l8 : Call prog clsT X (d + 11) 8 [(2, 55), (0, (e : Int))] (mk E c s (hh u2)) = _ := c8 X c s (d + 10) e u2
    have f57 : ∀ i, i < 40 → u2 57 i = if g 99 i = kk then pl i else 0 := fun i hi => by
      rw [d3 57 i (by decide), up_cell (by decide), ← a4 i hi]
      show (if 57 = 57 ∧ 0 ≤ i ∧ i < 0 + 40 then u1 56 (0 + (i - 0)) else u1 57 i) = u1 56 i
      rw [if_pos ⟨rfl, Nat.zero_le i, by omega⟩, Nat.zero_add, Nat.sub_zero]
    have f56 : ∀ i, i < 40 → u2 56 i = if g 99 i = kk then pl' i else 0 := fun i hi => by
      rw [d4 i hi, stk_ne (by decide) (by decide)]
    have hc : sm (fun i => bI (i ≠ e ∧ u2 56 i ≠ u2 57 i)) 40 = cnt := by
      have z0 := sm_zero (f := fun i => bI (i ≠ e ∧ u2 56 i ≠ u2 57 i)) (nE g) (40 - nE g) (fun i i1 i2 => bI_f (fun z => z.2 (by
        rw [f56 i (by omega), f57 i (by omega), (far i i1).1, (far i i1).2])))
      rw [show nE g + (40 - nE g) = 40 by omega] at z0
      rw [z0, ← hST]
      refine sm_congr (fun i hi => bI_iff ?_)
      rw [f56 i (by omega), f57 i (by omega)]
      have y1 := p0 i
      have y2 := p0' i
      by_cases z : g 99 i = kk
      · rw [if_pos z, if_pos z]
        constructor
        · intro v
          refine ⟨v.1, fun u => v.2 ?_⟩
          split at u <;> split at u <;> omega
        · intro v
          refine ⟨v.1, fun u => v.2 ?_⟩
          rw [u]
      · rw [if_neg z, if_neg z, other i z]
        exact ⟨fun v => absurd rfl v.2, fun v => absurd rfl v.2⟩
    refine ⟨_, back _ _ w1 d3, ?_⟩
    rw [e31, call3 a1, push3, r129_25, call3 b1, push3, r129_28, inb_is, if_pos e40, Int.toNat_natCast, w31, call3 d1, push3, r129_45, call0 l8, push0, r129_49, hc]
  obtain ⟨g1, c1, c2⟩ := cls
  -- the reference
  have u0 := onQ_0 c1 0
  have lp1 : ∀ (m i : Nat) (w4 : MV) (u : Gm), i + m = nE g → onM g u → prQ (up g1 89 0 0) u → (∀ a, a < i → u 148 a = if 0 < pl a then pl a else -1) → ∃ u', Ev prog clsT X (d + 11) mc236 16 [(2, 89), (0, (e : Int)), (0, x2), (0, (i : Int)), w4] [] (mk E c s (hh u)) = Ev prog clsT X (d + 11) mc236 38 [(2, 89), (0, (e : Int)), (0, x2), (0, 0), (0, 0)] [] (mk E c s (hh (up u' 104 e 1))) ∧ prQ (up g1 89 0 0) u' ∧ ∀ a, a < nE g → u' 148 a = if 0 < pl a then pl a else -1 := by
    intro m
    induction m with
    | zero =>
      intro i w4 u hi hu hr hv
      have hi : i = nE g := by omega
      subst hi
      refine ⟨u, ?_, hr, hv⟩
      rw [r236_16, hu 89 10 rfl, hn2, cmp_ge, if_pos (Int.le_refl _), inb_is, if_pos e40, b1_1, Int.toNat_natCast]
    | succ m ih =>
      intro i w4 u hi hu hr hv
      have hi2 : i < nE g := by omega
      have i40 : 0 ≤ (i : Int) ∧ (i : Int) < ((40 : Nat) : Int) := by omega
      obtain ⟨u1, a1, a2, a3⟩ := pm i hi2 (d + 1) c s u hu
      have a1 : Call prog clsT X (d + 11) 209 [(2, 89), (0, (i : Int))] (mk E c s (hh u)) = _ := a1
      rw [r236_16, hu 89 10 rfl, hn2, cmp_ge, if_neg (by omega), call0 a1, push0, r236_26, inb_is, if_pos i40, Int.toNat_natCast, w32_succ (by omega)]
      refine ih (i + 1) _ _ (by omega) (onM_up a2 rfl) (prQ_tr hr (prQ_tr (prQ_rf a3) prQ_148)) (fun a ha => ?_)
      rw [up_at]
      by_cases z : a = i
      · rw [if_pos z, z]
      · rw [if_neg z, a3 148 a (by decide)]
        exact hv a (by omega)
  obtain ⟨u1, a1, a2, a3⟩ := lp1 (nE g) 0 (3, 0) (up g1 89 0 0) (by omega) (M_of u0) (prQ_refl _) (fun a ha => absurd ha (Nat.not_lt_zero _))
  have a1 : Ev prog clsT X (d + 11) mc236 16 [(2, 89), (0, (e : Int)), (0, x2), (0, 0), (3, 0)] [] (mk E c s (hh (up g1 89 0 0))) = _ := a1
  have q1' : onQ g u1 := fun x i hs => by
    obtain ⟨z1, z2, z3, z4⟩ := scq_pr hs
    exact (a2 x i z1 z2 z3 z4).trans (u0 x i hs)
  have m1 := stk_M (e := e) q1'
  have lp2 : ∀ (m i : Nat) (u : Gm), i + m = nE g → onM (stk g e) u → prQ (up u1 104 e 1) u → (∀ a, a < nE g → u 148 a = if 0 < pl a then pl a else -1) → ∃ u', Ev prog clsT X (d + 11) mc236 38 [(2, 89), (0, (e : Int)), (0, x2), (0, sm (fun i => bI (i ≠ e ∧ (if 0 < pl' i then pl' i else -1) ≠ (if 0 < pl i then pl i else -1))) i), (0, (i : Int))] [] (mk E c s (hh u)) = ((Call prog clsT X (d + 11) 228 [(2, 89)] (mk E c s (hh u'))).bind fun r1 => if r1.1.1 = 4 then none else Ev prog clsT X (d + 11) mc236 63 [(2, 89), (0, (e : Int)), (0, x2), (0, cnt), (0, (nE g : Int))] (pushR r1.1 []) r1.2) ∧ onM (stk g e) u' ∧ prQ (up u1 104 e 1) u' := by
    intro m
    induction m with
    | zero =>
      intro i u hi hu hr hv
      have hi : i = nE g := by omega
      subst hi
      refine ⟨u, ?_, hu, hr⟩
      rw [r236_38, hu 89 10 rfl, show stk g e 89 10 = g 89 10 from stk_ne (by decide) (by decide), hn2, cmp_ge, if_pos (Int.le_refl _), hST]
    | succ m ih =>
      intro i u hi hu hr hv
      have hi2 : i < nE g := by omega
      have i40 : 0 ≤ (i : Int) ∧ (i : Int) < ((40 : Nat) : Int) := by omega
      have hst : ∀ v, v = bI (i ≠ e ∧ (if 0 < pl' i then pl' i else -1) ≠ (if 0 < pl i then pl i else -1)) → w32 (sm (fun i => bI (i ≠ e ∧ (if 0 < pl' i then pl' i else -1) ≠ (if 0 < pl i then pl i else -1))) i + v) = sm (fun i => bI (i ≠ e ∧ (if 0 < pl' i then pl' i else -1) ≠ (if 0 < pl i then pl i else -1))) (i + 1) := fun v hv => sm_step 1 hv (fun j _ => bI_b _) (by omega) (by omega)
      rw [r236_38, hu 89 10 rfl, show stk g e 89 10 = g 89 10 from stk_ne (by decide) (by decide), hn2, cmp_ge, if_neg (by omega), cmp_eq]
      by_cases z : (i : Int) = (e : Int)
      · rw [if_pos z, hst 0 (bI_f (fun v => v.1 (by omega))).symm, w32_succ (by omega)]
        exact ih (i + 1) u (by omega) hu hr hv
      obtain ⟨u2, b1, b2, b3⟩ := pm' i (by rw [nes]; exact hi2) (d + 1) c s u hu
      have b1 : Call prog clsT X (d + 11) 209 [(2, 89), (0, (i : Int))] (mk E c s (hh u)) = _ := b1
      have hv2 : ∀ a, a < nE g → u2 148 a = if 0 < pl a then pl a else -1 := fun a ha => by
        rw [b3 148 a (by decide)]; exact hv a ha
      rw [if_neg z, call0 b1, push0, r236_49, inb_is, if_pos i40, Int.toNat_natCast, cmp_eq, hv2 i hi2, w32_succ (by omega)]
      by_cases y : (if 0 < pl' i then pl' i else -1) = (if 0 < pl i then pl i else -1)
      · rw [if_pos y, hst 0 (bI_f (fun v => v.2 y)).symm]
        exact ih (i + 1) u2 (by omega) b2 (prQ_tr hr (prQ_rf b3)) hv2
      · rw [if_neg y, hst 1 (bI_t ⟨fun v => z (by omega), y⟩).symm]
        exact ih (i + 1) u2 (by omega) b2 (prQ_tr hr (prQ_rf b3)) hv2
  obtain ⟨u2, b1, b2, b3⟩ := lp2 (nE g) 0 (up u1 104 e 1) (by omega) m1 (prQ_refl _) (fun a ha => by rw [up_cell (by decide)]; exact a3 a ha)
  have b1 : Ev prog clsT X (d + 11) mc236 38 [(2, 89), (0, (e : Int)), (0, x2), (0, 0), (0, 0)] [] (mk E c s (hh (up u1 104 e 1))) = _ := b1
  obtain ⟨u3, d1, d2, d3⟩ := m228 X hp ⟨p0', pm'⟩ d c s u2 b2
  have l2 := m231 X hp (P := fun x => sT (stk g e) pl' (cP (stk g e)) x (nE (stk g e))) (F := fun x => sT (stk g e) pl' cF x (nE (stk g e))) (fun x => (sT_b (by rw [nes]; exact hle) hC'.1).1) c s (d + 10) (onM_rs b2 d2) (fun x hx => d3 x hx)
  have l2 : Call prog clsT X (d + 11) 231 [(2, 89)] (mk E c s (hh u3)) = _ := l2
  have fin : onQ g (up u3 104 e 0) := fun x i hs => by
    by_cases q : x = 104 ∧ i = e
    · rw [q.1, q.2, up_at, if_pos rfl, h104]
    · obtain ⟨z1, z2, z3, z4⟩ := scq_pr hs
      rw [up_ne q, prQ_tr b3 (prQ_rs d2) x i z1 z2 z3 z4, up_ne q]
      exact q1' x i hs
  refine ⟨if x2 = 0 then cnt else cup, g1, up u3 104 e 0, fin, c2, ?_⟩
  rw [rc236_, call0 (s161 _ u0), push0, bI_t q1, r236_6, cmp_eq, if_neg (by decide), call0 (s152 _), push0, bI_t q2, r236_11, cmp_ne, if_pos (by decide), a1, b1, call3 d1, push3, r236_63, call0 l2, push0, r236_65, inb_is, if_pos e40, cmp_ne, hLD, Int.toNat_natCast]
  by_cases y : x2 = 0
  · rw [if_neg (fun z => z y), if_pos y]
    rfl
  · rw [if_pos y, if_neg y]
    rfl
end PROTEST
