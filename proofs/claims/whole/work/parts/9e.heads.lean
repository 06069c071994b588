/-! Part 9e: lines of each sort are read alike. -/
section HEADS
variable (X : MExt) (T : Nat → Int) (L : Nat)
abbrev plan (tx : Nat) : Bool := decide (tx = 2)
def OUT (tx n : Nat) (a : Sm) (F G : Nat → CF) : Prop :=
  (∃ fl, (∀ t E c s r g, 60 ≤ t → CI T L (plan tx) E r n g → HC tx a r g → ∃ g', F t E c s g = some ((3, 0), mk E c s (hh g')) ∧ FX E L r fl g' ∧ frL r g g') ∧ (∀ t E c s g, MI T L (plan tx) n g → HM a g → ∃ g', G t E c s g = some ((0, 0), mk E c s (hh g')) ∧ g' 89 25 = fl ∧ frR g g')) ∨
  ∃ m a', n < m ∧ m ≤ L ∧ SG tx a' ∧ (∀ t E c s r g, 60 ≤ t → CI T L (plan tx) E r n g → HC tx a r g → ∃ g', F t E c s g = some ((3, 0), mk E c s (hh g')) ∧ CI T L (plan tx) E r m g' ∧ HC tx a' r g' ∧ frL r g g') ∧ (∀ t E c s g, MI T L (plan tx) n g → HM a g → ∃ g', G t E c s g = some ((0, 1), mk E c s (hh g')) ∧ MI T L (plan tx) m g' ∧ HM a' g' ∧ frR g g')
end HEADS
theorem SG_L {tx j : Nat} {a : Sm} {P Q : List Int} (h : SG tx a) (hs : semE (plan tx) 0 P Q) : SG tx (adL a j P Q) := by
  obtain ⟨h1, h2, h3, h4, h5, h6, h7, h8⟩ := h
  refine ⟨h1, h2, h3, h4, h5, fun i hi => ⟨?_, (h6 i hi).2⟩, h7, fun i hi => ?_⟩
  · show fu a.2.2.2.2.1 j true i = true
    unfold fu; split
    · rfl
    · exact (h6 i hi).1
  · show semE (plan tx) 0 (fu a.2.2.2.2.2.1 j P i) (fu a.2.2.2.2.2.2 j Q i)
    by_cases q : i = j
    · subst q; rw [fu_s, fu_s]; exact hs
    · rw [fu_n _ _ q, fu_n _ _ q]
      have hi : fu a.2.2.2.2.1 j true i = true := hi
      rw [fu_n _ _ q] at hi
      exact h8 i hi
theorem HC_tail {tx j r : Nat} {a : Sm} {P Q : List Int} {g g' : Gm} (h : HC tx a r g) (hj : j < nl tx) (h0 : 0 ≤ g r 7) (el : lst g' r = lst g r ++ P) (e7 : g' r 7 = g r 7 + P.length) (e2 : g' (r + 2) (cl tx j) = g r 7) (e3 : g' (r + 3) (cl tx j) = g' r 7) (ei : ∀ i, i ≤ 2 → g' r i = g r i) (e1 : ∀ i, g' (r + 1) i = g (r + 1) i) (en : ∀ i, i ≠ cl tx j → g' (r + 2) i = g (r + 2) i ∧ g' (r + 3) i = g (r + 3) i) : HC tx (adL a j P Q) r g' := by
  obtain ⟨h1, h2, h3, h4, h5⟩ := h
  refine ⟨by rw [ei 0 (by omega)]; exact h1, by rw [ei 1 (by omega)]; exact h2, by rw [ei 2 (by omega)]; exact h3, fun i hi => by rw [e1]; exact h4 i hi, fun i hi => ?_⟩
  show lnC g' r (cl tx i) (fu a.2.2.2.2.1 j true i) (fu a.2.2.2.2.2.1 j P i)
  by_cases q : i = j
  · subst q
    rw [fu_s, fu_s]
    exact lnC_new h0 e2 e3 el e7
  · rw [fu_n _ _ q, fu_n _ _ q]
    have hc : cl tx i ≠ cl tx j := fun z => q (cl_inj z)
    exact lnC_keep (h5 i hi) h0 (en _ hc).1 (en _ hc).2 el e7
theorem HM_tail {j : Nat} {a : Sm} {P Q : List Int} {g g' : Gm} (h : HM a g) (h0 : 12000 ≤ g 89 35) (el : lsM g' = lsM g ++ Q) (e7 : g' 89 35 = g 89 35 + Q.length) (e2 : g' 112 (108 + j) = g 89 35) (e3 : g' 113 (108 + j) = g' 89 35) (e0 : g' 110 (108 + j) = 1) (en : ∀ x i, 107 ≤ x → x ≤ 113 → i ≠ 108 + j → g' x i = g x i) (e1 : ∀ i, g' 111 i = g 111 i) : HM (adL a j P Q) g' := by
  obtain ⟨h1, h2, h3, h4, h5⟩ := h
  refine ⟨by rw [en 107 12 (by omega) (by omega) (by omega)]; exact h1, by rw [en 108 12 (by omega) (by omega) (by omega)]; exact h2, by rw [en 109 12 (by omega) (by omega) (by omega)]; exact h3, fun i hi => by rw [e1]; exact h4 i hi, fun i hi => ?_⟩
  show lnM g' i (fu a.2.2.2.2.1 j true i) (fu a.2.2.2.2.2.2 j Q i)
  by_cases q : i = j
  · subst q
    rw [fu_s, fu_s]
    exact lnM_new h0 e0 e2 e3 el e7
  · rw [fu_n _ _ q, fu_n _ _ q]
    exact lnM_keep (h5 i hi) h0 (en 110 _ (by omega) (by omega) (by omega)) (en 112 _ (by omega) (by omega) (by omega)) (en 113 _ (by omega) (by omega) (by omega)) el e7
theorem HM_M {a : Sm} {g g' : Gm} (h : HM a g) (e : ∀ x i, ¬ zM x i → g' x i = g x i) : HM a g' := by
  obtain ⟨h1, h2, h3, h4, h5⟩ := h
  refine ⟨by rw [e 107 12 (by unfold zM; omega)]; exact h1, by rw [e 108 12 (by unfold zM; omega)]; exact h2, by rw [e 109 12 (by unfold zM; omega)]; exact h3, fun i hi => by rw [e 111 _ (by unfold zM; omega)]; exact h4 i hi, fun j hj => lnM_eq (h5 j hj) (e _ _ (by unfold zM; omega)) (e _ _ (by unfold zM; omega)) (e _ _ (by unfold zM; omega)) (fun i => e _ _ (by unfold zM; omega)) (e _ _ (by unfold zM; omega))⟩
section HEADS2
variable {X : MExt} {T : Nat → Int} {L : Nat}
/-- one rule a text: marks, tie, drop, split, join -/
noncomputable def cRule (X : MExt) (tx j : Nat) (x2 : Int) (t : Nat) : CF := fun E c s g => (Call prog clsT X t 52 [(2, 9), (0, ((cl tx j : Nat) : Int)), (0, if tx = 2 then 1 else 0)] (mk E c s (hh g))).bind fun r4 => if r4.1.1 = 4 then none else Ev prog clsT X t mc43 41 [(2, 9), (0, (tx : Int)), (0, x2), (3, 0)] (pushR r4.1 []) r4.2
noncomputable def mRule (X : MExt) (tx j : Nat) (t : Nat) : CF := fun E c s g => Call prog clsT X (t + 8) 173 [(2, 89), (0, (j : Int)), (0, if tx = 2 then 1 else 0)] (mk E c s (hh g))
theorem line_rule (hX : XT X) {tx j n : Nat} {a : Sm} (x2 : Int) (hn : n < L) (hj : j < nl tx) (hj9 : j < 9) (hS : SG tx a) : OUT T L tx n a (cRule X tx j x2) (mRule X tx j) := by
  have hb := nxt_bd (T := T) (L := L) (b := n) (by omega)
  have hb3 := hb.2.2 hn
  have hcl := cl_lt hj
  by_cases hp : a.2.2.2.2.1 j = true
  · refine Or.inl ⟨3 + 16 * n, fun t E c s r g ht h hc => ?_, fun t E c s g h hm => ?_⟩
    · obtain ⟨t, rfl⟩ : ∃ t', t = t' + 7 := ⟨t - 7, by omega⟩
      have hl : g (r + 2) (cl tx j) ≠ -1 := by
        rcases hc.2.2.2.2 j hj with q | ⟨_, u, v, k1, _⟩
        · rw [hp] at q; exact absurd q.1 (by decide)
        · rw [k1]; omega
      obtain ⟨g1, k1, k2, k3, _⟩ := c46x (X := X) E c s h (t + 5) 3 (by omega)
      obtain ⟨g2, j1, j2, j3⟩ := f_tail (X := X) E c s k2 t tx x2 ((cl tx j : Nat) : Int) (Or.inr (by omega))
      have e : Call prog clsT X (t + 7) 52 [(2, 9), (0, ((cl tx j : Nat) : Int)), (0, if tx = 2 then 1 else 0)] (mk E c s (hh g)) = some ((0, ((cl tx j : Nat) : Int)), mk E c s (hh g1)) := by
        rw [rc52_, rvD E c s h.2.1, h.2.1.2.2.1, call0 (c66 X E c s h.2.1.1 h.2.1.2.1 (t + 5) (cl tx j) hcl), push0, r52_4, cmp_eq, bI_eq0, if_neg (fun z => z hl), call3 k1, push3, r52_8, call3 (c40g X E c s k2.2 (t + 5)), push3, r52_10, cmp_eq]
        split
        · rw [if_neg (by decide), call3 (c49f X E c s k2.2 (t + 4) (-15)), push3, r52_15]
        · rw [if_pos rfl, r52_15]
      refine ⟨g2, ?_, j2, frL_tr k3 j3⟩
      show (Call prog clsT X (t + 7) 52 _ _).bind _ = _
      rw [call0 e, push0, j1]
    · have h110 : g 110 (108 + j) = 1 := by
        rcases hm.2.2.2.2 j hj9 with q | q
        · rw [hp] at q; exact absurd q.1 (by decide)
        · exact q.2.1
      refine ⟨fM g n 3, ?_, up_same, frR_Q (lo := 0) (lo' := 0) (fM_fr g n 3)⟩
      show Call prog clsT X (t + 8) 173 _ _ = _
      rw [rc173_, w108 j hj9, inb_is, if_pos (by omega), Int.toNat_natCast, h110, cmp_eq, if_neg (by decide), call0 (m172t X E c s h.1 (t + 6) 3 (by omega)), push0, r173_10, if_pos ⟨rfl, one_z⟩]
  have hpf : a.2.2.2.2.1 j = false := by cases h : a.2.2.2.2.1 j; rfl; exact absurd h hp
  have hlc : ∀ r g, HC tx a r g → g (r + 2) (cl tx j) = -1 := by
    intro r g hc
    rcases hc.2.2.2.2 j hj with q | q
    · exact q.2
    · rw [hpf] at q; exact absurd q.1 (by decide)
  have hlm : ∀ g, HM a g → g 110 (108 + j) = 0 := by
    intro g hm
    rcases hm.2.2.2.2 j hj9 with q | q
    · exact q.2
    · rw [hpf] at q; exact absurd q.1 (by decide)
  by_cases ht2 : tx = 2
  · subst ht2
    -- with when
    by_cases hw : wd T L (nxt T L n) lWhen
    case neg =>
      refine Or.inl ⟨1 + 16 * (nxt T L n : Nat), fun t E c s r g ht h hc => ?_, fun t E c s g h hm => ?_⟩
      · obtain ⟨t, rfl⟩ : ∃ t', t = t' + 8 := ⟨t - 8, by omega⟩
        obtain ⟨g1, k1, k2, k3⟩ := c40n X E c s hX (t + 2) h.1
        have h1 := CI_nx h k2 k3
        obtain ⟨g2, l1, l2, l3, _⟩ := c49n E c s hX.2.2.2.2.2.1 h1 t hw
        obtain ⟨g3, j1, j2, j3⟩ := f_tail (X := X) E c s l2 (t + 1) (2 : Nat) x2 ((cl 2 j : Nat) : Int) (Or.inr (by omega))
        have e : Call prog clsT X (t + 8) 52 [(2, 9), (0, ((cl 2 j : Nat) : Int)), (0, 1)] (mk E c s (hh g)) = some ((0, ((cl 2 j : Nat) : Int)), mk E c s (hh g2)) := by
          rw [rc52_, rvD E c s h.2.1, h.2.1.2.2.1, call0 (c66 X E c s h.2.1.1 h.2.1.2.1 (t + 6) (cl 2 j) hcl), push0, r52_4, cmp_eq, bI_eq0, if_pos (fun z => z (hlc r g hc)), r52_8, call3 k1, push3, r52_10, cmp_eq, if_neg (by decide), call3 l1, push3, r52_15]
        refine ⟨g3, ?_, j2, frL_tr (frL_tr (frL_C k3) l3) j3⟩
        show (Call prog clsT X (t + 8) 52 [(2, 9), (0, ((cl 2 j : Nat) : Int)), (0, 1)] _).bind _ = _
        rw [call0 e, push0, j1]
      · obtain ⟨g1, k1, k2, k3⟩ := m167x X E c s (t + 5) h.1
        obtain ⟨g2, l1, l2, l3⟩ := m174n (X := X) E c s (MI_nx h k2 k3) hw t j
        refine ⟨g2, ?_, l2, frR_tr (frR_M k3) l3⟩
        show Call prog clsT X (t + 8) 173 [(2, 89), (0, (j : Int)), (0, 1)] _ = _
        rw [rc173_, w108 j hj9, inb_is, if_pos (by omega), Int.toNat_natCast, hlm g hm, cmp_eq, if_pos rfl, call3 k1, push3, r173_13, cmp_eq, if_neg (by decide), call0 l1, push0, r173_18, r173_22, if_pos ⟨rfl, one_z⟩]
    have hb1 := nxt_bd (T := T) (L := L) (b := nxt T L n) hb.2.1
    have hlt1 : nxt T L n < L := tokT_lt hb.2.1 (by rw [hw.1]; decide)
    have hb13 := hb1.2.2 hlt1
    rcases t_tail (pl := plan 2) hX hb1.2.1 with ⟨fl, b1, b2⟩ | ⟨m, P, Q, a1, a2, a3, a4, a5, a6⟩
    · refine Or.inl ⟨fl, fun t E c s r g ht h hc => ?_, fun t E c s g h hm => ?_⟩
      · obtain ⟨t, rfl⟩ : ∃ t', t = t' + 8 := ⟨t - 8, by omega⟩
        obtain ⟨g1, k1, k2, k3⟩ := c40n X E c s hX (t + 2) h.1
        have h1 := CI_nx h k2 k3
        obtain ⟨g2, l1, l2, l3⟩ := c49t E c s hX hX.2.2.2.2.2.1 h1 t hw
        obtain ⟨g3, j1, j2, j3⟩ := b1 (t + 8) E c s r g2 (2 : Nat) x2 (cl 2 j) (by omega) hcl l2
        have e : Call prog clsT X (t + 8) 52 [(2, 9), (0, ((cl 2 j : Nat) : Int)), (0, 1)] (mk E c s (hh g)) = some ((0, ((cl 2 j : Nat) : Int)), mk E c s (hh g2)) := by
          rw [rc52_, rvD E c s h.2.1, h.2.1.2.2.1, call0 (c66 X E c s h.2.1.1 h.2.1.2.1 (t + 6) (cl 2 j) hcl), push0, r52_4, cmp_eq, bI_eq0, if_pos (fun z => z (hlc r g hc)), r52_8, call3 k1, push3, r52_10, cmp_eq, if_neg (by decide), call3 l1, push3, r52_15]
        refine ⟨g3, ?_, j2, frL_tr (frL_tr (frL_C k3) (frL_C l3)) j3⟩
        show (Call prog clsT X (t + 8) 52 [(2, 9), (0, ((cl 2 j : Nat) : Int)), (0, 1)] _).bind _ = _
        rw [call0 e, push0, j1]
      · obtain ⟨g1, k1, k2, k3⟩ := m167x X E c s (t + 5) h.1
        obtain ⟨g2, l1, l2, l3⟩ := m174w (X := X) E c s (MI_nx h k2 k3) hw
        obtain ⟨g3, p1, p2, p3⟩ := m175b E c s b2 l1 t j hj9
        refine ⟨g3, ?_, p2, frR_tr (frR_tr (frR_M k3) (frR_M l2)) p3⟩
        show Call prog clsT X (t + 8) 173 [(2, 89), (0, (j : Int)), (0, 1)] _ = _
        rw [rc173_, w108 j hj9, inb_is, if_pos (by omega), Int.toNat_natCast, hlm g hm, cmp_eq, if_pos rfl, call3 k1, push3, r173_13, cmp_eq, if_neg (by decide), call0 (l3 t j 0 _ rfl p1 E c s g3 rfl), push0, r173_18, r173_22, if_pos ⟨rfl, one_z⟩]
    · refine Or.inr ⟨m, adL a j P Q, by omega, a3, SG_L hS a4, fun t E c s r g ht h hc => ?_, fun t E c s g h hm => ?_⟩
      · obtain ⟨t, rfl⟩ : ∃ t', t = t' + 8 := ⟨t - 8, by omega⟩
        obtain ⟨g1, k1, k2, k3⟩ := c40n X E c s hX (t + 2) h.1
        have h1 := CI_nx h k2 k3
        obtain ⟨g2, l1, l2, l3⟩ := c49t E c s hX hX.2.2.2.2.2.1 h1 t hw
        have hr := h.2.1.2.2.2.1
        obtain ⟨g3, j1, j2, j3, j4, j5, j6, j7, j8, j9, j10⟩ := a5 (t + 8) E c s r g2 (2 : Nat) x2 (cl 2 j) (by omega) hcl l2
        have e : Call prog clsT X (t + 8) 52 [(2, 9), (0, ((cl 2 j : Nat) : Int)), (0, 1)] (mk E c s (hh g)) = some ((0, ((cl 2 j : Nat) : Int)), mk E c s (hh g2)) := by
          rw [rc52_, rvD E c s h.2.1, h.2.1.2.2.1, call0 (c66 X E c s h.2.1.1 h.2.1.2.1 (t + 6) (cl 2 j) hcl), push0, r52_4, cmp_eq, bI_eq0, if_pos (fun z => z (hlc r g hc)), r52_8, call3 k1, push3, r52_10, cmp_eq, if_neg (by decide), call3 l1, push3, r52_15]
        refine ⟨g3, ?_, j2, HC_tail (HC_C (HC_C hc hr k3) hr l3) hj l2.2.1.2.2.2.2.1 j4 j5 j6 j7 j8 j9 j10, frL_tr (frL_tr (frL_C k3) (frL_C l3)) j3⟩
        show (Call prog clsT X (t + 8) 52 [(2, 9), (0, ((cl 2 j : Nat) : Int)), (0, 1)] _).bind _ = _
        rw [call0 e, push0, j1]
      · obtain ⟨g1, k1, k2, k3⟩ := m167x X E c s (t + 5) h.1
        obtain ⟨g2, l1, l2, l3⟩ := m174w (X := X) E c s (MI_nx h k2 k3) hw
        obtain ⟨g3, p1, p2, p3, p4, p5, p6, p7, p8, p9, p10⟩ := m175t E c s a6 a2 l1 t j hj9
        refine ⟨g3, ?_, p2, HM_tail (HM_M (HM_M hm k3) l2) l1.2.1 p4 p5 p6 p7 p8 p9 p10, frR_tr (frR_tr (frR_M k3) (frR_M l2)) p3⟩
        show Call prog clsT X (t + 8) 173 [(2, 89), (0, (j : Int)), (0, 1)] _ = _
        rw [rc173_, w108 j hj9, inb_is, if_pos (by omega), Int.toNat_natCast, hlm g hm, cmp_eq, if_pos rfl, call3 k1, push3, r173_13, cmp_eq, if_neg (by decide), call0 (l3 t j 1 _ rfl p1 E c s g3 rfl), push0, r173_18, r173_22, if_pos ⟨rfl, rfl⟩]
  · -- without
    rcases t_tail (pl := plan tx) hX hb.2.1 with ⟨fl, b1, b2⟩ | ⟨m, P, Q, a1, a2, a3, a4, a5, a6⟩
    · refine Or.inl ⟨fl, fun t E c s r g ht h hc => ?_, fun t E c s g h hm => ?_⟩
      · obtain ⟨t, rfl⟩ : ∃ t', t = t' + 8 := ⟨t - 8, by omega⟩
        obtain ⟨g1, k1, k2, k3⟩ := c40n X E c s hX (t + 2) h.1
        have h1 := CI_nx h k2 k3
        obtain ⟨g3, j1, j2, j3⟩ := b1 (t + 8) E c s r g1 tx x2 (cl tx j) (by omega) hcl h1
        have e : Call prog clsT X (t + 8) 52 [(2, 9), (0, ((cl tx j : Nat) : Int)), (0, if tx = 2 then 1 else 0)] (mk E c s (hh g)) = some ((0, ((cl tx j : Nat) : Int)), mk E c s (hh g1)) := by
          rw [rc52_, rvD E c s h.2.1, h.2.1.2.2.1, call0 (c66 X E c s h.2.1.1 h.2.1.2.1 (t + 6) (cl tx j) hcl), push0, r52_4, cmp_eq, bI_eq0, if_pos (fun z => z (hlc r g hc)), r52_8, call3 k1, push3, r52_10, cmp_eq, if_pos (if_neg ht2), r52_15]
        refine ⟨g3, ?_, j2, frL_tr (frL_C k3) j3⟩
        show (Call prog clsT X (t + 8) 52 _ _).bind _ = _
        rw [call0 e, push0, j1]
      · obtain ⟨g1, k1, k2, k3⟩ := m167x X E c s (t + 5) h.1
        obtain ⟨g3, p1, p2, p3⟩ := m175b E c s b2 (MI_nx h k2 k3) (t + 1) j hj9
        refine ⟨g3, ?_, p2, frR_tr (frR_M k3) p3⟩
        show Call prog clsT X (t + 8) 173 _ _ = _
        rw [rc173_, w108 j hj9, inb_is, if_pos (by omega), Int.toNat_natCast, hlm g hm, cmp_eq, if_pos rfl, call3 k1, push3, r173_13, cmp_eq, if_pos (if_neg ht2), call0 p1, push0, r173_22, if_pos ⟨rfl, one_z⟩]
    · refine Or.inr ⟨m, adL a j P Q, by omega, a3, SG_L hS a4, fun t E c s r g ht h hc => ?_, fun t E c s g h hm => ?_⟩
      · obtain ⟨t, rfl⟩ : ∃ t', t = t' + 8 := ⟨t - 8, by omega⟩
        obtain ⟨g1, k1, k2, k3⟩ := c40n X E c s hX (t + 2) h.1
        have h1 := CI_nx h k2 k3
        have hr := h.2.1.2.2.2.1
        obtain ⟨g3, j1, j2, j3, j4, j5, j6, j7, j8, j9, j10⟩ := a5 (t + 8) E c s r g1 tx x2 (cl tx j) (by omega) hcl h1
        have e : Call prog clsT X (t + 8) 52 [(2, 9), (0, ((cl tx j : Nat) : Int)), (0, if tx = 2 then 1 else 0)] (mk E c s (hh g)) = some ((0, ((cl tx j : Nat) : Int)), mk E c s (hh g1)) := by
          rw [rc52_, rvD E c s h.2.1, h.2.1.2.2.1, call0 (c66 X E c s h.2.1.1 h.2.1.2.1 (t + 6) (cl tx j) hcl), push0, r52_4, cmp_eq, bI_eq0, if_pos (fun z => z (hlc r g hc)), r52_8, call3 k1, push3, r52_10, cmp_eq, if_pos (if_neg ht2), r52_15]
        refine ⟨g3, ?_, j2, HC_tail (HC_C hc hr k3) hj h1.2.1.2.2.2.2.1 j4 j5 j6 j7 j8 j9 j10, frL_tr (frL_C k3) j3⟩
        show (Call prog clsT X (t + 8) 52 _ _).bind _ = _
        rw [call0 e, push0, j1]
      · obtain ⟨g1, k1, k2, k3⟩ := m167x X E c s (t + 5) h.1
        have h1 := MI_nx h k2 k3
        obtain ⟨g3, p1, p2, p3, p4, p5, p6, p7, p8, p9, p10⟩ := m175t E c s a6 a2 h1 (t + 1) j hj9
        refine ⟨g3, ?_, p2, HM_tail (HM_M hm k3) h1.2.1 p4 p5 p6 p7 p8 p9 p10, frR_tr (frR_M k3) p3⟩
        show Call prog clsT X (t + 8) 173 _ _ = _
        rw [rc173_, w108 j hj9, inb_is, if_pos (by omega), Int.toNat_natCast, hlm g hm, cmp_eq, if_pos rfl, call3 k1, push3, r173_13, cmp_eq, if_pos (if_neg ht2), call0 p1, push0, r173_22, if_pos ⟨rfl, rfl⟩]
end HEADS2
