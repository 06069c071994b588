/-! Part 9g: what is wanted; which sort a line is. -/
section WANTS
variable {X : MExt} {T : Nat → Int} {L : Nat}
theorem HC_W {tx r : Nat} {a : Sm} {w k : Int} {g g' : Gm} (h : HC tx a r g) (hr : 159 ≤ r) (e0 : g' r 0 = w) (e1 : g' r 1 = k) (e : ∀ x i, ¬ zC x i → ¬ (x = r ∧ i ≤ 1) → g' x i = g x i) : HC tx (adW a w k) r g' := by
  obtain ⟨h1, h2, h3, h4, h5⟩ := h
  exact ⟨e0, e1, by rw [e r 2 (by unfold zC; omega) (by omega)]; exact h3, fun i hi => by rw [e (r + 1) i (by unfold zC; omega) (by omega)]; exact h4 i hi, fun j hj => lnC_eq (h5 j hj) (e _ _ (by unfold zC; omega) (by omega)) (e _ _ (by unfold zC; omega) (by omega)) (fun i => e _ _ (by unfold zC; omega) (by omega)) (e _ _ (by unfold zC; omega) (by omega))⟩
theorem HM_W {a : Sm} {w k : Int} {g g' : Gm} (h : HM a g) (e0 : g' 107 12 = w) (e1 : g' 108 12 = k) (e : ∀ x i, ¬ zM x i → ¬ ((x = 107 ∨ x = 108) ∧ i = 12) → g' x i = g x i) : HM (adW a w k) g' := by
  obtain ⟨h1, h2, h3, h4, h5⟩ := h
  exact ⟨e0, e1, by rw [e 109 12 (by unfold zM; omega) (by omega)]; exact h3, fun i hi => by rw [e 111 _ (by unfold zM; omega) (by omega)]; exact h4 i hi, fun j hj => lnM_eq (h5 j hj) (e _ _ (by unfold zM; omega) (by omega)) (e _ _ (by unfold zM; omega) (by omega)) (e _ _ (by unfold zM; omega) (by omega)) (fun i => e _ _ (by unfold zM; omega) (by omega)) (e _ _ (by unfold zM; omega) (by omega))⟩
theorem line_want (hX : XT X) {tx n : Nat} {a : Sm} (x2 : Int) (hn : n < L) (hS : SG tx a) : OUT T L tx n a (cWant X tx x2) (mWant X) := by
  have hb := nxt_bd (T := T) (L := L) (b := n) (by omega)
  have hb3 := hb.2.2 hn
  by_cases h0 : a.1 = 0
  case neg =>
    have hpos : 0 < a.1 := by have := hS.1; omega
    refine Or.inl ⟨3 + 16 * n, fun t E c s r g ht' h hc => ?_, fun t E c s g h hm => ?_⟩
    · obtain ⟨t, rfl⟩ : ∃ t', t = t' + 8 := ⟨t - 8, by omega⟩
      obtain ⟨g1, k1, k2, k3, _⟩ := c46x (X := X) E c s h (t + 6) 3 (by omega)
      obtain ⟨g2, j1, j2, j3⟩ := f_want7 (X := X) E c s k2 (t + 5)
      refine ⟨g2, ?_, j2, frL_tr k3 j3⟩
      have e : Call prog clsT X (t + 8) 47 [(2, 9)] (mk E c s (hh g)) = some ((3, 0), mk E c s (hh g2)) := by
        rw [rc47_, h.2.1.2.2.1, fg_0 E c s h.2.1.1.1, hc.1, cmp_le, if_neg (by omega), call3 k1, push3, j1]
      show (Call prog clsT X (t + 8) 47 _ _).bind _ = _
      rw [call3 e, push3, r43_23, f_end E c s j2 (t + 1)]
    · refine ⟨fM g n 3, ?_, up_same, frR_Q (lo := 0) (lo' := 0) (fM_fr g n 3)⟩
      show Call prog clsT X (t + 9) 184 _ _ = _
      rw [rc184_, hm.1, cmp_le, if_neg (by omega), call0 (m172t X E c s h.1 (t + 7) 3 (by omega)), push0, r184_8, if_pos ⟨rfl, one_z⟩]
  have hC : ∀ t E c s r g, CI T L (plan tx) E r n g → HC tx a r g → ∃ g1, CI T L (plan tx) E r (nxt T L n) g1 ∧ (∀ x i, ¬ zC x i → g1 x i = g x i) ∧ Call prog clsT X (t + 10) 47 [(2, 9)] (mk E c s (hh g)) = Ev prog clsT X (t + 9) mc47 9 [(2, 9)] [] (mk E c s (hh g1)) := by
    intro t E c s r g h hc
    obtain ⟨g1, k1, k2, k3⟩ := c40n X E c s hX (t + 4) h.1
    refine ⟨g1, CI_nx h k2 k3, k3, ?_⟩
    rw [rc47_, h.2.1.2.2.1, fg_0 E c s h.2.1.1.1, hc.1, cmp_le, if_pos (by omega), r47_7, call3 k1, push3]
  have hM : ∀ t E c s g, MI T L (plan tx) n g → HM a g → ∃ g1, MI T L (plan tx) (nxt T L n) g1 ∧ (∀ x i, ¬ zM x i → g1 x i = g x i) ∧ Call prog clsT X (t + 9) 184 [(2, 89)] (mk E c s (hh g)) = Ev prog clsT X (t + 8) mc184 11 [(2, 89)] [] (mk E c s (hh g1)) := by
    intro t E c s g h hm
    obtain ⟨g1, k1, k2, k3⟩ := m167x X E c s (t + 6) h.1
    refine ⟨g1, MI_nx h k2 k3, k3, ?_⟩
    rw [rc184_, hm.1, cmp_le, if_pos (by omega), call3 k1, push3]
  by_cases hnum : tokT T L (nxt T L n) = 2 ∧ 1 ≤ tnum T L (nxt T L n) ∧ tnum T L (nxt T L n) ≤ 8
  case neg =>
    refine Or.inl ⟨(if tokT T L (nxt T L n) = 2 then 4 else 1) + 16 * (nxt T L n : Nat), fun t E c s r g ht' h hc => ?_, fun t E c s g h hm => ?_⟩
    · obtain ⟨t, rfl⟩ : ∃ t', t = t' + 10 := ⟨t - 10, by omega⟩
      obtain ⟨g1, h1, k3, k4⟩ := hC t E c s r g h hc
      obtain ⟨v, g2, l1, l2, l3, _⟩ := c48n (X := X) E c s h1 (t + 3) 1 8 hnum
      obtain ⟨g3, j1, j2, j3⟩ := f_want15 (X := X) E c s l2 (t + 7) v
      refine ⟨g3, ?_, j2, frL_tr (frL_tr (frL_C k3) l3) j3⟩
      have e : Call prog clsT X (t + 10) 47 [(2, 9)] (mk E c s (hh g)) = some ((3, 0), mk E c s (hh g3)) := by
        have e2 : g1 9 2 = g2 9 2 := by rw [h1.2.1.2.2.1, l2.1.2.2.1]
        rw [k4, r47_9, call0 l1, push0, e2, j1]
      show (Call prog clsT X (t + 10) 47 _ _).bind _ = _
      rw [call3 e, push3, r43_23, f_end E c s j2 (t + 3)]
    · obtain ⟨g1, h1, k3, k4⟩ := hM t E c s g h hm
      by_cases z : tokT T L (nxt T L n) = 2
      · refine ⟨fM g1 (nxt T L n) 4, ?_, by rw [if_pos z]; exact up_same, frR_tr (frR_M k3) (frR_Q (lo := 0) (lo' := 0) (fM_fr g1 _ 4))⟩
        show Call prog clsT X (t + 9) 184 _ _ = _
        rw [k4, r184_11, cmp_eq, h1.1.2.2.2.2.2.2.1, if_pos z, h1.1.2.2.2.2.2.2.2.1 z, cmp_lt]
        by_cases z1 : tnum T L (nxt T L n) < 1
        · rw [if_pos z1, call0 (m172t X E c s h1.1 (t + 7) 4 (by omega)), push0, r184_30, if_pos ⟨rfl, one_z⟩]
        · have z2 : ¬ (tnum T L (nxt T L n) ≤ 8) := fun q => hnum ⟨z, by omega, q⟩
          rw [if_neg z1, cmp_le, if_neg z2, call0 (m172t X E c s h1.1 (t + 7) 4 (by omega)), push0, r184_30, if_pos ⟨rfl, one_z⟩]
      · refine ⟨fM g1 (nxt T L n) 1, ?_, by rw [if_neg z]; exact up_same, frR_tr (frR_M k3) (frR_Q (lo := 0) (lo' := 0) (fM_fr g1 _ 1))⟩
        show Call prog clsT X (t + 9) 184 _ _ = _
        rw [k4, r184_11, cmp_eq, h1.1.2.2.2.2.2.2.1, if_neg z, call0 (m172t X E c s h1.1 (t + 7) 1 (by omega)), push0, r184_18, if_pos ⟨rfl, one_z⟩]
  have hlt1 : nxt T L n < L := tokT_lt hb.2.1 (by rw [hnum.1]; decide)
  have hb1 := nxt_bd (T := T) (L := L) (b := nxt T L n) hb.2.1
  have hb13 := hb1.2.2 hlt1
  -- past the first number
  have hC2 : ∀ t E c s r g, CI T L (plan tx) E r n g → HC tx a r g → ∃ g2, CI T L (plan tx) E r (nxt T L (nxt T L n)) g2 ∧ frL r g g2 ∧ g2 r 0 = tnum T L (nxt T L n) ∧ (∀ x i, ¬ zC x i → ¬ (x = r ∧ i ≤ 1) → g2 x i = g x i) ∧ ∀ M, Call prog clsT X (t + 9) 49 [(2, 9), (2, -14)] (mk E c s (hh g2)) = some ((3, 0), M) → Call prog clsT X (t + 10) 47 [(2, 9)] (mk E c s (hh g)) = Ev prog clsT X (t + 9) mc47 19 [(2, 9)] [] M := by
    intro t E c s r g h hc
    obtain ⟨g1, h1, k3, k4⟩ := hC t E c s r g h hc
    obtain ⟨g2, l1, l2, l3⟩ := c48t E c s hX h1 (t + 3) 1 8 hnum.1 hnum.2
    have s1 : slot r r 0 := Or.inl (by omega)
    refine ⟨up g2 r 0 (tnum T L (nxt T L n)), CI_up l2 s1, frL_up (frL_tr (frL_C k3) (frL_C l3)) (slot_z s1), up_same, fun x i q1 q2 => ?_, fun M hM => ?_⟩
    · rw [up_ne (by omega), l3 x i q1, k3 x i q1]
    · rw [k4, r47_9, call0 l1, push0, r47_15, h1.2.1.2.2.1, fp_0 E c s l2.2.1.1.1, if_pos ⟨rfl, R9_6⟩, call3 hM, push3]
  have hM2 : ∀ t E c s g, MI T L (plan tx) n g → HM a g → ∃ g2, MI T L (plan tx) (nxt T L (nxt T L n)) g2 ∧ frR g g2 ∧ g2 107 12 = tnum T L (nxt T L n) ∧ (∀ x i, ¬ zM x i → ¬ ((x = 107 ∨ x = 108) ∧ i = 12) → g2 x i = g x i) ∧ Call prog clsT X (t + 9) 184 [(2, 89)] (mk E c s (hh g)) = Ev prog clsT X (t + 8) mc184 39 [(2, 89)] [] (mk E c s (hh g2)) := by
    intro t E c s g h hm
    obtain ⟨g1, h1, k3, k4⟩ := hM t E c s g h hm
    have s1 : slM 107 12 := Or.inl (by omega)
    have h1' : MI T L (plan tx) (nxt T L n) (up g1 107 12 (tnum T L (nxt T L n))) := MI_up h1 s1
    obtain ⟨g2, l1, l2, l3⟩ := m167x X E c s (t + 6) h1'.1
    refine ⟨g2, MI_nx h1' l2 l3, frR_tr (frR_up (frR_M k3) s1) (frR_M l3), ?_, fun x i q1 q2 => ?_, ?_⟩
    · rw [l3 107 12 (by unfold zM; omega)]; exact up_same
    · rw [l3 x i q1, up_ne (by omega), k3 x i q1]
    · rw [k4, r184_11, cmp_eq, h1.1.2.2.2.2.2.2.1, if_pos hnum.1, h1.1.2.2.2.2.2.2.2.1 hnum.1, cmp_lt, if_neg (by omega), cmp_le, if_pos hnum.2.2, call3 l1, push3]
  generalize hn2 : nxt T L (nxt T L n) = n2 at hC2 hM2 hb1 hb13
  by_cases hw : wd T L n2 lKind
  case neg =>
    refine Or.inl ⟨1 + 16 * (n2 : Nat), fun t E c s r g ht' h hc => ?_, fun t E c s g h hm => ?_⟩
    · obtain ⟨t, rfl⟩ : ∃ t', t = t' + 10 := ⟨t - 10, by omega⟩
      obtain ⟨g2, l1, l2, l3, l5, l4⟩ := hC2 t E c s r g h hc
      obtain ⟨g3, p1, p2, p3, _⟩ := c49n E c s hX.2.2.2.2.1 l1 (t + 2) hw
      obtain ⟨g4, j1, j2, j3⟩ := f_want19 (X := X) E c s p2 (t + 7)
      refine ⟨g4, ?_, j2, frL_tr (frL_tr l2 p3) j3⟩
      have e : Call prog clsT X (t + 10) 47 [(2, 9)] (mk E c s (hh g)) = some ((3, 0), mk E c s (hh g4)) := by
        rw [l4 _ p1, j1]
      show (Call prog clsT X (t + 10) 47 _ _).bind _ = _
      rw [call3 e, push3, r43_23, f_end E c s j2 (t + 3)]
    · obtain ⟨g2, l1, l2, l3, l5, l4⟩ := hM2 t E c s g h hm
      refine ⟨fM g2 n2 1, ?_, up_same, frR_tr l2 (frR_Q (lo := 0) (lo' := 0) (fM_fr g2 _ 1))⟩
      show Call prog clsT X (t + 9) 184 _ _ = _
      rw [l4, r184_39, call0 (w_kind E c s (t + 7) l1.1), push0, r184_42, cmp_ne, bI_ne0, if_neg (fun z => z hw), call0 (m172t X E c s l1.1 (t + 7) 1 (by omega)), push0, r184_46, if_pos ⟨rfl, one_z⟩]
  have hlt2 : n2 < L := tokT_lt hb1.2.1 (by rw [hw.1]; decide)
  have hb2 := nxt_bd (T := T) (L := L) (b := n2) hb1.2.1
  have hb23 := hb2.2.2 hlt2
  have hC3 : ∀ t E c s r g, CI T L (plan tx) E r n g → HC tx a r g → ∃ g2, CI T L (plan tx) E r (nxt T L n2) g2 ∧ frL r g g2 ∧ g2 r 0 = tnum T L (nxt T L n) ∧ (∀ x i, ¬ zC x i → ¬ (x = r ∧ i ≤ 1) → g2 x i = g x i) ∧ Call prog clsT X (t + 10) 47 [(2, 9)] (mk E c s (hh g)) = Ev prog clsT X (t + 9) mc47 19 [(2, 9)] [] (mk E c s (hh g2)) := by
    intro t E c s r g h hc
    have hr := h.2.1.2.2.2.1
    obtain ⟨g2, l1, l2, l3, l5, l4⟩ := hC2 t E c s r g h hc
    obtain ⟨g3, p1, p2, p3⟩ := c49t E c s hX hX.2.2.2.2.1 l1 (t + 2) hw
    exact ⟨g3, p2, frL_tr l2 (frL_C p3), by rw [p3 r 0 (by unfold zC; omega)]; exact l3, fun x i q1 q2 => by rw [p3 x i q1, l5 x i q1 q2], l4 _ p1⟩
  have hM3 : ∀ t E c s g, MI T L (plan tx) n g → HM a g → ∃ g2, MI T L (plan tx) (nxt T L n2) g2 ∧ frR g g2 ∧ g2 107 12 = tnum T L (nxt T L n) ∧ (∀ x i, ¬ zM x i → ¬ ((x = 107 ∨ x = 108) ∧ i = 12) → g2 x i = g x i) ∧ Call prog clsT X (t + 9) 184 [(2, 89)] (mk E c s (hh g)) = Ev prog clsT X (t + 8) mc184 49 [(2, 89)] [] (mk E c s (hh g2)) := by
    intro t E c s g h hm
    obtain ⟨g2, l1, l2, l3, l5, l4⟩ := hM2 t E c s g h hm
    obtain ⟨g3, p1, p2, p3⟩ := m167x X E c s (t + 6) l1.1
    refine ⟨g3, MI_nx l1 p2 p3, frR_tr l2 (frR_M p3), by rw [p3 107 12 (by unfold zM; omega)]; exact l3, fun x i q1 q2 => by rw [p3 x i q1, l5 x i q1 q2], ?_⟩
    rw [l4, r184_39, call0 (w_kind E c s (t + 7) l1.1), push0, r184_42, cmp_ne, bI_ne0, if_pos (fun z => z hw), call3 p1, push3]
  generalize hn3 : nxt T L n2 = n3 at hC3 hM3 hb2 hb23
  by_cases hnum2 : tokT T L n3 = 2 ∧ 0 ≤ tnum T L n3 ∧ tnum T L n3 ≤ 9
  case neg =>
    refine Or.inl ⟨(if tokT T L n3 = 2 then 4 else 1) + 16 * (n3 : Nat), fun t E c s r g ht' h hc => ?_, fun t E c s g h hm => ?_⟩
    · obtain ⟨t, rfl⟩ : ∃ t', t = t' + 10 := ⟨t - 10, by omega⟩
      obtain ⟨g2, l1, l2, l3, l5, l4⟩ := hC3 t E c s r g h hc
      obtain ⟨v, g3, p1, p2, p3, _⟩ := c48n (X := X) E c s l1 (t + 3) 0 9 hnum2
      have s1 : slot r r 1 := Or.inl (by omega)
      have hf := FX_up (v := v) p2 s1
      refine ⟨up g3 r 1 v, ?_, hf, frL_up (frL_tr l2 p3) (slot_z s1)⟩
      have e : Call prog clsT X (t + 10) 47 [(2, 9)] (mk E c s (hh g)) = some ((3, 0), mk E c s (hh (up g3 r 1 v))) := by
        rw [l4, r47_19, call0 p1, push0, r47_25, l1.2.1.2.2.1, fp_1 E c s p2.1.1.1]
      show (Call prog clsT X (t + 10) 47 _ _).bind _ = _
      rw [call3 e, push3, r43_23, f_end E c s hf (t + 3)]
    · obtain ⟨g2, l1, l2, l3, l5, l4⟩ := hM3 t E c s g h hm
      by_cases z : tokT T L n3 = 2
      · have z2 : ¬ (tnum T L n3 ≤ 9) := fun q => hnum2 ⟨z, (tnum_bd z).1, q⟩
        refine ⟨fM g2 n3 4, ?_, by rw [if_pos z]; exact up_same, frR_tr l2 (frR_Q (lo := 0) (lo' := 0) (fM_fr g2 _ 4))⟩
        show Call prog clsT X (t + 9) 184 _ _ = _
        rw [l4, r184_49, cmp_eq, l1.1.2.2.2.2.2.2.1, if_pos z, l1.1.2.2.2.2.2.2.2.1 z, cmp_le, if_neg z2, call0 (m172t X E c s l1.1 (t + 7) 4 (by omega)), push0, r184_64, if_pos ⟨rfl, one_z⟩]
      · refine ⟨fM g2 n3 1, ?_, by rw [if_neg z]; exact up_same, frR_tr l2 (frR_Q (lo := 0) (lo' := 0) (fM_fr g2 _ 1))⟩
        show Call prog clsT X (t + 9) 184 _ _ = _
        rw [l4, r184_49, cmp_eq, l1.1.2.2.2.2.2.2.1, if_neg z, call0 (m172t X E c s l1.1 (t + 7) 1 (by omega)), push0, r184_56, if_pos ⟨rfl, one_z⟩]
  have hlt3 : n3 < L := tokT_lt hb2.2.1 (by rw [hnum2.1]; decide)
  have hb4 := nxt_bd (T := T) (L := L) (b := n3) hb2.2.1
  have hb43 := hb4.2.2 hlt3
  have hC4 : ∀ t E c s r g, CI T L (plan tx) E r n g → HC tx a r g → ∃ g2, CI T L (plan tx) E r (nxt T L n3) g2 ∧ frL r g g2 ∧ HC tx (adW a (tnum T L (nxt T L n)) (tnum T L n3)) r g2 ∧ Call prog clsT X (t + 10) 47 [(2, 9)] (mk E c s (hh g)) = some ((3, 0), mk E c s (hh g2)) := by
    intro t E c s r g h hc
    have hr := h.2.1.2.2.2.1
    obtain ⟨g2, l1, l2, l3, l5, l4⟩ := hC3 t E c s r g h hc
    obtain ⟨g3, p1, p2, p3⟩ := c48t E c s hX l1 (t + 3) 0 9 hnum2.1 hnum2.2
    have s1 : slot r r 1 := Or.inl (by omega)
    refine ⟨up g3 r 1 (tnum T L n3), CI_up p2 s1, frL_up (frL_tr l2 (frL_C p3)) (slot_z s1), HC_W hc hr ?_ up_same (fun x i q1 q2 => ?_), ?_⟩
    · rw [up_ne (by omega), p3 r 0 (by unfold zC; omega)]; exact l3
    · rw [up_ne (by omega), p3 x i q1, l5 x i q1 q2]
    · rw [l4, r47_19, call0 p1, push0, r47_25, l1.2.1.2.2.1, fp_1 E c s p2.2.1.1.1]
  have hM4 : ∀ t E c s g, MI T L (plan tx) n g → HM a g → ∃ g2, MI T L (plan tx) (nxt T L n3) g2 ∧ frR g g2 ∧ HM (adW a (tnum T L (nxt T L n)) (tnum T L n3)) g2 ∧ Call prog clsT X (t + 9) 184 [(2, 89)] (mk E c s (hh g)) = Ev prog clsT X (t + 8) mc184 73 [(2, 89)] [] (mk E c s (hh g2)) := by
    intro t E c s g h hm
    obtain ⟨g2, l1, l2, l3, l5, l4⟩ := hM3 t E c s g h hm
    have s1 : slM 108 12 := Or.inl (by omega)
    have h1' : MI T L (plan tx) n3 (up g2 108 12 (tnum T L n3)) := MI_up l1 s1
    obtain ⟨g3, p1, p2, p3⟩ := m167x X E c s (t + 6) h1'.1
    refine ⟨g3, MI_nx h1' p2 p3, frR_tr (frR_up l2 s1) (frR_M p3), HM_W hm ?_ ?_ (fun x i q1 q2 => ?_), ?_⟩
    · rw [p3 107 12 (by unfold zM; omega), up_ne (by omega)]; exact l3
    · rw [p3 108 12 (by unfold zM; omega)]; exact up_same
    · rw [p3 x i q1, up_ne (by omega), l5 x i q1 q2]
    · rw [l4, r184_49, cmp_eq, l1.1.2.2.2.2.2.2.1, if_pos hnum2.1, l1.1.2.2.2.2.2.2.2.1 hnum2.1, cmp_le, if_pos hnum2.2.2, call3 p1, push3]
  generalize hn4 : nxt T L n3 = n4 at hC4 hM4 hb4 hb43
  by_cases hz : sg T L n4 59
  · have hlt4 : n4 < L := tokT_lt hb4.2.1 (by rw [hz.1]; decide)
    have hb5 := nxt_bd (T := T) (L := L) (b := n4) hb4.2.1
    have hb53 := hb5.2.2 hlt4
    refine Or.inr ⟨nxt T L n4, adW a (tnum T L (nxt T L n)) (tnum T L n3), by omega, hb5.2.1, ?_, fun t E c s r g ht' h hc => ?_, fun t E c s g h hm => ?_⟩
    · obtain ⟨h1, h2, h3, h4, h5⟩ := hS
      exact ⟨by show 0 ≤ tnum T L (nxt T L n); omega, hnum.2.2, fun q => by have q : tnum T L (nxt T L n) = 0 := q; omega, fun _ => hnum2.2, h5⟩
    · obtain ⟨t, rfl⟩ : ∃ t', t = t' + 10 := ⟨t - 10, by omega⟩
      have hr := h.2.1.2.2.2.1
      obtain ⟨g2, l1, l2, l3, l4⟩ := hC4 t E c s r g h hc
      obtain ⟨g3, p1, p2⟩ := c59t E c s hX l1 (t + 4) 59 hz
      refine ⟨g3, ?_, CI_of l1 p2 (by show n4 + 0 ≤ _; omega), ?_, frL_tr l2 (frL_E p2.2.1)⟩
      · show (Call prog clsT X (t + 10) 47 _ _).bind _ = _
        rw [call3 l4, push3, r43_23, r43_53, call3 p1, push3, r43_56]
      · obtain ⟨q1, q2, q3, q4, q5⟩ := l3
        have f := p2.2.1
        have e7 : g3 r 7 = g2 r 7 := by rw [p2.2.2.2]; show _ + ((0 : Nat) : Int) = _; omega
        refine ⟨by rw [f r 0 (by unfold zE; omega)]; exact q1, by rw [f r 1 (by unfold zE; omega)]; exact q2, by rw [f r 2 (by unfold zE; omega)]; exact q3, fun i hi => by rw [f (r + 1) i (by unfold zE; omega)]; exact q4 i hi, fun j hj => ?_⟩
        exact lnC_keep (q5 j hj) l1.2.1.2.2.2.2.1 (f _ _ (by unfold zE; omega)) (f _ _ (by unfold zE; omega)) p2.2.2.1 p2.2.2.2
    · obtain ⟨g2, l1, l2, l3, l4⟩ := hM4 t E c s g h hm
      obtain ⟨g3, p1, p2, p3⟩ := m167x X E c s (t + 6) l1.1
      refine ⟨g3, ?_, MI_nx l1 p2 p3, HM_M l3 p3, frR_tr l2 (frR_M p3)⟩
      show Call prog clsT X (t + 9) 184 _ _ = _
      rw [l4, r184_73, call0 (m180t X E c s (t + 7) l1.1 59), push0, r184_76, cmp_ne, bI_ne0, if_pos (fun z => z hz), call3 p1, push3, r184_83]
  · refine Or.inl ⟨1 + 16 * (n4 : Nat), fun t E c s r g ht' h hc => ?_, fun t E c s g h hm => ?_⟩
    · obtain ⟨t, rfl⟩ : ∃ t', t = t' + 10 := ⟨t - 10, by omega⟩
      obtain ⟨g2, l1, l2, l3, l4⟩ := hC4 t E c s r g h hc
      obtain ⟨g3, p1, p2, p3, p4⟩ := c59n E c s hX l1 (t + 4) 59 hz
      have h7 := CI_7 l1 p4
      refine ⟨g3, ?_, ⟨DR_fr l1.2.1 p3 h7.1 h7.2, p2⟩, frL_tr l2 (frL_E p3)⟩
      show (Call prog clsT X (t + 10) 47 _ _).bind _ = _
      rw [call3 l4, push3, r43_23, r43_53, call3 p1, push3, r43_56]
    · obtain ⟨g2, l1, l2, l3, l4⟩ := hM4 t E c s g h hm
      refine ⟨fM g2 n4 1, ?_, up_same, frR_tr l2 (frR_Q (lo := 0) (lo' := 0) (fM_fr g2 _ 1))⟩
      show Call prog clsT X (t + 9) 184 _ _ = _
      rw [l4, r184_73, call0 (m180t X E c s (t + 7) l1.1 59), push0, r184_76, cmp_ne, bI_ne0, if_neg (fun z => z hz), call0 (m172t X E c s l1.1 (t + 7) 1 (by omega)), push0, r184_80, if_pos ⟨rfl, one_z⟩]
end WANTS
