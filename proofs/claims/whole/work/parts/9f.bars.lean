/-! Part 9f: bars, and what is wanted. -/
section BARS
variable {X : MExt} {T : Nat → Int} {L : Nat}
noncomputable def cBar (X : MExt) (tx : Nat) (x2 : Int) (t : Nat) : CF := fun E c s g => (Call prog clsT X t 51 [(2, 9)] (mk E c s (hh g))).bind fun r4 => if r4.1.1 = 4 then none else Ev prog clsT X t mc43 29 [(2, 9), (0, (tx : Int)), (0, x2), (3, 0)] (pushR r4.1 []) r4.2
noncomputable def mBar (X : MExt) (t : Nat) : CF := fun E c s g => Call prog clsT X (t + 9) 183 [(2, 89)] (mk E c s (hh g))
noncomputable def cWant (X : MExt) (tx : Nat) (x2 : Int) (t : Nat) : CF := fun E c s g => (Call prog clsT X t 47 [(2, 9)] (mk E c s (hh g))).bind fun r4 => if r4.1.1 = 4 then none else Ev prog clsT X t mc43 23 [(2, 9), (0, (tx : Int)), (0, x2), (3, 0)] (pushR r4.1 []) r4.2
noncomputable def mWant (X : MExt) (t : Nat) : CF := fun E c s g => Call prog clsT X (t + 9) 184 [(2, 89)] (mk E c s (hh g))
def wrB (g : Gm) (r nb : Nat) (v : Int) : Gm := up (up g (r + 1) nb v) r 2 ((nb + 1 : Nat) : Int)
theorem k51 (E : List (Nat × Nat)) (c s : Nat) {g : Gm} {r nb : Nat} (hd : DR E L r g) (h2 : g r 2 = nb) (hn : nb < 6) (t : Nat) (v : Int) : Ev prog clsT X t mc51 22 [(2, 9), (0, (nb : Int))] [(0, v), (0, (nb : Int)), (2, ((r + 1 : Nat) : Int))] (mk E c s (hh g)) = (Call prog clsT X t 49 [(2, 9), (2, -15)] (mk E c s (hh (wrB g r nb v)))).bind fun r5 => if r5.1.1 = 4 then none else Ev prog clsT X t mc51 33 [(2, 9), (0, (nb : Int))] (pushR r5.1 []) r5.2 := by
  have s1 : slot r (r + 1) nb := Or.inr (by omega)
  have hd1 : DR E L r (up g (r + 1) nb v) := DR_up hd s1
  have e2 : up g (r + 1) nb v r 2 = nb := by rw [up_ne (by omega)]; exact h2
  rw [r51_22, apR E c s hd.1.2.1, if_pos (by omega), Int.toNat_natCast, F2570_9, hd1.2.2.1, fg_2 E c s hd1.1.1, e2, fp_2 E c s hd1.1.1, w32_succ (by omega), if_pos ⟨rfl, R9_6⟩]
  rfl
theorem wrB_CI {E : List (Nat × Nat)} {r n nb : Nat} {v : Int} {pl : Bool} {g : Gm} (h : CI T L pl E r n g) : CI T L pl E r n (wrB g r nb v) := CI_up (CI_up h (Or.inr (by omega))) (Or.inl (by omega))
theorem wrB_FX {E : List (Nat × Nat)} {r nb : Nat} {v fl : Int} {g : Gm} (h : FX E L r fl g) : FX E L r fl (wrB g r nb v) := FX_up (FX_up h (Or.inr (by omega))) (Or.inl (by omega))
theorem wrB_fr {r nb : Nat} {v : Int} {g : Gm} : frL r g (wrB g r nb v) := frL_up (frL_up (frL_refl _ _) (slot_z (Or.inr (by omega)))) (slot_z (Or.inl (by omega)))
theorem HC_wrB {tx r : Nat} {a : Sm} {v : Int} {g : Gm} (h : HC tx a r g) : HC tx (a.1, a.2.1, a.2.2.1 + 1, fu a.2.2.2.1 a.2.2.1 v, a.2.2.2.2) r (wrB g r a.2.2.1 v) := by
  obtain ⟨h1, h2, h3, h4, h5⟩ := h
  unfold wrB
  refine ⟨by rw [up_ne (by omega), up_ne (by omega)]; exact h1, by rw [up_ne (by omega), up_ne (by omega)]; exact h2, up_same, fun i hi => ?_, fun j hj => lnC_eq (h5 j hj) (by rw [up_ne (by omega), up_ne (by omega)]) (by rw [up_ne (by omega), up_ne (by omega)]) (fun i => by rw [up_ne (by omega), up_ne (by omega)]) (by rw [up_ne (by omega), up_ne (by omega)])⟩
  have hi : i < a.2.2.1 + 1 := hi
  show up (up g (r + 1) a.2.2.1 v) r 2 _ (r + 1) i = fu a.2.2.2.1 a.2.2.1 v i
  rw [up_ne (by omega), up_at]
  by_cases q : i = a.2.2.1
  · rw [if_pos q, q, fu_s]
  · rw [if_neg q, fu_n _ _ q]; exact h4 i (by omega)
theorem SG_B {tx : Nat} {a : Sm} {v : Int} {P Q : List Int} (h : SG tx a) (ht : tx ≠ 2) (hn : a.2.2.1 < 6) (hv : 0 ≤ v ∧ v ≤ 99) (hs : semE (plan tx) 0 P Q) : SG tx (adB a v P Q) := by
  obtain ⟨h1, h2, h3, h4, h5, h6, h7, h8⟩ := h
  refine ⟨h1, h2, h3, h4, by show a.2.2.1 + 1 ≤ 6; omega, fun i hi => ?_, fun q => absurd q ht, fun i hi => ?_⟩
  · have hi : i < a.2.2.1 + 1 := hi
    show fu a.2.2.2.2.1 a.2.2.1 true i = true ∧ 0 ≤ fu a.2.2.2.1 a.2.2.1 v i ∧ fu a.2.2.2.1 a.2.2.1 v i ≤ 99
    by_cases q : i = a.2.2.1
    · rw [q, fu_s, fu_s]; exact ⟨rfl, hv⟩
    · rw [fu_n _ _ q, fu_n _ _ q]; exact h6 i (by omega)
  · show semE (plan tx) 0 (fu a.2.2.2.2.2.1 a.2.2.1 P i) (fu a.2.2.2.2.2.2 a.2.2.1 Q i)
    by_cases q : i = a.2.2.1
    · subst q; rw [fu_s, fu_s]; exact hs
    · rw [fu_n _ _ q, fu_n _ _ q]
      have hi : fu a.2.2.2.2.1 a.2.2.1 true i = true := hi
      rw [fu_n _ _ q] at hi
      exact h8 i hi
theorem HM_B {a : Sm} {v : Int} {P Q : List Int} {g : Gm} (h : HM (adL (a.1, a.2.1, a.2.2.1, fu a.2.2.2.1 a.2.2.1 v, a.2.2.2.2) a.2.2.1 P Q) g) (hv : g 111 (108 + a.2.2.1) = v) : HM (adB a v P Q) (up g 109 12 ((a.2.2.1 + 1 : Nat) : Int)) := by
  obtain ⟨h1, h2, h3, h4, h5⟩ := h
  refine ⟨by rw [up_ne (by omega)]; exact h1, by rw [up_ne (by omega)]; exact h2, up_same, fun i hi => ?_, fun j hj => lnM_eq (h5 j hj) (up_ne (by omega)) (up_ne (by omega)) (up_ne (by omega)) (fun i => up_ne (by omega)) (up_ne (by omega))⟩
  have hi : i < a.2.2.1 + 1 := hi
  rw [up_ne (by omega)]
  show g 111 (108 + i) = fu a.2.2.2.1 a.2.2.1 v i
  by_cases q : i = a.2.2.1
  · rw [q, fu_s]; exact hv
  · exact h4 i (by show i < a.2.2.1; omega)
theorem line_bar (hX : XT X) {tx n : Nat} {a : Sm} (x2 : Int) (hn : n < L) (ht : tx ≠ 2) (hS : SG tx a) : OUT T L tx n a (cBar X tx x2) (mBar X) := by
  have hb := nxt_bd (T := T) (L := L) (b := n) (by omega)
  have hb3 := hb.2.2 hn
  have hnb := hS.2.2.2.2.1
  have hnl : nl tx = 8 := if_neg ht
  have hcl : ∀ j, cl tx j = j := fun j => if_neg ht
  by_cases h6 : a.2.2.1 = 6
  · refine Or.inl ⟨5 + 16 * n, fun t E c s r g ht' h hc => ?_, fun t E c s g h hm => ?_⟩
    · obtain ⟨t, rfl⟩ : ∃ t', t = t' + 7 := ⟨t - 7, by omega⟩
      obtain ⟨g1, k1, k2, k3, _⟩ := c46x (X := X) E c s h (t + 5) 5 (by omega)
      obtain ⟨g2, j1, j2, j3⟩ := f_tail (X := X) E c s k2 t tx x2 (-1) (Or.inl rfl)
      refine ⟨g2, ?_, j2, frL_tr k3 j3⟩
      have e : Call prog clsT X (t + 7) 51 [(2, 9)] (mk E c s (hh g)) = some ((0, -1), mk E c s (hh g1)) := by
        rw [rc51_, h.2.1.2.2.1, fg_2 E c s h.2.1.1.1, hc.2.2.1, cmp_lt, if_neg (by omega), call3 k1, push3, r51_10]
      show (Call prog clsT X (t + 7) 51 _ _).bind _ = _
      rw [call0 e, push0, r43_29, j1]
    · refine ⟨fM g n 5, ?_, up_same, frR_Q (lo := 0) (lo' := 0) (fM_fr g n 5)⟩
      show Call prog clsT X (t + 9) 183 _ _ = _
      rw [rc183_, hm.2.2.1, h6, cmp_ne, if_neg (by decide), call0 (m172t X E c s h.1 (t + 7) 5 (by omega)), push0, r183_9, if_pos ⟨rfl, one_z⟩]
  have h6 : a.2.2.1 < 6 := by omega
  -- what the class does up to its number
  have hC : ∀ t E c s r g, CI T L (plan tx) E r n g → HC tx a r g → ∃ g1, CI T L (plan tx) E r (nxt T L n) g1 ∧ (∀ x i, ¬ zC x i → g1 x i = g x i) ∧ ∀ v M, Call prog clsT X (t + 7) 48 [(2, 9), (0, 0), (0, 99)] (mk E c s (hh g1)) = some ((0, v), M) → Call prog clsT X (t + 8) 51 [(2, 9)] (mk E c s (hh g)) = Ev prog clsT X (t + 7) mc51 22 [(2, 9), (0, (a.2.2.1 : Int))] [(0, v), (0, (a.2.2.1 : Int)), (2, ((r + 1 : Nat) : Int))] M := by
    intro t E c s r g h hc
    obtain ⟨g1, k1, k2, k3⟩ := c40n X E c s hX (t + 2) h.1
    have h1 := CI_nx h k2 k3
    refine ⟨g1, h1, k3, fun v M hv => ?_⟩
    rw [rc51_, h.2.1.2.2.1, fg_2 E c s h.2.1.1.1, hc.2.2.1, cmp_lt, if_pos (by omega), call3 k1, push3, r51_14, h1.2.1.2.2.1, fg_3 E c s h1.2.1.1.1, h1.2.1.2.1.1, call0 hv, push0]
  have hM : ∀ t E c s g, MI T L (plan tx) n g → HM a g → ∃ g1, MI T L (plan tx) (nxt T L n) g1 ∧ (∀ x i, ¬ zM x i → g1 x i = g x i) ∧ Call prog clsT X (t + 9) 183 [(2, 89)] (mk E c s (hh g)) = Ev prog clsT X (t + 8) mc183 12 [(2, 89)] [] (mk E c s (hh g1)) := by
    intro t E c s g h hm
    obtain ⟨g1, k1, k2, k3⟩ := m167x X E c s (t + 6) h.1
    refine ⟨g1, MI_nx h k2 k3, k3, ?_⟩
    rw [rc183_, hm.2.2.1, cmp_ne, if_pos (by omega), call3 k1, push3]
  by_cases hnum : tokT T L (nxt T L n) = 2 ∧ 0 ≤ tnum T L (nxt T L n) ∧ tnum T L (nxt T L n) ≤ 99
  case neg =>
    refine Or.inl ⟨(if tokT T L (nxt T L n) = 2 then 4 else 1) + 16 * (nxt T L n : Nat), fun t E c s r g ht' h hc => ?_, fun t E c s g h hm => ?_⟩
    · obtain ⟨t, rfl⟩ : ∃ t', t = t' + 8 := ⟨t - 8, by omega⟩
      obtain ⟨g1, h1, k3, k4⟩ := hC t E c s r g h hc
      obtain ⟨v, g2, l1, l2, l3, _⟩ := c48n (X := X) E c s h1 (t + 1) 0 99 hnum
      have e22 : g2 r 2 = (a.2.2.1 : Int) ∧ True := ⟨by
        have hr := h.2.1.2.2.2.1
        obtain ⟨g2', m1, m2, m3, m4⟩ := c46t X E c s h1 (t + 5) (if tokT T L (nxt T L n) = 2 then 4 else 1) (by split <;> omega)
        have q : Call prog clsT X (t + 1 + 6) 48 [(2, 9), (0, 0), (0, 99)] (mk E c s (hh g1)) = some ((0, if tokT T L (nxt T L n) = 2 then tnum T L (nxt T L n) else g1 9 7), mk E c s (hh g2')) := by
          rw [rc48_, cmp_eq, h1.1.2.2.2.2.2.2.2.2.1]
          by_cases z : tokT T L (nxt T L n) = 2
          · rw [if_pos z] at m1
            rw [if_pos z, h1.1.2.2.2.2.2.2.2.2.2 z, call0 (c90 X E c s (t + 5) _ 0 99), push0, r48_15, cmp_ne, bI_ne0, if_neg (fun y => y (fun y2 => hnum ⟨z, y2⟩)), call3 m1, push3, r48_19, call3 (c40g X E c s m2 (t + 5)), push3, r48_21, if_pos z]
          · rw [if_neg z] at m1
            rw [if_neg z, call3 m1, push3, r48_10, r48_19, call3 (c40g X E c s m2 (t + 5)), push3, r48_21, if_neg z]
        have e := l1.symm.trans q
        have e2 : mk E c s (hh g2) = mk E c s (hh g2') := by
          injection e with e; injection e
        have e3 : hh g2 = hh g2' := congrArg (fun M : Mem => M.2.1) e2
        have e4 := congrFun (congrFun e3 r) 2
        rw [hh_nil (ptrs_nil (Or.inr hr)), hh_nil (ptrs_nil (Or.inr hr))] at e4
        rw [e4, m3 r 2 (by unfold zE; omega), k3 r 2 (by unfold zC; omega)]
        exact hc.2.2.1, trivial⟩
      obtain ⟨g4, j1, j2, j3⟩ := f_tail (X := X) E c s (wrB_FX (nb := a.2.2.1) (v := v) l2) (t + 1) tx x2 (a.2.2.1 : Int) (Or.inr (by omega))
      refine ⟨g4, ?_, j2, frL_tr (frL_tr (frL_tr (frL_C k3) l3) wrB_fr) j3⟩
      have e : Call prog clsT X (t + 8) 51 [(2, 9)] (mk E c s (hh g)) = some ((0, (a.2.2.1 : Int)), mk E c s (hh (wrB g2 r a.2.2.1 v))) := by
        rw [k4 v _ l1, k51 E c s l2.1 e22.1 h6, call3 (c49f X E c s (wrB_FX (nb := a.2.2.1) (v := v) l2).2 (t + 5) (-15)), push3, r51_33]
      show (Call prog clsT X (t + 8) 51 _ _).bind _ = _
      rw [call0 e, push0, r43_29, j1]
    · obtain ⟨g1, h1, k3, k4⟩ := hM t E c s g h hm
      by_cases z : tokT T L (nxt T L n) = 2
      · have z2 : ¬ (tnum T L (nxt T L n) ≤ 99) := fun q => hnum ⟨z, (tnum_bd z).1, q⟩
        refine ⟨fM g1 (nxt T L n) 4, ?_, by rw [if_pos z]; exact up_same, frR_tr (frR_M k3) (frR_Q (lo := 0) (lo' := 0) (fM_fr g1 _ 4))⟩
        show Call prog clsT X (t + 9) 183 _ _ = _
        rw [k4, r183_12, cmp_eq, h1.1.2.2.2.2.2.2.1, if_pos z, h1.1.2.2.2.2.2.2.2.1 z, cmp_le, if_neg z2, call0 (m172t X E c s h1.1 (t + 7) 4 (by omega)), push0, r183_27, if_pos ⟨rfl, one_z⟩]
      · refine ⟨fM g1 (nxt T L n) 1, ?_, by rw [if_neg z]; exact up_same, frR_tr (frR_M k3) (frR_Q (lo := 0) (lo' := 0) (fM_fr g1 _ 1))⟩
        show Call prog clsT X (t + 9) 183 _ _ = _
        rw [k4, r183_12, cmp_eq, h1.1.2.2.2.2.2.2.1, if_neg z, call0 (m172t X E c s h1.1 (t + 7) 1 (by omega)), push0, r183_19, if_pos ⟨rfl, one_z⟩]
  have hlt1 : nxt T L n < L := tokT_lt hb.2.1 (by rw [hnum.1]; decide)
  have hb1 := nxt_bd (T := T) (L := L) (b := nxt T L n) hb.2.1
  have hb13 := hb1.2.2 hlt1
  -- past the number
  have hC2 : ∀ t E c s r g, CI T L (plan tx) E r n g → HC tx a r g → ∃ g2, CI T L (plan tx) E r (nxt T L (nxt T L n)) g2 ∧ frL r g g2 ∧ HC tx (a.1, a.2.1, a.2.2.1 + 1, fu a.2.2.2.1 a.2.2.1 (tnum T L (nxt T L n)), a.2.2.2.2) r g2 ∧ ∀ M, Call prog clsT X (t + 7) 49 [(2, 9), (2, -15)] (mk E c s (hh g2)) = some ((3, 0), M) → Call prog clsT X (t + 8) 51 [(2, 9)] (mk E c s (hh g)) = Ev prog clsT X (t + 7) mc51 33 [(2, 9), (0, (a.2.2.1 : Int))] [] M := by
    intro t E c s r g h hc
    have hr := h.2.1.2.2.2.1
    obtain ⟨g1, h1, k3, k4⟩ := hC t E c s r g h hc
    obtain ⟨g2, l1, l2, l3⟩ := c48t E c s hX h1 (t + 1) 0 99 hnum.1 hnum.2
    have hc2 : HC tx a r g2 := HC_C (HC_C hc hr k3) hr l3
    refine ⟨wrB g2 r a.2.2.1 (tnum T L (nxt T L n)), wrB_CI l2, frL_tr (frL_tr (frL_C k3) (frL_C l3)) wrB_fr, HC_wrB hc2, fun M hM => ?_⟩
    rw [k4 _ _ l1, k51 E c s l2.2.1 hc2.2.2.1 h6, call3 hM, push3]
  have hM2 : ∀ t E c s g, MI T L (plan tx) n g → HM a g → ∃ g2, MI T L (plan tx) (nxt T L (nxt T L n)) g2 ∧ frR g g2 ∧ HM (a.1, a.2.1, a.2.2.1, fu a.2.2.2.1 a.2.2.1 (tnum T L (nxt T L n)), a.2.2.2.2) g2 ∧ g2 111 (108 + a.2.2.1) = tnum T L (nxt T L n) ∧ Call prog clsT X (t + 9) 183 [(2, 89)] (mk E c s (hh g)) = Ev prog clsT X (t + 8) mc183 41 [(2, 89)] [] (mk E c s (hh g2)) := by
    intro t E c s g h hm
    obtain ⟨g1, h1, k3, k4⟩ := hM t E c s g h hm
    have s1 : slM 111 (108 + a.2.2.1) := Or.inr (Or.inl (by omega))
    have h1' : MI T L (plan tx) (nxt T L n) (up g1 111 (108 + a.2.2.1) (tnum T L (nxt T L n))) := MI_up h1 s1
    obtain ⟨g2, l1, l2, l3⟩ := m167x X E c s (t + 6) h1'.1
    have hm1 := HM_M hm k3
    have hm1' : HM (a.1, a.2.1, a.2.2.1, fu a.2.2.2.1 a.2.2.1 (tnum T L (nxt T L n)), a.2.2.2.2) (up g1 111 (108 + a.2.2.1) (tnum T L (nxt T L n))) := by
      obtain ⟨q1, q2, q3, q4, q5⟩ := hm1
      refine ⟨by rw [up_ne (by omega)]; exact q1, by rw [up_ne (by omega)]; exact q2, by rw [up_ne (by omega)]; exact q3, fun i hi => ?_, fun j hj => lnM_eq (q5 j hj) (up_ne (by omega)) (up_ne (by omega)) (up_ne (by omega)) (fun i => up_ne (by omega)) (up_ne (by omega))⟩
      have hi : i < a.2.2.1 := hi
      show up g1 111 _ _ 111 (108 + i) = fu a.2.2.2.1 a.2.2.1 _ i
      rw [up_ne (by omega), fu_n _ _ (by omega)]
      exact q4 i hi
    refine ⟨g2, MI_nx h1' l2 l3, frR_tr (frR_up (frR_M k3) s1) (frR_M l3), HM_M hm1' l3, ?_, ?_⟩
    · rw [l3 111 _ (by unfold zM; omega)]; exact up_same
    · rw [k4, r183_12, cmp_eq, h1.1.2.2.2.2.2.2.1, if_pos hnum.1, h1.1.2.2.2.2.2.2.2.1 hnum.1, cmp_le, if_pos hnum.2.2, hm1.2.2.1, w108 _ (by omega), inb_is, if_pos (by omega), Int.toNat_natCast, call3 l1, push3]
  by_cases hw : wd T L (nxt T L (nxt T L n)) lWhen
  case neg =>
    refine Or.inl ⟨1 + 16 * (nxt T L (nxt T L n) : Nat), fun t E c s r g ht' h hc => ?_, fun t E c s g h hm => ?_⟩
    · obtain ⟨t, rfl⟩ : ∃ t', t = t' + 8 := ⟨t - 8, by omega⟩
      obtain ⟨g2, l1, l2, l3, l4⟩ := hC2 t E c s r g h hc
      obtain ⟨g3, p1, p2, p3, _⟩ := c49n E c s hX.2.2.2.2.2.1 l1 t hw
      obtain ⟨g4, j1, j2, j3⟩ := f_tail (X := X) E c s p2 (t + 1) tx x2 (a.2.2.1 : Int) (Or.inr (by omega))
      refine ⟨g4, ?_, j2, frL_tr (frL_tr l2 p3) j3⟩
      have e : Call prog clsT X (t + 8) 51 [(2, 9)] (mk E c s (hh g)) = some ((0, (a.2.2.1 : Int)), mk E c s (hh g3)) := by
        rw [l4 _ p1, r51_33]
      show (Call prog clsT X (t + 8) 51 _ _).bind _ = _
      rw [call0 e, push0, r43_29, j1]
    · obtain ⟨g2, l1, l2, l3, _, l4⟩ := hM2 t E c s g h hm
      obtain ⟨g3, p1, p2, p3⟩ := m174n (X := X) E c s l1 hw (t + 1) (a.2.2.1 : Int)
      refine ⟨g3, ?_, p2, frR_tr l2 p3⟩
      have e12 : g2 109 12 = (a.2.2.1 : Int) := l3.2.2.1
      show Call prog clsT X (t + 9) 183 _ _ = _
      rw [l4, r183_41, e12, call0 p1, push0, r183_47, cmp_ne, if_neg (fun z => z rfl)]
  have hlt2 : nxt T L (nxt T L n) < L := tokT_lt hb1.2.1 (by rw [hw.1]; decide)
  have hb2 := nxt_bd (T := T) (L := L) (b := nxt T L (nxt T L n)) hb1.2.1
  have hb23 := hb2.2.2 hlt2
  rcases t_tail (pl := plan tx) hX hb2.2.1 with ⟨fl, b1, b2⟩ | ⟨m, P, Q, a1, a2, a3, a4, a5, a6⟩
  · refine Or.inl ⟨fl, fun t E c s r g ht' h hc => ?_, fun t E c s g h hm => ?_⟩
    · obtain ⟨t, rfl⟩ : ∃ t', t = t' + 8 := ⟨t - 8, by omega⟩
      obtain ⟨g2, l1, l2, l3, l4⟩ := hC2 t E c s r g h hc
      obtain ⟨g3, p1, p2, p3⟩ := c49t E c s hX hX.2.2.2.2.2.1 l1 t hw
      obtain ⟨g4, j1, j2, j3⟩ := b1 (t + 8) E c s r g3 tx x2 a.2.2.1 (by omega) (by omega) p2
      refine ⟨g4, ?_, j2, frL_tr (frL_tr l2 (frL_C p3)) j3⟩
      have e : Call prog clsT X (t + 8) 51 [(2, 9)] (mk E c s (hh g)) = some ((0, (a.2.2.1 : Int)), mk E c s (hh g3)) := by
        rw [l4 _ p1, r51_33]
      show (Call prog clsT X (t + 8) 51 _ _).bind _ = _
      rw [call0 e, push0, r43_29, j1]
    · obtain ⟨g2, l1, l2, l3, _, l4⟩ := hM2 t E c s g h hm
      obtain ⟨g3, p1, p2, p3⟩ := m174w (X := X) E c s l1 hw
      obtain ⟨g4, q1, q2, q3⟩ := m175b E c s b2 p1 (t + 1) a.2.2.1 (by omega)
      refine ⟨g4, ?_, q2, frR_tr (frR_tr l2 (frR_M p2)) q3⟩
      have e12 : g2 109 12 = (a.2.2.1 : Int) := l3.2.2.1
      show Call prog clsT X (t + 9) 183 _ _ = _
      rw [l4, r183_41, e12, call0 (p3 (t + 1) _ 0 _ rfl q1 E c s g4 rfl), push0, r183_47, cmp_ne, if_neg (fun z => z rfl)]
  · refine Or.inr ⟨m, adB a (tnum T L (nxt T L n)) P Q, by omega, a3, SG_B hS ht h6 hnum.2 a4, fun t E c s r g ht' h hc => ?_, fun t E c s g h hm => ?_⟩
    · obtain ⟨t, rfl⟩ : ∃ t', t = t' + 8 := ⟨t - 8, by omega⟩
      have hr := h.2.1.2.2.2.1
      obtain ⟨g2, l1, l2, l3, l4⟩ := hC2 t E c s r g h hc
      obtain ⟨g3, p1, p2, p3⟩ := c49t E c s hX hX.2.2.2.2.2.1 l1 t hw
      obtain ⟨g4, j1, j2, j3, j4, j5, j6, j7, j8, j9, j10⟩ := a5 (t + 8) E c s r g3 tx x2 a.2.2.1 (by omega) (by omega) p2
      refine ⟨g4, ?_, j2, ?_, frL_tr (frL_tr l2 (frL_C p3)) j3⟩
      · have e : Call prog clsT X (t + 8) 51 [(2, 9)] (mk E c s (hh g)) = some ((0, (a.2.2.1 : Int)), mk E c s (hh g3)) := by
          rw [l4 _ p1, r51_33]
        show (Call prog clsT X (t + 8) 51 _ _).bind _ = _
        rw [call0 e, push0, r43_29, j1]
      · have := HC_tail (j := a.2.2.1) (Q := Q) (HC_C l3 hr p3) (by omega) p2.2.1.2.2.2.2.1 j4 j5 (by rw [hcl]; exact j6) (by rw [hcl]; exact j7) j8 j9 (by rw [hcl]; exact j10)
        exact this
    · obtain ⟨g2, l1, l2, l3, l5, l4⟩ := hM2 t E c s g h hm
      obtain ⟨g3, p1, p2, p3⟩ := m174w (X := X) E c s l1 hw
      obtain ⟨g4, q1, q2, q3, q4, q5, q6, q7, q8, q9, q10⟩ := m175t E c s a6 a2 p1 (t + 1) a.2.2.1 (by omega)
      have s1 : slM 109 12 := Or.inl (by omega)
      have e12 : g2 109 12 = (a.2.2.1 : Int) := l3.2.2.1
      have e13 : g4 109 12 = (a.2.2.1 : Int) := by
        rw [q9 109 12 (by omega) (by omega) (by omega), p2 109 12 (by unfold zM; omega)]; exact e12
      have ht4 := HM_tail (j := a.2.2.1) (P := P) (HM_M l3 p2) p1.2.1 q4 q5 q6 q7 q8 q9 q10
      refine ⟨up g4 109 12 ((a.2.2.1 + 1 : Nat) : Int), ?_, MI_up q2 s1, HM_B ht4 (by rw [q10, p2 111 _ (by unfold zM; omega)]; exact l5), frR_up (frR_tr (frR_tr l2 (frR_M p2)) q3) s1⟩
      show Call prog clsT X (t + 9) 183 _ _ = _
      rw [l4, r183_41, e12, call0 (p3 (t + 1) _ 1 _ rfl q1 E c s g4 rfl), push0, r183_47, cmp_ne, if_pos (by decide), e13, w32_succ (by omega)]
end BARS
