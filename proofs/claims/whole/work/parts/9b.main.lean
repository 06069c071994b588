/-! Part 9b: parts, and all expressions. -/
section MAINP
variable {X : MExt} {T : Nat → Int} {L : Nat} {pl : Bool}
section PMETH
variable (E : List (Nat × Nat)) (c s : Nat) {g : Nat → Nat → Int}
theorem c44p (hX : XT X) {r n : Nat} (h : CI T L pl E r n g) (d : Nat) : Call prog clsT X (d + 6) 44 [(2, 9), (2, g 9 8)] (mk E c s (hh g)) = some ((0, fc pl T L n - 1), mk E c s (hh g)) := by
  have e : ∀ ws, col T L n ws = col T L n ws + 1 - 1 := fun ws => by omega
  rw [h.2.2.2]
  cases pl with
  | true =>
    rw [if_pos rfl, c44t X E c s hX.2.1 colOK_P d h.1, e]
    rfl
  | false =>
    rw [if_neg (by decide), c44t X E c s hX.1 colOK_E d h.1, e]
    rfl
/-- the class at a part that can begin -/
theorem k57 (hX : XT X) {r n D : Nat} (h : CI T L pl E r n g) (hb : bgn pl T L n) (t : Nat) : Call prog clsT X (t + 8) 57 [(2, 9), (0, (D : Int))] (mk E c s (hh g)) = Ev prog clsT X (t + 7) mc57 24 [(2, 9), (0, (D : Int)), (0, fc pl T L n - 1)] [] (mk E c s (hh g)) := by
  have hf := @fc_bd pl T L n
  rw [rc57_, call0 (c44p E c s hX h (t + 1)), push0, r57_4, cmp_eq, h.1.2.2.2.2.2.2.2.2.1]
  by_cases q4 : tokT T L n = 2
  case pos => rw [if_pos q4]
  rw [if_neg q4, cmp_ne]
  by_cases q1 : fc pl T L n = 0
  case neg => rw [if_pos (by omega)]
  rw [if_neg (by omega), call0 (c50t X E c s hX.2.2.2.2.2.2.1 (t + 1) h.1), push0, r57_15, cmp_ne, bI_ne0]
  by_cases q2 : wd T L n lNot
  case pos => rw [if_pos (fun z => z q2)]
  have q3 : sg T L n 40 := by
    rcases hb with z | z | z | z
    · exact absurd q1 z
    · exact absurd z q2
    · exact z
    · exact absurd z q4
  rw [if_neg (fun z => z q2), call0 (c58t X E c s (t + 6) h.1 40), push0, r57_19, cmp_ne, bI_ne0, if_pos (fun z => z q3)]
theorem k57n (hX : XT X) {r n D : Nat} (h : CI T L pl E r n g) (hb : ¬ bgn pl T L n) (t : Nat) : ∃ g', Call prog clsT X (t + 8) 57 [(2, 9), (0, (D : Int))] (mk E c s (hh g)) = some ((3, 0), mk E c s (hh g')) ∧ FA g' (1 + 16 * n) ∧ frE r g g' ∧ g' r 7 = g r 7 := by
  have q1 : fc pl T L n = 0 := Classical.byContradiction (fun q => hb (Or.inl q))
  obtain ⟨g', k1, k2, k3, k4⟩ := c46t X E c s h (t + 6) 1 (by omega)
  refine ⟨g', ?_, k2, k3, k4⟩
  rw [rc57_, call0 (c44p E c s hX h (t + 1)), push0, r57_4, cmp_eq, h.1.2.2.2.2.2.2.2.2.1, if_neg (fun q => hb (Or.inr (Or.inr (Or.inr q)))), cmp_ne, if_neg (by omega), call0 (c50t X E c s hX.2.2.2.2.2.2.1 (t + 1) h.1), push0, r57_15, cmp_ne, bI_ne0, if_neg (fun z => z (fun q => hb (Or.inr (Or.inl q)))), call0 (c58t X E c s (t + 6) h.1 40), push0, r57_19, cmp_ne, bI_ne0, if_neg (fun z => z (fun q => hb (Or.inr (Or.inr (Or.inl q))))), call3 k1, push3, r57_23, r57_81]
/-- Reader.expectSign -/
theorem c59t (hX : XT X) {r n : Nat} (h : CI T L pl E r n g) (t : Nat) (x : Int) (hs : sg T L n x) : ∃ g', Call prog clsT X (t + 6) 59 [(2, 9), (0, x)] (mk E c s (hh g)) = some ((3, 0), mk E c s (hh g')) ∧ CO T L r (nxt T L n) [] g g' := by
  obtain ⟨g1, k1, k2, k3⟩ := c40n X E c s hX t h.1
  refine ⟨g1, ?_, CO_step h k2 k3⟩
  rw [rc59_, call0 (c58t X E c s (t + 4) h.1 x), push0, r59_3, cmp_ne, bI_ne0, if_pos (fun z => z hs), r59_7, call3 k1, push3, r59_9]
theorem c59n (hX : XT X) {r n : Nat} (h : CI T L pl E r n g) (t : Nat) (x : Int) (hs : ¬ sg T L n x) : ∃ g', Call prog clsT X (t + 6) 59 [(2, 9), (0, x)] (mk E c s (hh g)) = some ((3, 0), mk E c s (hh g')) ∧ FA g' (1 + 16 * n) ∧ frE r g g' ∧ g' r 7 = g r 7 := by
  obtain ⟨g', k1, k2, k3, k4⟩ := c46t X E c s h (t + 4) 1 (by omega)
  refine ⟨g', ?_, k2, k3, k4⟩
  rw [rc59_, call0 (c58t X E c s (t + 4) h.1 x), push0, r59_3, cmp_ne, bI_ne0, if_neg (fun z => z hs), call3 k1, push3, r59_7, call3 (c40g X E c s k2 (t + 4)), push3, r59_9]
end PMETH
theorem CI_7 {E : List (Nat × Nat)} {r n : Nat} {g g' : Gm} (h : CI T L pl E r n g) (e : g' r 7 = g r 7) : 0 ≤ g' r 7 ∧ g' r 7 ≤ L := by
  rw [e]; exact ⟨h.2.1.2.2.2.2.1, h.2.1.2.2.2.2.2.1⟩
theorem PP_step (hX : XT X) {n : Nat} (hn : n ≤ L) (IHP : ∀ n', n < n' → n' ≤ L → ∀ D, D ≤ 5 → PP X T L pl D n') (IHE : ∀ n', n < n' → n' ≤ L → ∀ D, D ≤ 5 → Res X T L pl (F53 X D) 47 D (pr0 D) D 1 n' (semE pl D) (st4 T L) (flg D)) (D : Nat) (hD : D ≤ 5) : PP X T L pl D n := by
  by_cases hb : bgn pl T L n
  case neg =>
    refine Or.inl ⟨1 + 16 * n, fun t i v ht hi E c s r g hc => ?_, fun t E c s g w3 w4 w5 hm _ => ⟨_, pbad1 X E c s hm hb w3 w4 w5, up_same, fM_fr g n 1⟩⟩
    obtain ⟨t, rfl⟩ := dd 8 ht hD (by decide)
    obtain ⟨g', k1, k2, k3, k4⟩ := k57n E c s hX (D := D) hc hb t
    exact ⟨g', k1, k2, k3, CI_7 hc k4⟩
  by_cases h5 : D = 5
  · subst h5
    refine Or.inl ⟨5 + 16 * n, fun t i v ht hi E c s r g hc => ?_, fun t E c s g w3 w4 w5 hm _ => ⟨_, pbad5 X E c s hm hb w3 w4 w5, up_same, fM_fr g n 5⟩⟩
    obtain ⟨t, rfl⟩ := dd 8 ht hD (by decide)
    obtain ⟨g', k1, k2, k3, k4⟩ := c46t X E c s hc (t + 6) 5 (by omega)
    refine ⟨g', ?_, k2, k3, CI_7 hc k4⟩
    show Call prog clsT X (t + 8) 57 [(2, 9), (0, ((5 : Nat) : Int))] (mk E c s (hh g)) = _
    rw [k57 E c s hX hc hb t, r57_24, cmp_lt, if_neg (by decide), call3 k1, push3, r57_30, r57_81]
  have hD4 : D < 5 := by omega
  have hlt : n < L := tokT_lt hn (by
    rcases hb with q | q | q | q
    · rw [(@fc_bd pl T L n).2.2 q]; decide
    · rw [q.1]; decide
    · rw [q.1]; decide
    · rw [q]; decide)
  have hb1 := nxt_bd (T := T) (L := L) (b := n) hn
  have hb3 := hb1.2.2 hlt
  have ew : w32 ((D : Int) + 1) = ((D + 1 : Nat) : Int) := w32_succ (by omega)
  by_cases hs : wd T L n lNot
  · -- not
    have hf : fc pl T L n = 0 := fc_not hs
    have hC : ∀ t E c s r g, CI T L pl E r n g → ∃ g1, TC T L (nxt T L n) g1 ∧ (∀ x i, ¬ zC x i → g1 x i = g x i) ∧ ∀ g2, DR E L r g2 → Call prog clsT X (t + 7) 57 [(2, 9), (0, ((D + 1 : Nat) : Int))] (mk E c s (hh g1)) = some ((3, 0), mk E c s (hh g2)) → Call prog clsT X (t + 8) 57 [(2, 9), (0, (D : Int))] (mk E c s (hh g)) = some ((3, 0), mk E c s (hh (adR g2 r L 20000))) := by
      intro t E c s r g hc
      obtain ⟨g1, k1, k2, k3⟩ := c40n X E c s hX (t + 2) hc.1
      refine ⟨g1, k2, k3, fun g2 hd hsub => ?_⟩
      rw [k57 E c s hX hc hb t, r57_24, cmp_lt, if_pos (by omega), cmp_ne, hc.1.2.2.2.2.2.2.2.2.1, if_pos (by rw [hs.1]; decide), cmp_eq, if_pos (by omega), call0 (c50t X E c s hX.2.2.2.2.2.2.1 (t + 1) hc.1), push0, r57_58, cmp_eq, bI_eq0, if_neg (fun z => z hs), call3 k1, push3, r57_61, ew, call3 hsub, push3, r57_66, rvD E c s hd, call3 (c68d X E c s hd (t + 6) 20000), push3, r57_70, r57_81]
    rcases IHP (nxt T L n) hb3 hb1.2.1 (D + 1) (by omega) with ⟨fl, b1, b2⟩ | ⟨m1, P1, Q1, a1, a2, a3, a4, a5, a6, a7⟩
    · refine Or.inl ⟨fl, fun t i v ht hi E c s r g hc => ?_, fun t E c s g w3 w4 w5 hm hp => ?_⟩
      · obtain ⟨t, rfl⟩ := dd 8 ht hD (by decide)
        obtain ⟨g1, k1, k2, k3⟩ := hC t E c s r g hc
        have hc1 : CI T L pl E r (nxt T L n) g1 := CI_of hc (CO_step hc k1 k2) (by show n + 0 ≤ _; omega)
        obtain ⟨g2, j1, j2, j3, j4, j5⟩ := b1 (t + 7) 0 v (by omega) (Nat.zero_le _) E c s r g1 hc1
        have hd2 : DR E L r g2 := DR_fr hc1.2.1 j3 j4 j5
        have h7 := adR_7 g2 r L 20000 j4 j5
        exact ⟨_, k3 g2 hd2 j1, adR_FA E hd2 j2 _, frE_tr (frE_tr (frE_C k2) j3) (adR_fr g2 r L _), h7.1, h7.2⟩
      · obtain ⟨g', u3, u4, u5, k1, k2, k3⟩ := pnot X E c s (t := t) (D := D) hm hD4 hs w3 w4 w5
        obtain ⟨g2, j1, j2, j3⟩ := b2 t E c s g' u3 u4 u5 (MI_of hm k2 (by show n + 1 ≤ _; omega)) trivial
        exact ⟨g2, k1.trans j1, j2, frM_tr (frM_le k2.2.1 (Nat.zero_le _) (Nat.zero_le _)) j3⟩
    · refine Or.inr ⟨m1, P1 ++ [20000], 30 :: Q1, by omega, a2, by simp only [List.length_append, List.length_cons, List.length_nil]; omega, by simp only [List.length_cons]; omega, fun t i v ht hi E c s r g hc => ?_, fun t E c s g w3 w4 w5 hm hp => ?_, semP_not hD4 a7⟩
      · obtain ⟨t, rfl⟩ := dd 8 ht hD (by decide)
        obtain ⟨g1, k1, k2, k3⟩ := hC t E c s r g hc
        have hs1 := CO_step hc k1 k2
        have hc1 : CI T L pl E r (nxt T L n) g1 := CI_of hc hs1 (by show n + 0 ≤ _; omega)
        obtain ⟨g2, j1, j2⟩ := a5 (t + 7) 0 v (by omega) (Nat.zero_le _) E c s r g1 hc1
        have hc2 : CI T L pl E r m1 g2 := CI_of hc1 j2 a3
        have h7 : g2 r 7 < L := by
          have q1 := j2.2.2.2; have q2 := hs1.2.2.2; have q3 := hc.2.2.1
          have q4 : ((([] : List Int).length : Nat) : Int) = 0 := rfl
          omega
        exact ⟨_, k3 g2 hc2.2.1 j1, CO_tr (CO_tr hs1 j2) (CO_add j2.1 hc2.2.1 h7 _)⟩
      · obtain ⟨g', u3, u4, u5, k1, k2, k3⟩ := pnot X E c s (t := t) (D := D) hm hD4 hs w3 w4 w5
        obtain ⟨g2, v3, v4, v5, j1, j2, j3⟩ := a6 t E c s g' u3 u4 u5 (MI_of hm k2 (by show n + 1 ≤ _; omega)) trivial
        refine ⟨g2, v3, v4, v5, ?_, MO_tr k2 (MO_le j2 (by omega) (by omega)), trivial⟩
        rw [k1, j1]
        show RHd X E c s t (bse g' (D + 1)) 0 g2 v3 v4 v5 = RHd X E c s t (bse g D) 0 g2 v3 v4 v5
        rw [show bse g' (D + 1) = bse g' D from if_pos k3, bse_fr k2.2.1]
  by_cases ho : sg T L n 40
  · -- ( E )
    have hf : fc pl T L n = 0 := Classical.byContradiction (fun z => by have := ho.1.symm.trans ((@fc_bd pl T L n).2.2 z); exact absurd this (by decide))
    have hC : ∀ t E c s r g, CI T L pl E r n g → ∃ g1, TC T L (nxt T L n) g1 ∧ (∀ x i, ¬ zC x i → g1 x i = g x i) ∧ ∀ g2, Call prog clsT X (t + 7) 53 [(2, 9), (0, ((D + 1 : Nat) : Int))] (mk E c s (hh g1)) = some ((3, 0), mk E c s (hh g2)) → ∀ g3, Call prog clsT X (t + 7) 59 [(2, 9), (0, 41)] (mk E c s (hh g2)) = some ((3, 0), mk E c s (hh g3)) → Call prog clsT X (t + 8) 57 [(2, 9), (0, (D : Int))] (mk E c s (hh g)) = some ((3, 0), mk E c s (hh g3)) := by
      intro t E c s r g hc
      obtain ⟨g1, k1, k2, k3⟩ := c40n X E c s hX (t + 2) hc.1
      refine ⟨g1, k2, k3, fun g2 hsub g3 hsub2 => ?_⟩
      rw [k57 E c s hX hc hb t, r57_24, cmp_lt, if_pos (by omega), cmp_ne, hc.1.2.2.2.2.2.2.2.2.1, if_pos (by rw [ho.1]; decide), cmp_eq, if_pos (by omega), call0 (c50t X E c s hX.2.2.2.2.2.2.1 (t + 1) hc.1), push0, r57_58, cmp_eq, bI_eq0, if_pos hs, call3 k1, push3, r57_73, ew, call3 hsub, push3, r57_78, call3 hsub2, push3, r57_81]
    rcases IHE (nxt T L n) hb3 hb1.2.1 (D + 1) (by omega) with ⟨fl, b1, b2⟩ | ⟨cm, m1, P1, Q1, a1, a2, a3, a4, a5, a6, a7, a8⟩
    · refine Or.inl ⟨fl, fun t i v ht hi E c s r g hc => ?_, fun t E c s g w3 w4 w5 hm hp => ?_⟩
      · obtain ⟨t, rfl⟩ := dd 8 ht hD (by decide)
        obtain ⟨g1, k1, k2, k3⟩ := hC t E c s r g hc
        have hc1 : CI T L pl E r (nxt T L n) g1 := CI_of hc (CO_step hc k1 k2) (by show n + 0 ≤ _; omega)
        obtain ⟨g2, j1, j2, j3, j4, j5⟩ := b1 (t + 7) 0 v (by omega) (Nat.zero_le _) E c s r g1 hc1
        exact ⟨g2, k3 g2 j1 g2 (c59f X E c s j2 (t + 5) 41), j2, frE_tr (frE_C k2) j3, j4, j5⟩
      · obtain ⟨g', u3, u4, u5, k1, k2, k3, k4⟩ := popen X E c s (t := t) (D := D) hm hD4 ho w3 w4 w5
        obtain ⟨g2, j1, j2, j3⟩ := b2 t E c s g' u3 u4 u5 (MI_of hm k2 (by show n + 1 ≤ _; omega)) ⟨Or.inr (by rw [k3]; decide), k4⟩
        exact ⟨g2, k1.trans j1, j2, frM_tr (frM_le k2.2.1 (Nat.zero_le _) (Nat.zero_le _)) j3⟩
    · have hcm : ∀ g : Gm, flg (D + 1) cm g → g 116 (D + 1) ≠ 0 ∨ (¬ sg T L m1 60 ∧ ¬ sg T L m1 61) := by
        intro g hg
        cases cm with
        | true => exact Or.inl (by unfold flg at hg; rw [hg]; decide)
        | false => exact Or.inr (a8.2 rfl)
      by_cases hz : sg T L m1 41
      · have hm1 : m1 < L := tokT_lt a2 (by rw [hz.1]; decide)
        have hbm := nxt_bd (T := T) (L := L) (b := m1) a2
        have hbm3 := hbm.2.2 hm1
        refine Or.inr ⟨nxt T L m1, P1, 28 :: (Q1 ++ [29]), by omega, hbm.2.1, by omega, by simp only [List.length_append, List.length_cons, List.length_nil]; omega, fun t i v ht hi E c s r g hc => ?_, fun t E c s g w3 w4 w5 hm hp => ?_, semP_par hD4 a7⟩
        · obtain ⟨t, rfl⟩ := dd 8 ht hD (by decide)
          obtain ⟨g1, k1, k2, k3⟩ := hC t E c s r g hc
          have hs1 := CO_step hc k1 k2
          have hc1 : CI T L pl E r (nxt T L n) g1 := CI_of hc hs1 (by show n + 0 ≤ _; omega)
          obtain ⟨g2, j1, j2⟩ := a5 (t + 7) 0 v (by omega) (Nat.zero_le _) E c s r g1 hc1
          obtain ⟨g3, l1, l2⟩ := c59t E c s hX (CI_of hc1 j2 a3) (t + 1) 41 hz
          refine ⟨g3, k3 g2 j1 g3 l1, ?_⟩
          have := CO_tr (CO_tr hs1 j2) l2
          rw [List.append_nil] at this
          exact this
        · obtain ⟨g', u3, u4, u5, k1, k2, k3, k4⟩ := popen X E c s (t := t) (D := D) hm hD4 ho w3 w4 w5
          have hm2 := MI_of hm k2 (by show n + 1 ≤ _; omega)
          obtain ⟨g2, v3, v4, v5, j1, j2, j3⟩ := a6 t E c s g' u3 u4 u5 hm2 ⟨Or.inr (by rw [k3]; decide), k4⟩
          have hf2 := MO_tr k2 (MO_le (lo := D) (lo' := D + 1) j2 (by omega) (by omega))
          obtain ⟨g3, l1, l2⟩ := mclose X E c s (t := t) (D := D) (MI_of hm2 j2 a4) (by omega) hz (hcm g2 j3) v3 v4 v5
          refine ⟨g3, (3, 0), (3, 0), (3, 0), ?_, ?_, trivial⟩
          · rw [k1, j1, l1, bse_fr hf2.2.1]
          · have := MO_tr hf2 l2
            exact this
      · refine Or.inl ⟨1 + 16 * m1, fun t i v ht hi E c s r g hc => ?_, fun t E c s g w3 w4 w5 hm hp => ?_⟩
        · obtain ⟨t, rfl⟩ := dd 8 ht hD (by decide)
          obtain ⟨g1, k1, k2, k3⟩ := hC t E c s r g hc
          have hs1 := CO_step hc k1 k2
          have hc1 : CI T L pl E r (nxt T L n) g1 := CI_of hc hs1 (by show n + 0 ≤ _; omega)
          obtain ⟨g2, j1, j2⟩ := a5 (t + 7) 0 v (by omega) (Nat.zero_le _) E c s r g1 hc1
          have hc2 := CI_of hc1 j2 a3
          obtain ⟨g3, l1, l2, l3, l4⟩ := c59n E c s hX hc2 (t + 1) 41 hz
          exact ⟨g3, k3 g2 j1 g3 l1, l2, frE_tr (CO_tr hs1 j2).2.1 l3, CI_7 hc2 l4⟩
        · obtain ⟨g', u3, u4, u5, k1, k2, k3, k4⟩ := popen X E c s (t := t) (D := D) hm hD4 ho w3 w4 w5
          have hm2 := MI_of hm k2 (by show n + 1 ≤ _; omega)
          obtain ⟨g2, v3, v4, v5, j1, j2, j3⟩ := a6 t E c s g' u3 u4 u5 hm2 ⟨Or.inr (by rw [k3]; decide), k4⟩
          have hl := mfail X E c s (t := t) (D := D + 1) j2.1 (by omega) a8.1 (hcm g2 j3) (Or.inr hz) (Or.inl (by omega)) v3 v4 v5
          exact ⟨_, k1.trans (j1.trans hl), up_same, frM_tr (frM_tr (frM_le k2.2.1 (Nat.zero_le _) (Nat.zero_le _)) (frM_le j2.2.1 (Nat.zero_le _) (Nat.zero_le _))) (fM_fr g2 m1 1)⟩
  -- a number, a fact
  have hv : fc pl T L n ≠ 0 ∨ tokT T L n = 2 := by
    rcases hb with z | z | z | z
    · exact Or.inl z
    · exact absurd z hs
    · exact absurd z ho
    · exact Or.inr z
  have hfb := @fc_bd pl T L n
  refine Or.inr ⟨nxt T L n, [if tokT T L n = 2 then tnum T L n else 10000 + (fc pl T L n - 1)], [if tokT T L n = 2 then 100 + tnum T L n else fc pl T L n], by omega, hb1.2.1, by show n + 1 ≤ _; omega, by show n + 1 ≤ _; omega, fun t i v ht hi E c s r g hc => ?_, fun t E c s g w3 w4 w5 hm hp => ?_, ?_⟩
  · obtain ⟨t, rfl⟩ := dd 8 ht hD (by decide)
    have h7 : g r 7 < L := by have := hc.2.2.1; omega
    have hd : DR E L r g := hc.2.1
    show ∃ g', Call prog clsT X (t + 8) 57 [(2, 9), (0, (D : Int))] (mk E c s (hh g)) = _ ∧ _
    rw [k57 E c s hX hc hb t, r57_24, cmp_lt, if_pos (by omega), cmp_ne, hc.1.2.2.2.2.2.2.2.2.1]
    by_cases q : tokT T L n = 2
    · have ha := CO_add hc.1 hd h7 (tnum T L n)
      have hc1 := CI_of hc (m := n + 1) (P := []) (g' := g)
      obtain ⟨g1, k1, k2, k3⟩ := c40n X E c s hX (t + 2) ha.1
      refine ⟨g1, ?_, ?_⟩
      · rw [if_neg (fun z => z q), rvD E c s hd, hc.1.2.2.2.2.2.2.2.2.2 q, call3 (c68d X E c s hd (t + 6) _), push3, r57_40, call3 k1, push3, r57_42, r57_81]
      · rw [if_pos q]
        have hda : CO T L r (nxt T L n) [] (adR g r L (tnum T L n)) g1 := by
          refine ⟨k2, frE_C k3, ?_, ?_⟩
          · have h1 := hd.2.2.2.1
            unfold lst
            rw [k3 r 7 (by unfold zC; omega), List.append_nil]
            exact seg_congr _ _ (fun i _ _ => k3 (r + 4) i (by unfold zC; omega))
          · have h1 := hd.2.2.2.1
            rw [k3 r 7 (by unfold zC; omega)]; show _ = _ + ((0 : Nat) : Int); omega
        exact CO_tr ha hda
    · have hz : fc pl T L n ≠ 0 := by rcases hv with z | z; exact z; exact absurd z q
      have ha := CO_add hc.1 hd h7 (10000 + (fc pl T L n - 1))
      obtain ⟨g1, k1, k2, k3⟩ := c40n X E c s hX (t + 2) ha.1
      refine ⟨g1, ?_, ?_⟩
      · rw [if_pos q, cmp_eq, if_neg (by omega), rvD E c s hd, w32_of (by omega) (by omega), call3 (c68d X E c s hd (t + 6) _), push3, r57_52, call3 k1, push3, r57_54, r57_81]
      · rw [if_neg q]
        have hda : CO T L r (nxt T L n) [] (adR g r L (10000 + (fc pl T L n - 1))) g1 := by
          refine ⟨k2, frE_C k3, ?_, ?_⟩
          · have h1 := hd.2.2.2.1
            unfold lst
            rw [k3 r 7 (by unfold zC; omega), List.append_nil]
            exact seg_congr _ _ (fun i _ _ => k3 (r + 4) i (by unfold zC; omega))
          · have h1 := hd.2.2.2.1
            rw [k3 r 7 (by unfold zC; omega)]; show _ = _ + ((0 : Nat) : Int); omega
        exact CO_tr ha hda
  · obtain ⟨g', u3, u4, u5, k1, k2⟩ := pval X E c s (t := t) (D := D) hm hD4 hv w3 w4 w5
    exact ⟨g', u3, u4, u5, k1, k2, trivial⟩
  · by_cases q : tokT T L n = 2
    · rw [if_pos q, if_pos q]
      exact semP_num D hD _ (tnum_bd q)
    · have hz : fc pl T L n ≠ 0 := by rcases hv with z | z; exact z; exact absurd z q
      rw [if_neg q, if_neg q]
      obtain ⟨f, hf⟩ := Int.eq_ofNat_of_zero_le (show 0 ≤ fc pl T L n - 1 by omega)
      have := semP_fact (pl := pl) D hD f (by omega) (fun q => by subst q; have := @fc_8 T L n; omega)
      rw [hf, show fc pl T L n = (f : Int) + 1 by omega]
      exact this
theorem EX_all (hX : XT X) : ∀ k n, L - n ≤ k → n ≤ L → ∀ D, D ≤ 5 → PP X T L pl D n ∧ Res X T L pl (F53 X D) 47 D (pr0 D) D 1 n (semE pl D) (st4 T L) (flg D) := by
  intro k
  induction k with
  | zero =>
    intro n hk hn D hD
    have hP : ∀ n', n ≤ n' → n' ≤ L → ∀ D, D ≤ 5 → PP X T L pl D n' := fun n' h1 h2 D hD => PP_step hX h2 (fun n'' h3 h4 => absurd h3 (by omega)) (fun n'' h3 h4 => absurd h3 (by omega)) D hD
    exact ⟨hP n (Nat.le_refl _) hn D hD, PE_ hX hD (fun n' h1 h2 => hP n' h1 h2 D hD) n (Nat.le_refl _) hn⟩
  | succ k ih =>
    intro n hk hn D hD
    have hP : ∀ n', n ≤ n' → n' ≤ L → ∀ D, D ≤ 5 → PP X T L pl D n' := by
      intro n' h1 h2 D hD
      by_cases q : n = n'
      · subst q
        exact PP_step hX h2 (fun n'' h3 h4 D hD => (ih n'' (by omega) h4 D hD).1) (fun n'' h3 h4 D hD => (ih n'' (by omega) h4 D hD).2) D hD
      · exact (ih n' (by omega) h2 D hD).1
    exact ⟨hP n (Nat.le_refl _) hn D hD, PE_ hX hD (fun n' h1 h2 => hP n' h1 h2 D hD) n (Nat.le_refl _) hn⟩
/-- an expression from n on: both find the same fault, or both read it and hold the same worth -/
theorem EX (hX : XT X) {n : Nat} (hn : n ≤ L) : Res X T L pl (F53 X 0) 47 0 (pr0 0) 0 1 n (semE pl 0) (st4 T L) (flg 0) := (EX_all hX (L - n) n (Nat.le_refl _) hn 0 (by decide)).2
end MAINP
