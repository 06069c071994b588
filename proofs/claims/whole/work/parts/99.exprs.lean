/-! Part 99: expressions are read alike. -/
section EXPRS
variable (X : MExt) (T : Nat → Int) (L : Nat) (pl : Bool)
noncomputable def F57 (D : Nat) (t _i : Nat) (_v : MV) : CF := fun E c s g => Call prog clsT X t 57 [(2, 9), (0, (D : Int))] (mk E c s (hh g))
noncomputable def F56 (D : Nat) (t _i : Nat) (_v : MV) : CF := fun E c s g => Call prog clsT X t 56 [(2, 9), (0, (D : Int))] (mk E c s (hh g))
noncomputable def F55 (D : Nat) (t _i : Nat) (_v : MV) : CF := fun E c s g => Call prog clsT X t 55 [(2, 9), (0, (D : Int))] (mk E c s (hh g))
noncomputable def F54 (D : Nat) (t _i : Nat) (_v : MV) : CF := fun E c s g => Call prog clsT X t 54 [(2, 9), (0, (D : Int))] (mk E c s (hh g))
noncomputable def F53 (D : Nat) (t _i : Nat) (_v : MV) : CF := fun E c s g => Call prog clsT X t 53 [(2, 9), (0, (D : Int))] (mk E c s (hh g))
noncomputable def G56 (D : Nat) (t i : Nat) (_v : MV) : CF := fun E c s g => Ev prog clsT X t mc56 5 [(2, 9), (0, (D : Int)), (0, (i : Int))] [] (mk E c s (hh g))
noncomputable def G55 (D : Nat) (t i : Nat) (v : MV) : CF := fun E c s g => Ev prog clsT X t mc55 5 [(2, 9), (0, (D : Int)), (0, (i : Int)), v] [] (mk E c s (hh g))
noncomputable def G54 (D : Nat) (t _i : Nat) (_v : MV) : CF := fun E c s g => Ev prog clsT X t mc54 3 [(2, 9), (0, (D : Int)), (3, 0)] [] (mk E c s (hh g))
noncomputable def G53 (D : Nat) (t i : Nat) (v : MV) : CF := fun E c s g => Ev prog clsT X t mc53 5 [(2, 9), (0, (D : Int)), (0, (i : Int)), v] [] (mk E c s (hh g))
def PP (D n : Nat) : Prop := (∃ fl, (∀ t i v, 43 ≤ t + 5 * D → i ≤ n → cBad T L pl (F57 X D t i v) n fl) ∧ mBad T L pl X tru D 1 n fl) ∨
  ∃ m P Q, n ≤ m ∧ m ≤ L ∧ n + P.length ≤ m ∧ n + Q.length ≤ m ∧ (∀ t i v, 43 ≤ t + 5 * D → i ≤ n → cOK T L pl (F57 X D t i v) n m P) ∧ mOK T L pl X tru (fun g => bse g D) (D + 1) D 1 n m Q tru ∧ semP pl D P Q
end EXPRS
section EXPRS2
variable {X : MExt} {T : Nat → Int} {L : Nat} {pl : Bool}
abbrev st1 (T : Nat → Int) (L : Nat) (_ : Bool) (m : Nat) : Prop := ¬ sg T L m 42
abbrev st2 (T : Nat → Int) (L : Nat) (_ : Bool) (m : Nat) : Prop := ¬ sg T L m 43 ∧ ¬ sg T L m 45 ∧ ¬ sg T L m 42
abbrev st3 (T : Nat → Int) (L : Nat) (cm : Bool) (m : Nat) : Prop := st2 T L cm m ∧ (cm = false → ¬ sg T L m 60 ∧ ¬ sg T L m 61)
abbrev st4 (T : Nat → Int) (L : Nat) (cm : Bool) (m : Nat) : Prop := stp T L m ∧ (cm = false → ¬ sg T L m 60 ∧ ¬ sg T L m 61)
def flg (D : Nat) (cm : Bool) (g : Gm) : Prop := g 116 D = if cm = true then 1 else 0
theorem PPb {D n : Nat} (h : PP X T L pl D n) : Res X T L pl (F57 X D) 43 D (bsM D) (D + 1) 1 n (semP pl D) (fun _ _ => True) tru2 := by
  rcases h with ⟨fl, b1, b2⟩ | ⟨m, P, Q, a1, a2, a3, a4, a5, a6, a7⟩
  · exact Or.inl ⟨fl, b1, fun t E c s g w3 w4 w5 hm _ => b2 t E c s g w3 w4 w5 hm trivial⟩
  · refine Or.inr ⟨false, m, P, Q, a1, a2, a3, a4, a5, fun t E c s g w3 w4 w5 hm hp => ?_, a7, trivial⟩
    obtain ⟨g', u3, u4, u5, k1, k2, k3⟩ := a6 t E c s g w3 w4 w5 hm trivial
    refine ⟨g', u3, u4, u5, ?_, k2, trivial⟩
    have k1 : RHd X E c s t D 1 g w3 w4 w5 = RHd X E c s t (bse g D) 0 g' u3 u4 u5 := k1
    rw [bse_bs hp] at k1
    exact k1
theorem dd {t K D : Nat} (k : Nat) (h : K ≤ t + 5 * D) (hD : D ≤ 5) (hk : k + 25 ≤ K) : ∃ t', t = t' + k := ⟨t - k, by omega⟩
/-- products -/
theorem LM_ (hX : XT X) {D : Nat} (hD : D ≤ 5) {n0 : Nat} (IH : ∀ n', n0 < n' → n' ≤ L → PP X T L pl D n') : ∀ k n, L - n ≤ k → n0 ≤ n → n ≤ L → Res X T L pl (G56 X D) 43 D (bsM D) (D + 1) 0 n (semTr (semM pl D)) (st1 T L) tru2 := by
  intro k
  induction k with
  | zero =>
    intro n hk h0 hn
    refine loop_end (preL := fun _ => bsM D) (cm0 := false) hn (fun t i v E c s r g ht hi hc => ?_) (fun _ _ => trivial) ?_
    · have hL := hc.1.1
      have hs : ¬ sg T L n 42 := fun q => by have := tokT_lt hn (by rw [q.1]; decide); omega
      obtain ⟨t, rfl⟩ := dd 1 ht hD (by decide)
      show Ev prog clsT X (t + 1) mc56 5 [(2, 9), (0, (D : Int)), (0, (i : Int))] [] (mk E c s (hh g)) = _
      rw [r56_5, cmp_ge]
      by_cases q : (1000 : Int) ≤ i
      · rw [if_pos q]
      · rw [if_neg q, call0 (c58t X E c s t hc.1 42), push0, r56_11, cmp_eq, bI_eq0, if_pos hs]
    · exact fun q => by have := tokT_lt hn (by rw [q.1]; decide); omega
  | succ k ih =>
    intro n hk h0 hn
    by_cases hs : sg T L n 42
    case neg =>
      refine loop_end (preL := fun _ => bsM D) (cm0 := false) hn (fun t i v E c s r g ht hi hc => ?_) (fun _ _ => trivial) hs
      obtain ⟨t, rfl⟩ := dd 1 ht hD (by decide)
      show Ev prog clsT X (t + 1) mc56 5 [(2, 9), (0, (D : Int)), (0, (i : Int))] [] (mk E c s (hh g)) = _
      rw [r56_5, cmp_ge]
      by_cases q : (1000 : Int) ≤ i
      · rw [if_pos q]
      · rw [if_neg q, call0 (c58t X E c s t hc.1 42), push0, r56_11, cmp_eq, bI_eq0, if_pos hs]
    have hlt : n < L := tokT_lt hn (by rw [hs.1]; decide)
    have hb := nxt_bd (T := T) (L := L) (b := n) hn
    have hb3 := hb.2.2 hlt
    refine loop_gen (Sub := F57 X D) (op := 20007) (qc := 22) (cm0 := false) (preS := bsM D) (preL := fun _ => bsM D) (postS := tru2) (semS := semP pl D) (stopS := fun _ _ => True) hlt (fun t i v E c s r g ht hi hc => ?_) (fun t i v E c s g F ht hf => ?_) (fun t E c s g w3 w4 w5 hm hp => ?_) (fun _ g g2 h1 h2 _ => bsM_fr h2 h1) (fun P0 Q0 P1 Q1 => semM_s hD) (PPb (IH _ (by omega) hb.2.1)) (fun _ m h1 h2 _ => ih m (by omega) (by omega) h2)
    · have hL := hc.1.1
      obtain ⟨t, rfl⟩ := dd 5 ht hD (by decide)
      obtain ⟨g1, k1, k2, k3⟩ := c40n X E c s hX t hc.1
      refine ⟨g1, k2, k3, fun g2 hd hsub => ⟨(3, 0), ?_⟩⟩
      have hsub : Call prog clsT X (t + 5) 57 [(2, 9), (0, (D : Int))] (mk E c s (hh g1)) = some ((3, 0), mk E c s (hh g2)) := hsub
      show Ev prog clsT X (t + 5) mc56 5 [(2, 9), (0, (D : Int)), (0, (i : Int))] [] (mk E c s (hh g)) = Ev prog clsT X (t + 5) mc56 5 [(2, 9), (0, (D : Int)), (0, ((i + 1 : Nat) : Int))] [] (mk E c s (hh (adR g2 r L 20007)))
      rw [r56_5, cmp_ge, if_neg (by omega), call0 (c58t X E c s (t + 4) hc.1 42), push0, r56_11, cmp_eq, bI_eq0, if_neg (fun z => z hs), call3 k1, push3, r56_14, call3 hsub, push3, r56_17, rvD E c s hd, call3 (c68d X E c s hd (t + 4) 20007), push3, r56_21, w32_succ (by omega)]
    · obtain ⟨t, rfl⟩ := dd 1 ht hD (by decide)
      exact c56fl X E c s hf t D i
    · obtain ⟨g', k1, k2⟩ := mop X E c s (t := t) (D := D) hm (Or.inr (Or.inr hs)) w3 w4 w5
      rw [if_neg (sg_x hs (by decide)), if_neg (sg_x hs (by decide))] at k2
      exact ⟨g', _, _, _, k1, k2, bsM_fr k2.2.1 hp⟩
theorem PM_ (hX : XT X) {D : Nat} (hD : D ≤ 5) {n0 : Nat} (IH : ∀ n', n0 ≤ n' → n' ≤ L → PP X T L pl D n') (n : Nat) (h0 : n0 ≤ n) (hn : n ≤ L) : Res X T L pl (F56 X D) 44 D (bsM D) (D + 1) 1 n (semM pl D) (st1 T L) tru2 := by
  refine seq_gen (K := 43) (Sub := F57 X D) (Loop := G56 X D) (v0 := (3, 0)) (preL := fun _ => bsM D) (postS := tru2) (semS := semP pl D) (stopS := fun _ _ => True) (fun t i v E c s g g2 h => ?_) (fun t i v E c s g F ht hf => ?_) (fun _ g g2 h1 h2 _ => bsM_fr h2 h1) (fun _ _ => semM_1) (by omega) (PPb (IH n h0 hn)) (fun _ m h1 h2 _ => LM_ (n0 := m) hX hD (fun n' h3 h4 => IH n' (by omega) h4) (L - m) m (Nat.le_refl _) (Nat.le_refl _) h2)
  · have h : Call prog clsT X t 57 [(2, 9), (0, (D : Int))] (mk E c s (hh g)) = some ((3, 0), mk E c s (hh g2)) := h
    show Call prog clsT X (t + 1) 56 [(2, 9), (0, (D : Int))] (mk E c s (hh g)) = Ev prog clsT X t mc56 5 [(2, 9), (0, (D : Int)), (0, 0)] [] (mk E c s (hh g2))
    rw [rc56_, call3 h, push3, r56_3]
  · obtain ⟨t, rfl⟩ := dd 1 ht hD (by decide)
    exact c56fl X E c s hf t D i
/-- sums -/
theorem LS_ (hX : XT X) {D : Nat} (hD : D ≤ 5) {n0 : Nat} (IH : ∀ n', n0 ≤ n' → n' ≤ L → PP X T L pl D n') : ∀ k n, L - n ≤ k → n0 ≤ n → n ≤ L → ¬ sg T L n 42 → Res X T L pl (G55 X D) 44 D (bsM D) (D + 1) 0 n (semTr (semS pl D)) (st2 T L) tru2 := by
  have fin : ∀ n, n ≤ L → ¬ sg T L n 42 → ¬ sg T L n 43 → ¬ sg T L n 45 → Res X T L pl (G55 X D) 44 D (bsM D) (D + 1) 0 n (semTr (semS pl D)) (st2 T L) tru2 := by
    intro n hn z1 z2 z3
    refine loop_end (preL := fun _ => bsM D) (cm0 := false) hn (fun t i v E c s r g ht hi hc => ?_) (fun _ _ => trivial) ⟨z2, z3, z1⟩
    obtain ⟨t, rfl⟩ := dd 1 ht hD (by decide)
    show Ev prog clsT X (t + 1) mc55 5 [(2, 9), (0, (D : Int)), (0, (i : Int)), v] [] (mk E c s (hh g)) = _
    rw [r55_5, cmp_ge]
    by_cases q : (1000 : Int) ≤ i
    · rw [if_pos q]
    · rw [if_neg q, call0 (c58t X E c s t hc.1 43), push0, r55_11, cmp_ne, bI_ne0, if_neg (fun z => z z2), call0 (c58t X E c s t hc.1 45), push0, r55_15, cmp_eq, bI_eq0, if_pos z3]
  intro k
  induction k with
  | zero =>
    intro n hk h0 hn h42
    have hs : ∀ a, ¬ sg T L n a := fun a q => by have := tokT_lt hn (by rw [q.1]; decide); omega
    exact fin n hn h42 (hs _) (hs _)
  | succ k ih =>
    intro n hk h0 hn h42
    by_cases hs : sg T L n 43 ∨ sg T L n 45
    case neg => exact fin n hn h42 (fun q => hs (Or.inl q)) (fun q => hs (Or.inr q))
    have hlt : n < L := tokT_lt hn (by rcases hs with q | q <;> rw [q.1] <;> decide)
    have hb := nxt_bd (T := T) (L := L) (b := n) hn
    have hb3 := hb.2.2 hlt
    obtain ⟨b, hb43⟩ : ∃ b : Bool, b = decide (sg T L n 43) := ⟨_, rfl⟩
    refine loop_gen (Sub := F56 X D) (op := if b = true then 20005 else 20006) (qc := if b = true then 20 else 21) (cm0 := false) (preS := bsM D) (preL := fun _ => bsM D) (postS := tru2) (semS := semM pl D) (stopS := st1 T L) hlt (fun t i v E c s r g ht hi hc => ?_) (fun t i v E c s g F ht hf => ?_) (fun t E c s g w3 w4 w5 hm hp => ?_) (fun _ g g2 h1 h2 _ => bsM_fr h2 h1) (fun P0 Q0 P1 Q1 h1 h2 => semS_s hD h1 h2 b) (PM_ hX hD IH _ (by omega) hb.2.1) (fun _ m h1 h2 h3 => ih m (by omega) (by omega) h2 h3)
    · have hL := hc.1.1
      obtain ⟨t, rfl⟩ := dd 5 ht hD (by decide)
      obtain ⟨g1, k1, k2, k3⟩ := c40n X E c s hX t hc.1
      refine ⟨g1, k2, k3, fun g2 hd hsub => ⟨(0, if b = true then 20005 else 20006), ?_⟩⟩
      have hsub : Call prog clsT X (t + 5) 56 [(2, 9), (0, (D : Int))] (mk E c s (hh g1)) = some ((3, 0), mk E c s (hh g2)) := hsub
      have tl : Ev prog clsT X (t + 5) mc55 19 [(2, 9), (0, (D : Int)), (0, (i : Int)), (3, 0)] [(0, bI (sg T L n 43))] (mk E c s (hh g)) = G55 X D (t + 5) (i + 1) (0, if b = true then 20005 else 20006) E c s (adR g2 r L (if b = true then 20005 else 20006)) := by
        have ld : ∀ x : Int, Ev prog clsT X (t + 5) mc55 26 [(2, 9), (0, (D : Int)), (0, (i : Int)), (0, x)] [] (mk E c s (hh g1)) = G55 X D (t + 5) (i + 1) (0, x) E c s (adR g2 r L x) := by
          intro x
          rw [r55_26, call3 hsub, push3, r55_29, rvD E c s hd, call3 (c68d X E c s hd (t + 4) x), push3, r55_33, w32_succ (by omega)]
          rfl
        rw [r55_19, cmp_eq, bI_eq0]
        by_cases q : sg T L n 43
        · have hb1 : b = true := by rw [hb43]; exact decide_eq_true q
          rw [if_neg (fun z => z q), call3 k1, push3, ld, hb1]; rfl
        · have hb1 : b = false := by rw [hb43]; exact decide_eq_false q
          rw [if_pos q, call3 k1, push3, ld, hb1]; rfl
      show Ev prog clsT X (t + 5) mc55 5 [(2, 9), (0, (D : Int)), (0, (i : Int)), v] [] (mk E c s (hh g)) = _
      rw [r55_5, cmp_ge, if_neg (by omega), call0 (c58t X E c s (t + 4) hc.1 43), push0, r55_11, cmp_ne, bI_ne0]
      by_cases q : sg T L n 43
      · rw [if_pos (fun z => z q), call0 (c58t X E c s (t + 4) hc.1 43), push0, tl]
      · have q2 : sg T L n 45 := by rcases hs with z | z; exact absurd z q; exact z
        rw [if_neg (fun z => z q), call0 (c58t X E c s (t + 4) hc.1 45), push0, r55_15, cmp_eq, bI_eq0, if_neg (fun z => z q2), call0 (c58t X E c s (t + 4) hc.1 43), push0, tl]
    · obtain ⟨t, rfl⟩ := dd 1 ht hD (by decide)
      exact c55fl X E c s hf t D i v
    · obtain ⟨g', k1, k2⟩ := mop X E c s (t := t) (D := D) hm (by rcases hs with z | z; exact Or.inl z; exact Or.inr (Or.inl z)) w3 w4 w5
      have e : (if sg T L n 43 then (20 : Int) else if sg T L n 45 then 21 else 22) = if b = true then 20 else 21 := by
        by_cases q : sg T L n 43
        · have hb1 : b = true := by rw [hb43]; exact decide_eq_true q
          rw [if_pos q, hb1]; rfl
        · have hb1 : b = false := by rw [hb43]; exact decide_eq_false q
          have q2 : sg T L n 45 := by rcases hs with z | z; exact absurd z q; exact z
          rw [if_neg q, if_pos q2, hb1]; rfl
      rw [e] at k2
      exact ⟨g', _, _, _, k1, k2, bsM_fr k2.2.1 hp⟩
theorem PS_ (hX : XT X) {D : Nat} (hD : D ≤ 5) {n0 : Nat} (IH : ∀ n', n0 ≤ n' → n' ≤ L → PP X T L pl D n') (n : Nat) (h0 : n0 ≤ n) (hn : n ≤ L) : Res X T L pl (F55 X D) 45 D (bsM D) (D + 1) 1 n (semS pl D) (st2 T L) tru2 := by
  refine seq_gen (K := 44) (Sub := F56 X D) (Loop := G55 X D) (v0 := (3, 0)) (preL := fun _ => bsM D) (postS := tru2) (semS := semM pl D) (stopS := st1 T L) (fun t i v E c s g g2 h => ?_) (fun t i v E c s g F ht hf => ?_) (fun _ g g2 h1 h2 _ => bsM_fr h2 h1) (fun _ _ => semS_1) (by omega) (PM_ hX hD IH n h0 hn) (fun _ m h1 h2 h3 => LS_ hX hD IH (L - m) m (Nat.le_refl _) (by omega) h2 h3)
  · have h : Call prog clsT X t 56 [(2, 9), (0, (D : Int))] (mk E c s (hh g)) = some ((3, 0), mk E c s (hh g2)) := h
    show Call prog clsT X (t + 1) 55 [(2, 9), (0, (D : Int))] (mk E c s (hh g)) = Ev prog clsT X t mc55 5 [(2, 9), (0, (D : Int)), (0, 0), (3, 0)] [] (mk E c s (hh g2))
    rw [rc55_, call3 h, push3, r55_3]
  · obtain ⟨t, rfl⟩ := dd 1 ht hD (by decide)
    exact c55fl X E c s hf t D i v
end EXPRS2
