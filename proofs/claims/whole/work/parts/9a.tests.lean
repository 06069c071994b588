/-! Part 9a: tests and whole expressions are read alike. -/
section TESTS
variable {X : MExt} {T : Nat → Int} {L : Nat} {pl : Bool}
theorem seq_gen2 {M Sub Loop : Nat → Nat → MV → CF} {K D n lo' : Nat} {v0 : MV} {pre : Gm → Prop} {preL : Bool → Gm → Prop} {postS postL : Bool → Gm → Prop} {sem semS semL : List Int → List Int → Prop} {stopS stopL : Bool → Nat → Prop}
    (HC : ∀ t i v E c s g g2, Sub t 0 v E c s g = some ((3, 0), mk E c s (hh g2)) → M (t + 1) i v E c s g = Loop t 0 v0 E c s g2)
    (HF : ∀ t i v E c s g F, K ≤ t + 5 * D → FA g F → Loop t i v E c s g = some ((3, 0), mk E c s (hh g)))
    (HP : ∀ cm g g2, pre g → frM D lo' g g2 → postS cm g2 → preL cm g2)
    (HS : ∀ P Q P' Q', semS P Q → semL P' Q' → sem (P ++ P') (Q ++ Q'))
    (hD : 5 * D < K)
    (hsub : Res X T L pl Sub K D pre lo' 1 n semS stopS postS)
    (hloop : ∀ cm m, n ≤ m → m ≤ L → stopS cm m → Res X T L pl Loop K D (preL cm) lo' 0 m semL stopL postL) :
    Res X T L pl M (K + 1) D pre lo' 1 n sem stopL postL := by
  rcases hsub with ⟨fl, b1, b2⟩ | ⟨cm1, m1, P1, Q1, a1, a2, a3, a4, a5, a6, a7, a8⟩
  · refine Or.inl ⟨fl, fun t i v ht hi E c s r g hc => ?_, b2⟩
    obtain ⟨t, rfl⟩ : ∃ t', t = t' + 1 := ⟨t - 1, by omega⟩
    obtain ⟨g2, j1, j2, j3, j4, j5⟩ := b1 t 0 v (by omega) (Nat.zero_le _) E c s r g hc
    exact ⟨g2, (HC t i v E c s g g2 j1).trans (HF t 0 v0 E c s g2 fl (by omega) j2), j2, j3, j4, j5⟩
  · rcases hloop cm1 m1 a1 a2 a8 with ⟨fl, b1, b2⟩ | ⟨cm2, m2, P2, Q2, d1, d2, d3, d4, d5, d6, d7, d8⟩
    · refine Or.inl ⟨fl, fun t i v ht hi E c s r g hc => ?_, fun t E c s g w3 w4 w5 hm hp => ?_⟩
      · obtain ⟨t, rfl⟩ : ∃ t', t = t' + 1 := ⟨t - 1, by omega⟩
        obtain ⟨g2, j1, j2⟩ := a5 t 0 v (by omega) (Nat.zero_le _) E c s r g hc
        obtain ⟨g4, l1, l2, l3, l4, l5⟩ := b1 t 0 v0 (by omega) (Nat.zero_le _) E c s r g2 (CI_of hc j2 a3)
        exact ⟨g4, (HC t i v E c s g g2 j1).trans l1, l2, frE_tr j2.2.1 l3, l4, l5⟩
      · obtain ⟨g2, v3, v4, v5, j1, j2, j3⟩ := a6 t E c s g w3 w4 w5 hm hp
        obtain ⟨g3, l1, l2, l3⟩ := b2 t E c s g2 v3 v4 v5 (MI_of hm j2 a4) (HP cm1 g g2 hp j2.2.1 j3)
        exact ⟨g3, j1.trans l1, l2, frM_tr (frM_le j2.2.1 (Nat.zero_le _) (Nat.zero_le _)) l3⟩
    · refine Or.inr ⟨cm2, m2, P1 ++ P2, Q1 ++ Q2, by omega, d2, by simp only [List.length_append]; omega, by simp only [List.length_append]; omega, fun t i v ht hi E c s r g hc => ?_, fun t E c s g w3 w4 w5 hm hp => ?_, HS _ _ _ _ a7 d7, d8⟩
      · obtain ⟨t, rfl⟩ : ∃ t', t = t' + 1 := ⟨t - 1, by omega⟩
        obtain ⟨g2, j1, j2⟩ := a5 t 0 v (by omega) (Nat.zero_le _) E c s r g hc
        obtain ⟨g4, l1, l2⟩ := d5 t 0 v0 (by omega) (Nat.zero_le _) E c s r g2 (CI_of hc j2 a3)
        exact ⟨g4, (HC t i v E c s g g2 j1).trans l1, CO_tr j2 l2⟩
      · obtain ⟨g2, v3, v4, v5, j1, j2, j3⟩ := a6 t E c s g w3 w4 w5 hm hp
        obtain ⟨g3, x3, x4, x5, l1, l2, l3⟩ := d6 t E c s g2 v3 v4 v5 (MI_of hm j2 a4) (HP cm1 g g2 hp j2.2.1 j3)
        exact ⟨g3, x3, x4, x5, j1.trans l1, MO_tr j2 l2, l3⟩
abbrev pr0 (D : Nat) (g : Gm) : Prop := bsM D g ∧ g 116 D = 0
/-- comparisons at this depth are left as they are -/
theorem Res_c {F : Nat → Nat → MV → CF} {K D n : Nat} {w v : Int} {sem : List Int → List Int → Prop} {stop : Bool → Nat → Prop} (h : Res X T L pl F K D (bsM D) (D + 1) w n sem stop tru2) : Res X T L pl F K D (fun g => bsM D g ∧ g 116 D = v) D w n sem stop (fun _ g => g 116 D = v) := by
  rcases h with ⟨fl, b1, b2⟩ | ⟨cm1, m1, P1, Q1, a1, a2, a3, a4, a5, a6, a7, a8⟩
  · exact Or.inl ⟨fl, b1, fun t E c s g w3 w4 w5 hm hp => b2 t E c s g w3 w4 w5 hm hp.1⟩
  · refine Or.inr ⟨cm1, m1, P1, Q1, a1, a2, a3, a4, a5, fun t E c s g w3 w4 w5 hm hp => ?_, a7, a8⟩
    obtain ⟨g', u3, u4, u5, k1, k2, k3⟩ := a6 t E c s g w3 w4 w5 hm hp.1
    exact ⟨g', u3, u4, u5, k1, MO_le k2 (Nat.le_refl _) (by omega), by show g' 116 D = v; rw [k2.2.1 116 D (by unfold zQ zM; omega)]; exact hp.2⟩
def semL (pl : Bool) (D : Nat) (P Q : List Int) : Prop := ∀ P0 Q0, semS pl D P0 Q0 → semT pl D (P0 ++ P) (Q0 ++ Q)
theorem LT_ (hX : XT X) {D : Nat} (hD : D ≤ 5) {n0 : Nat} (IH : ∀ n', n0 ≤ n' → n' ≤ L → PP X T L pl D n') (n : Nat) (h0 : n0 ≤ n) (hn : n ≤ L) (hs2 : st2 T L false n) : Res X T L pl (G54 X D) 45 D (pr0 D) D 0 n (semL pl D) (st3 T L) (flg D) := by
  by_cases hs : sg T L n 60 ∨ sg T L n 61
  case neg =>
    have z1 : ¬ sg T L n 60 := fun q => hs (Or.inl q)
    have z2 : ¬ sg T L n 61 := fun q => hs (Or.inr q)
    refine Or.inr ⟨false, n, [], [], Nat.le_refl _, hn, Nat.le_refl _, Nat.le_refl _, fun t i v ht hi E c s r g hc => ⟨g, ?_, CO_nil hc.1⟩, fun t E c s g w3 w4 w5 hm hp => ⟨g, w3, w4, w5, rfl, MO_nil hm.1, hp.2⟩, fun P0 Q0 h0 => ?_, ⟨hs2, fun _ => ⟨z1, z2⟩⟩⟩
    · obtain ⟨t, rfl⟩ := dd 1 ht hD (by decide)
      show Ev prog clsT X (t + 1) mc54 3 [(2, 9), (0, (D : Int)), (3, 0)] [] (mk E c s (hh g)) = _
      rw [r54_3, call0 (c58t X E c s t hc.1 60), push0, r54_6, cmp_ne, bI_ne0, if_neg (fun z => z z1), call0 (c58t X E c s t hc.1 61), push0, r54_10, cmp_eq, bI_eq0, if_pos z2, r54_28]
    · rw [List.append_nil, List.append_nil]; exact semT_1 h0
  have hlt : n < L := tokT_lt hn (by rcases hs with q | q <;> rw [q.1] <;> decide)
  have hb := nxt_bd (T := T) (L := L) (b := n) hn
  have hb3 := hb.2.2 hlt
  obtain ⟨b, hb60⟩ : ∃ b : Bool, b = decide (sg T L n 60) := ⟨_, rfl⟩
  have hC : ∀ t i v E c s r g, 45 ≤ t + 5 * D → CI T L pl E r n g → ∃ g1, TC T L (nxt T L n) g1 ∧ (∀ x i, ¬ zC x i → g1 x i = g x i) ∧ ∀ g2, DR E L r g2 → F55 X D t 0 v E c s g1 = some ((3, 0), mk E c s (hh g2)) → G54 X D t i v E c s g = some ((3, 0), mk E c s (hh (adR g2 r L (if b = true then 20003 else 20004)))) := by
    intro t i v E c s r g ht hc
    obtain ⟨t, rfl⟩ := dd 5 ht hD (by decide)
    obtain ⟨g1, k1, k2, k3⟩ := c40n X E c s hX t hc.1
    refine ⟨g1, k2, k3, fun g2 hd hsub => ?_⟩
    have hsub : Call prog clsT X (t + 5) 55 [(2, 9), (0, (D : Int))] (mk E c s (hh g1)) = some ((3, 0), mk E c s (hh g2)) := hsub
    have ld : ∀ x : Int, Ev prog clsT X (t + 5) mc54 21 [(2, 9), (0, (D : Int)), (0, x)] [] (mk E c s (hh g1)) = some ((3, 0), mk E c s (hh (adR g2 r L x))) := by
      intro x
      rw [r54_21, call3 hsub, push3, r54_24, rvD E c s hd, call3 (c68d X E c s hd (t + 4) x), push3, r54_28]
    have tl : Ev prog clsT X (t + 5) mc54 14 [(2, 9), (0, (D : Int)), (3, 0)] [(0, bI (sg T L n 60))] (mk E c s (hh g)) = some ((3, 0), mk E c s (hh (adR g2 r L (if b = true then 20003 else 20004)))) := by
      rw [r54_14, cmp_eq, bI_eq0]
      by_cases q : sg T L n 60
      · have hb1 : b = true := by rw [hb60]; exact decide_eq_true q
        rw [if_neg (fun z => z q), call3 k1, push3, ld, hb1]; rfl
      · have hb1 : b = false := by rw [hb60]; exact decide_eq_false q
        rw [if_pos q, call3 k1, push3, ld, hb1]; rfl
    show Ev prog clsT X (t + 5) mc54 3 [(2, 9), (0, (D : Int)), (3, 0)] [] (mk E c s (hh g)) = _
    rw [r54_3, call0 (c58t X E c s (t + 4) hc.1 60), push0, r54_6, cmp_ne, bI_ne0]
    by_cases q : sg T L n 60
    · rw [if_pos (fun z => z q), call0 (c58t X E c s (t + 4) hc.1 60), push0, tl]
    · have q2 : sg T L n 61 := by rcases hs with z | z; exact absurd z q; exact z
      rw [if_neg (fun z => z q), call0 (c58t X E c s (t + 4) hc.1 61), push0, r54_10, cmp_eq, bI_eq0, if_neg (fun z => z q2), call0 (c58t X E c s (t + 4) hc.1 60), push0, tl]
  have e : (if sg T L n 60 then (24 : Int) else 25) = if b = true then 24 else 25 := by
    by_cases q : sg T L n 60
    · have hb1 : b = true := by rw [hb60]; exact decide_eq_true q
      rw [if_pos q, hb1]; rfl
    · have hb1 : b = false := by rw [hb60]; exact decide_eq_false q
      rw [if_neg q, hb1]; rfl
  rcases Res_c (v := 1) (PS_ hX hD IH (nxt T L n) (by omega) hb.2.1) with ⟨fl, b1, b2⟩ | ⟨cm1, m1, P1, Q1, a1, a2, a3, a4, a5, a6, a7, a8⟩
  · refine Or.inl ⟨fl, fun t i v ht hi E c s r g hc => ?_, fun t E c s g w3 w4 w5 hm hp => ?_⟩
    · obtain ⟨g1, k1, k2, k3⟩ := hC t i v E c s r g ht hc
      have hc1 : CI T L pl E r (nxt T L n) g1 := CI_of hc (CO_step hc k1 k2) (by show n + 0 ≤ _; omega)
      obtain ⟨g2, j1, j2, j3, j4, j5⟩ := b1 t 0 v ht (Nat.zero_le _) E c s r g1 hc1
      have hd2 : DR E L r g2 := DR_fr hc1.2.1 j3 j4 j5
      have h7 := adR_7 g2 r L (if b = true then 20003 else 20004) j4 j5
      exact ⟨_, k3 g2 hd2 j1, adR_FA E hd2 j2 _, frE_tr (frE_tr (frE_C k2) j3) (adR_fr g2 r L _), h7.1, h7.2⟩
    · obtain ⟨g', k1, k2, k3⟩ := mcm X E c s (t := t) (D := D) hm (by omega) hp.2 hs w3 w4 w5
      obtain ⟨g2, j1, j2, j3⟩ := b2 t E c s g' _ _ _ (MI_of hm k2 (by show n + 1 ≤ _; omega)) ⟨bsM_fr k2.2.1 hp.1, k3⟩
      exact ⟨g2, k1.trans j1, j2, frM_tr (frM_le k2.2.1 (Nat.zero_le _) (Nat.zero_le _)) j3⟩
  · refine Or.inr ⟨true, m1, P1 ++ [if b = true then 20003 else 20004], (if b = true then 24 else 25) :: Q1, by omega, a2, by simp only [List.length_append, List.length_cons, List.length_nil]; omega, by simp only [List.length_cons]; omega, fun t i v ht hi E c s r g hc => ?_, fun t E c s g w3 w4 w5 hm hp => ?_, fun P0 Q0 h0 => ?_, ⟨a8, fun q => absurd q (by decide)⟩⟩
    · obtain ⟨g1, k1, k2, k3⟩ := hC t i v E c s r g ht hc
      have hs1 := CO_step hc k1 k2
      have hc1 : CI T L pl E r (nxt T L n) g1 := CI_of hc hs1 (by show n + 0 ≤ _; omega)
      obtain ⟨g2, j1, j2⟩ := a5 t 0 v ht (Nat.zero_le _) E c s r g1 hc1
      have hc2 : CI T L pl E r m1 g2 := CI_of hc1 j2 a3
      have h7 : g2 r 7 < L := by
        have q1 := j2.2.2.2; have q2 := hs1.2.2.2; have q3 := hc.2.2.1
        have q4 : ((([] : List Int).length : Nat) : Int) = 0 := rfl
        omega
      exact ⟨_, k3 g2 hc2.2.1 j1, CO_tr (CO_tr hs1 j2) (CO_add j2.1 hc2.2.1 h7 _)⟩
    · obtain ⟨g', k1, k2, k3⟩ := mcm X E c s (t := t) (D := D) hm (by omega) hp.2 hs w3 w4 w5
      have hm1 := MI_of hm k2 (by show n + 1 ≤ _; omega)
      obtain ⟨g2, v3, v4, v5, j1, j2, j3⟩ := a6 t E c s g' _ _ _ hm1 ⟨bsM_fr k2.2.1 hp.1, k3⟩
      rw [e] at k2
      exact ⟨g2, v3, v4, v5, k1.trans j1, MO_tr k2 j2, j3⟩
    · have e1 : P0 ++ (P1 ++ [if b = true then 20003 else 20004]) = P0 ++ P1 ++ [if b = true then 20003 else 20004] := by simp only [List.append_assoc]
      rw [e1]
      exact semT_2 hD h0 a7 b
theorem PT_ (hX : XT X) {D : Nat} (hD : D ≤ 5) {n0 : Nat} (IH : ∀ n', n0 ≤ n' → n' ≤ L → PP X T L pl D n') (n : Nat) (h0 : n0 ≤ n) (hn : n ≤ L) : Res X T L pl (F54 X D) 46 D (pr0 D) D 1 n (semT pl D) (st3 T L) (flg D) := by
  refine seq_gen2 (K := 45) (Sub := F55 X D) (Loop := G54 X D) (v0 := (3, 0)) (preL := fun _ => pr0 D) (postS := fun _ g => g 116 D = 0) (semS := semS pl D) (semL := semL pl D) (stopS := st2 T L) (fun t i v E c s g g2 h => ?_) (fun t i v E c s g F ht hf => ?_) (fun _ g g2 h1 h2 h3 => ⟨bsM_fr h2 h1.1, h3⟩) (fun P Q P' Q' h1 h2 => h2 P Q h1) (by omega) (Res_c (PS_ hX hD IH n h0 hn)) (fun _ m h1 h2 h3 => LT_ hX hD IH m (by omega) h2 h3)
  · have h : Call prog clsT X t 55 [(2, 9), (0, (D : Int))] (mk E c s (hh g)) = some ((3, 0), mk E c s (hh g2)) := h
    show Call prog clsT X (t + 1) 54 [(2, 9), (0, (D : Int))] (mk E c s (hh g)) = Ev prog clsT X t mc54 3 [(2, 9), (0, (D : Int)), (3, 0)] [] (mk E c s (hh g2))
    rw [rc54_, call3 h, push3]
  · obtain ⟨t, rfl⟩ := dd 1 ht hD (by decide)
    exact c54ft X E c s hf t D
/-- and, or -/
theorem LE_ (hX : XT X) {D : Nat} (hD : D ≤ 5) {n0 : Nat} (IH : ∀ n', n0 ≤ n' → n' ≤ L → PP X T L pl D n') : ∀ k n cm0, L - n ≤ k → n0 ≤ n → n ≤ L → st3 T L cm0 n → Res X T L pl (G53 X D) 46 D (fun g => bsM D g ∧ flg D cm0 g) D 0 n (semTr (semE pl D)) (st4 T L) (flg D) := by
  have fin : ∀ n cm0, n ≤ L → st3 T L cm0 n → ¬ wd T L n lAnd → ¬ wd T L n lOr → Res X T L pl (G53 X D) 46 D (fun g => bsM D g ∧ flg D cm0 g) D 0 n (semTr (semE pl D)) (st4 T L) (flg D) := by
    intro n cm0 hn h3 z1 z2
    refine loop_end (preL := fun cm g => bsM D g ∧ flg D cm g) (cm0 := cm0) hn (fun t i v E c s r g ht hi hc => ?_) (fun g h => h.2) ⟨⟨h3.1.1, h3.1.2.1, h3.1.2.2, z1, z2⟩, h3.2⟩
    obtain ⟨t, rfl⟩ := dd 6 ht hD (by decide)
    show Ev prog clsT X (t + 6) mc53 5 [(2, 9), (0, (D : Int)), (0, (i : Int)), v] [] (mk E c s (hh g)) = _
    rw [r53_5, cmp_ge]
    by_cases q : (1000 : Int) ≤ i
    · rw [if_pos q]
    · rw [if_neg q, call0 (c50t X E c s hX.2.2.2.2.2.2.2.1 t hc.1), push0, r53_11, cmp_ne, bI_ne0, if_neg (fun z => z z1), call0 (c50t X E c s hX.2.2.2.2.2.2.2.2.1 t hc.1), push0, r53_15, cmp_eq, bI_eq0, if_pos z2]
  intro k
  induction k with
  | zero =>
    intro n cm0 hk h0 hn h3
    have hs : ∀ l, ¬ wd T L n l := fun l q => by have := tokT_lt hn (by rw [q.1]; decide); omega
    exact fin n cm0 hn h3 (hs _) (hs _)
  | succ k ih =>
    intro n cm0 hk h0 hn h3
    by_cases hs : wd T L n lAnd ∨ wd T L n lOr
    case neg => exact fin n cm0 hn h3 (fun q => hs (Or.inl q)) (fun q => hs (Or.inr q))
    have hlt : n < L := tokT_lt hn (by rcases hs with q | q <;> rw [q.1] <;> decide)
    have hb := nxt_bd (T := T) (L := L) (b := n) hn
    have hb3 := hb.2.2 hlt
    obtain ⟨b, hba⟩ : ∃ b : Bool, b = decide (wd T L n lAnd) := ⟨_, rfl⟩
    refine loop_gen (Sub := F54 X D) (op := if b = true then 20001 else 20002) (qc := if b = true then 26 else 27) (cm0 := cm0) (preS := pr0 D) (preL := fun cm g => bsM D g ∧ flg D cm g) (postS := flg D) (semS := semT pl D) (stopS := st3 T L) hlt (fun t i v E c s r g ht hi hc => ?_) (fun t i v E c s g F ht hf => ?_) (fun t E c s g w3 w4 w5 hm hp => ?_) (fun _ g g2 h1 h2 h3 => ⟨bsM_fr h2 h1.1, h3⟩) (fun P0 Q0 P1 Q1 h1 h2 => semE_s hD h1 h2 b) (PT_ hX hD IH _ (by omega) hb.2.1) (fun cm m h1 h2 h3 => ih m cm (by omega) (by omega) h2 h3)
    · have hL := hc.1.1
      obtain ⟨t, rfl⟩ := dd 6 ht hD (by decide)
      obtain ⟨g1, k1, k2, k3⟩ := c40n X E c s hX (t + 1) hc.1
      refine ⟨g1, k2, k3, fun g2 hd hsub => ⟨(0, if b = true then 20001 else 20002), ?_⟩⟩
      have hsub : Call prog clsT X (t + 6) 54 [(2, 9), (0, (D : Int))] (mk E c s (hh g1)) = some ((3, 0), mk E c s (hh g2)) := hsub
      have tl : Ev prog clsT X (t + 6) mc53 19 [(2, 9), (0, (D : Int)), (0, (i : Int)), (3, 0)] [(0, bI (wd T L n lAnd))] (mk E c s (hh g)) = G53 X D (t + 6) (i + 1) (0, if b = true then 20001 else 20002) E c s (adR g2 r L (if b = true then 20001 else 20002)) := by
        have ld : ∀ x : Int, Ev prog clsT X (t + 6) mc53 26 [(2, 9), (0, (D : Int)), (0, (i : Int)), (0, x)] [] (mk E c s (hh g1)) = G53 X D (t + 6) (i + 1) (0, x) E c s (adR g2 r L x) := by
          intro x
          rw [r53_26, call3 hsub, push3, r53_29, rvD E c s hd, call3 (c68d X E c s hd (t + 5) x), push3, r53_33, w32_succ (by omega)]
          rfl
        rw [r53_19, cmp_eq, bI_eq0]
        by_cases q : wd T L n lAnd
        · have hb1 : b = true := by rw [hba]; exact decide_eq_true q
          rw [if_neg (fun z => z q), call3 k1, push3, ld, hb1]; rfl
        · have hb1 : b = false := by rw [hba]; exact decide_eq_false q
          rw [if_pos q, call3 k1, push3, ld, hb1]; rfl
      show Ev prog clsT X (t + 6) mc53 5 [(2, 9), (0, (D : Int)), (0, (i : Int)), v] [] (mk E c s (hh g)) = _
      rw [r53_5, cmp_ge, if_neg (by omega), call0 (c50t X E c s hX.2.2.2.2.2.2.2.1 t hc.1), push0, r53_11, cmp_ne, bI_ne0]
      by_cases q : wd T L n lAnd
      · rw [if_pos (fun z => z q), call0 (c50t X E c s hX.2.2.2.2.2.2.2.1 t hc.1), push0, tl]
      · have q2 : wd T L n lOr := by rcases hs with z | z; exact absurd z q; exact z
        rw [if_neg (fun z => z q), call0 (c50t X E c s hX.2.2.2.2.2.2.2.2.1 t hc.1), push0, r53_15, cmp_eq, bI_eq0, if_neg (fun z => z q2), call0 (c50t X E c s hX.2.2.2.2.2.2.2.1 t hc.1), push0, tl]
    · obtain ⟨t, rfl⟩ := dd 1 ht hD (by decide)
      exact c53fl X E c s hf t D i v
    · obtain ⟨g', k1, k2, k3⟩ := mao X E c s (t := t) (D := D) hm (by omega) hs w3 w4 w5
      have e : (if wd T L n lAnd then (26 : Int) else 27) = if b = true then 26 else 27 := by
        by_cases q : wd T L n lAnd
        · have hb1 : b = true := by rw [hba]; exact decide_eq_true q
          rw [if_pos q, hb1]; rfl
        · have hb1 : b = false := by rw [hba]; exact decide_eq_false q
          rw [if_neg q, hb1]; rfl
      rw [e] at k2
      exact ⟨g', _, _, _, k1, k2, bsM_fr k2.2.1 hp.1, k3⟩
theorem PE_ (hX : XT X) {D : Nat} (hD : D ≤ 5) {n0 : Nat} (IH : ∀ n', n0 ≤ n' → n' ≤ L → PP X T L pl D n') (n : Nat) (h0 : n0 ≤ n) (hn : n ≤ L) : Res X T L pl (F53 X D) 47 D (pr0 D) D 1 n (semE pl D) (st4 T L) (flg D) := by
  refine seq_gen (K := 46) (Sub := F54 X D) (Loop := G53 X D) (v0 := (3, 0)) (preL := fun cm g => bsM D g ∧ flg D cm g) (postS := flg D) (semS := semT pl D) (stopS := st3 T L) (fun t i v E c s g g2 h => ?_) (fun t i v E c s g F ht hf => ?_) (fun _ g g2 h1 h2 h3 => ⟨bsM_fr h2 h1.1, h3⟩) (fun _ _ => semE_1) (by omega) (PT_ hX hD IH n h0 hn) (fun cm m h1 h2 h3 => LE_ hX hD IH (L - m) m cm (Nat.le_refl _) (by omega) h2 h3)
  · have h : Call prog clsT X t 54 [(2, 9), (0, (D : Int))] (mk E c s (hh g)) = some ((3, 0), mk E c s (hh g2)) := h
    show Call prog clsT X (t + 1) 53 [(2, 9), (0, (D : Int))] (mk E c s (hh g)) = Ev prog clsT X t mc53 5 [(2, 9), (0, (D : Int)), (0, 0), (3, 0)] [] (mk E c s (hh g2))
    rw [rc53_, call3 h, push3, r53_3]
  · obtain ⟨t, rfl⟩ := dd 1 ht hD (by decide)
    exact c53fl X E c s hf t D i v
end TESTS
