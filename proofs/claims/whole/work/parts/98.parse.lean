/-! Part 98: expressions are read alike: loops and sequences in general. -/
abbrev Gm : Type := Nat → Nat → Int
section GEN
variable (X : MExt) (T : Nat → Int) (L : Nat) (pl : Bool)
abbrev tru (_ : Gm) : Prop := True
abbrev tru2 (_ : Bool) (_ : Gm) : Prop := True
def Res (F : Nat → Nat → MV → CF) (K D : Nat) (pre : Gm → Prop) (lo' : Nat) (w : Int) (n : Nat) (sem : List Int → List Int → Prop) (stop : Bool → Nat → Prop) (post : Bool → Gm → Prop) : Prop :=
  (∃ fl, (∀ t i v, K ≤ t + 5 * D → i ≤ n → cBad T L pl (F t i v) n fl) ∧ mBad T L pl X pre D w n fl) ∨
  ∃ cm m P Q, n ≤ m ∧ m ≤ L ∧ n + P.length ≤ m ∧ n + Q.length ≤ m ∧ (∀ t i v, K ≤ t + 5 * D → i ≤ n → cOK T L pl (F t i v) n m P) ∧ mOK T L pl X pre (fun _ => D) lo' D w n m Q (post cm) ∧ sem P Q ∧ stop cm m
def semTr (sem : List Int → List Int → Prop) (P Q : List Int) : Prop := ∀ P0 Q0, sem P0 Q0 → sem (P0 ++ P) (Q0 ++ Q)
end GEN
section GEN2
variable {X : MExt} {T : Nat → Int} {L : Nat} {pl : Bool}
theorem loop_gen {Sub Loop : Nat → Nat → MV → CF} {K D n lo' : Nat} {op qc : Int} {cm0 : Bool} {preS : Gm → Prop} {preL : Bool → Gm → Prop} {postS postL : Bool → Gm → Prop} {sem semS : List Int → List Int → Prop} {stopS stopL : Bool → Nat → Prop}
    (hlt : n < L)
    (HC : ∀ t i v E c s r g, K ≤ t + 5 * D → i ≤ n → CI T L pl E r n g → ∃ g1, TC T L (nxt T L n) g1 ∧ (∀ x i, ¬ zC x i → g1 x i = g x i) ∧ ∀ g2, DR E L r g2 → Sub t 0 v E c s g1 = some ((3, 0), mk E c s (hh g2)) → ∃ v', Loop t i v E c s g = Loop t (i + 1) v' E c s (adR g2 r L op))
    (HF : ∀ t i v E c s g F, K ≤ t + 5 * D → FA g F → Loop t i v E c s g = some ((3, 0), mk E c s (hh g)))
    (HM : ∀ t E c s g w3 w4 w5, MI T L pl n g → preL cm0 g → ∃ g' u3 u4 u5, RHd X E c s t D 0 g w3 w4 w5 = RHd X E c s t D 1 g' u3 u4 u5 ∧ MO T L (nxt T L n) [qc] D lo' g g' ∧ preS g')
    (HP : ∀ cm g g2, preL cm0 g → frM D lo' g g2 → postS cm g2 → preL cm g2)
    (HS : ∀ P0 Q0 P1 Q1, sem P0 Q0 → semS P1 Q1 → sem (P0 ++ P1 ++ [op]) (Q0 ++ qc :: Q1))
    (hsub : Res X T L pl Sub K D preS lo' 1 (nxt T L n) semS stopS postS)
    (hloop : ∀ cm m, nxt T L n ≤ m → m ≤ L → stopS cm m → Res X T L pl Loop K D (preL cm) lo' 0 m (semTr sem) stopL postL) :
    Res X T L pl Loop K D (preL cm0) lo' 0 n (semTr sem) stopL postL := by
  have hb := nxt_bd (T := T) (L := L) (b := n) (by omega)
  have hn1 : n + 1 ≤ nxt T L n := by have := hb.2.2 hlt; omega
  rcases hsub with ⟨fl, b1, b2⟩ | ⟨cm1, m1, P1, Q1, a1, a2, a3, a4, a5, a6, a7, a8⟩
  · refine Or.inl ⟨fl, fun t i v ht hi E c s r g hc => ?_, fun t E c s g w3 w4 w5 hm hp => ?_⟩
    · obtain ⟨g1, k1, k2, k3⟩ := HC t i v E c s r g ht hi hc
      have hc1 : CI T L pl E r (nxt T L n) g1 := CI_of hc (CO_step hc k1 k2) (by show n + 0 ≤ _; omega)
      obtain ⟨g2, j1, j2, j3, j4, j5⟩ := b1 t 0 v ht (Nat.zero_le _) E c s r g1 hc1
      have hd2 : DR E L r g2 := DR_fr hc1.2.1 j3 j4 j5
      obtain ⟨v', e⟩ := k3 g2 hd2 j1
      have hf3 : FA (adR g2 r L op) fl := adR_FA E hd2 j2 op
      have h7 := adR_7 g2 r L op j4 j5
      refine ⟨adR g2 r L op, ?_, hf3, frE_tr (frE_tr (frE_C k2) j3) (adR_fr g2 r L op), h7.1, h7.2⟩
      rw [e]
      exact HF t (i + 1) v' E c s _ fl ht hf3
    · obtain ⟨g', u3, u4, u5, k1, k2, k3⟩ := HM t E c s g w3 w4 w5 hm hp
      obtain ⟨g2, j1, j2, j3⟩ := b2 t E c s g' u3 u4 u5 (MI_of hm k2 (by show n + 1 ≤ _; omega)) k3
      exact ⟨g2, k1.trans j1, j2, frM_tr (frM_le k2.2.1 (Nat.zero_le _) (Nat.zero_le _)) j3⟩
  · rcases hloop cm1 m1 a1 a2 a8 with ⟨fl, b1, b2⟩ | ⟨cm2, m2, P2, Q2, d1, d2, d3, d4, d5, d6, d7, d8⟩
    · refine Or.inl ⟨fl, fun t i v ht hi E c s r g hc => ?_, fun t E c s g w3 w4 w5 hm hp => ?_⟩
      · obtain ⟨g1, k1, k2, k3⟩ := HC t i v E c s r g ht hi hc
        have hs1 := CO_step hc k1 k2
        have hc1 : CI T L pl E r (nxt T L n) g1 := CI_of hc hs1 (by show n + 0 ≤ _; omega)
        obtain ⟨g2, j1, j2⟩ := a5 t 0 v ht (Nat.zero_le _) E c s r g1 hc1
        have hc2 : CI T L pl E r m1 g2 := CI_of hc1 j2 a3
        obtain ⟨v', e⟩ := k3 g2 hc2.2.1 j1
        have h7 : g2 r 7 < L := by
          have q1 := j2.2.2.2; have q2 := hs1.2.2.2; have q3 := hc.2.2.1
          have q4 : ((([] : List Int).length : Nat) : Int) = 0 := rfl
          omega
        have hs3 := CO_add j2.1 hc2.2.1 h7 op
        have hc3 : CI T L pl E r m1 (adR g2 r L op) := CI_of hc (CO_tr (CO_tr hs1 j2) hs3) (by simp only [List.length_append, List.length_nil, List.length_cons]; omega)
        obtain ⟨g4, l1, l2, l3, l4, l5⟩ := b1 t (i + 1) v' ht (by omega) E c s r _ hc3
        exact ⟨g4, e.trans l1, l2, frE_tr (CO_tr (CO_tr hs1 j2) hs3).2.1 l3, l4, l5⟩
      · obtain ⟨g', u3, u4, u5, k1, k2, k3⟩ := HM t E c s g w3 w4 w5 hm hp
        have hm1 := MI_of hm k2 (by show n + 1 ≤ _; omega)
        obtain ⟨g2, v3, v4, v5, j1, j2, j3⟩ := a6 t E c s g' u3 u4 u5 hm1 k3
        have hf := MO_tr k2 j2
        obtain ⟨g3, l1, l2, l3⟩ := b2 t E c s g2 v3 v4 v5 (MI_of hm1 j2 a4) (HP cm1 g g2 hp hf.2.1 j3)
        exact ⟨g3, k1.trans (j1.trans l1), l2, frM_tr (frM_le hf.2.1 (Nat.zero_le _) (Nat.zero_le _)) l3⟩
    · refine Or.inr ⟨cm2, m2, (P1 ++ [op]) ++ P2, (qc :: Q1) ++ Q2, by omega, d2, by simp only [List.length_append, List.length_nil, List.length_cons]; omega, by simp only [List.length_append, List.length_cons]; omega, fun t i v ht hi E c s r g hc => ?_, fun t E c s g w3 w4 w5 hm hp => ?_, fun P0 Q0 h0 => ?_, d8⟩
      · obtain ⟨g1, k1, k2, k3⟩ := HC t i v E c s r g ht hi hc
        have hs1 := CO_step hc k1 k2
        have hc1 : CI T L pl E r (nxt T L n) g1 := CI_of hc hs1 (by show n + 0 ≤ _; omega)
        obtain ⟨g2, j1, j2⟩ := a5 t 0 v ht (Nat.zero_le _) E c s r g1 hc1
        have hc2 : CI T L pl E r m1 g2 := CI_of hc1 j2 a3
        obtain ⟨v', e⟩ := k3 g2 hc2.2.1 j1
        have h7 : g2 r 7 < L := by
          have q1 := j2.2.2.2; have q2 := hs1.2.2.2; have q3 := hc.2.2.1
          have q4 : ((([] : List Int).length : Nat) : Int) = 0 := rfl
          omega
        have hs3 := CO_add j2.1 hc2.2.1 h7 op
        have hc3 : CI T L pl E r m1 (adR g2 r L op) := CI_of hc (CO_tr (CO_tr hs1 j2) hs3) (by simp only [List.length_append, List.length_nil, List.length_cons]; omega)
        obtain ⟨g4, l1, l2⟩ := d5 t (i + 1) v' ht (by omega) E c s r _ hc3
        exact ⟨g4, e.trans l1, CO_tr (CO_tr (CO_tr hs1 j2) hs3) l2⟩
      · obtain ⟨g', u3, u4, u5, k1, k2, k3⟩ := HM t E c s g w3 w4 w5 hm hp
        have hm1 := MI_of hm k2 (by show n + 1 ≤ _; omega)
        obtain ⟨g2, v3, v4, v5, j1, j2, j3⟩ := a6 t E c s g' u3 u4 u5 hm1 k3
        have hf := MO_tr k2 j2
        obtain ⟨g3, x3, x4, x5, l1, l2, l3⟩ := d6 t E c s g2 v3 v4 v5 (MI_of hm1 j2 a4) (HP cm1 g g2 hp hf.2.1 j3)
        exact ⟨g3, x3, x4, x5, k1.trans (j1.trans l1), MO_tr hf l2, l3⟩
      · have h1 := d7 _ _ (HS P0 Q0 P1 Q1 h0 a7)
        have e1 : P0 ++ ((P1 ++ [op]) ++ P2) = (P0 ++ P1 ++ [op]) ++ P2 := by simp only [List.append_assoc]
        have e2 : Q0 ++ ((qc :: Q1) ++ Q2) = (Q0 ++ qc :: Q1) ++ Q2 := by simp only [List.append_assoc]
        rw [e1, e2]
        exact h1
theorem seq_gen {M Sub Loop : Nat → Nat → MV → CF} {K D n lo' : Nat} {v0 : MV} {pre : Gm → Prop} {preL : Bool → Gm → Prop} {postS postL : Bool → Gm → Prop} {sem semS : List Int → List Int → Prop} {stopS stopL : Bool → Nat → Prop}
    (HC : ∀ t i v E c s g g2, Sub t 0 v E c s g = some ((3, 0), mk E c s (hh g2)) → M (t + 1) i v E c s g = Loop t 0 v0 E c s g2)
    (HF : ∀ t i v E c s g F, K ≤ t + 5 * D → FA g F → Loop t i v E c s g = some ((3, 0), mk E c s (hh g)))
    (HP : ∀ cm g g2, pre g → frM D lo' g g2 → postS cm g2 → preL cm g2)
    (HS : ∀ P Q, semS P Q → sem P Q)
    (hD : 5 * D < K)
    (hsub : Res X T L pl Sub K D pre lo' 1 n semS stopS postS)
    (hloop : ∀ cm m, n ≤ m → m ≤ L → stopS cm m → Res X T L pl Loop K D (preL cm) lo' 0 m (semTr sem) stopL postL) :
    Res X T L pl M (K + 1) D pre lo' 1 n sem stopL postL := by
  rcases hsub with ⟨fl, b1, b2⟩ | ⟨cm1, m1, P1, Q1, a1, a2, a3, a4, a5, a6, a7, a8⟩
  · refine Or.inl ⟨fl, fun t i v ht hi E c s r g hc => ?_, b2⟩
    obtain ⟨t, rfl⟩ : ∃ t', t = t' + 1 := ⟨t - 1, by omega⟩
    obtain ⟨g2, j1, j2, j3, j4, j5⟩ := b1 t 0 v (by omega) (Nat.zero_le _) E c s r g hc
    exact ⟨g2, (HC t i v E c s g g2 j1).trans (HF t 0 v0 E c s g2 fl (by omega) j2), j2, j3, j4, j5⟩
  · rcases hloop cm1 m1 a1 a2 a8 with ⟨fl, b1, b2⟩ | ⟨cm2, m2, P2, Q2, d1, d2, d3, d4, d5, d6, d7, d8⟩
    · refine Or.inl ⟨fl, fun t i v ht hi E c s r g hc => ?_, fun t E c s g w3 w4 w5 hm hp => ?_⟩
      · obtain ⟨t, rfl⟩ : ∃ t', t = t' + 1 := ⟨t - 1, by omega⟩
        obtain ⟨g2, j1, j2⟩ := a5 t 0 v (by omega) (Nat.zero_le _) E c s r g hc
        obtain ⟨g4, l1, l2, l3, l4, l5⟩ := b1 t 0 v0 (by omega) (Nat.zero_le _) E c s r g2 (CI_of hc j2 a3)
        exact ⟨g4, (HC t i v E c s g g2 j1).trans l1, l2, frE_tr j2.2.1 l3, l4, l5⟩
      · obtain ⟨g2, v3, v4, v5, j1, j2, j3⟩ := a6 t E c s g w3 w4 w5 hm hp
        obtain ⟨g3, l1, l2, l3⟩ := b2 t E c s g2 v3 v4 v5 (MI_of hm j2 a4) (HP cm1 g g2 hp j2.2.1 j3)
        exact ⟨g3, j1.trans l1, l2, frM_tr (frM_le j2.2.1 (Nat.zero_le _) (Nat.zero_le _)) l3⟩
    · refine Or.inr ⟨cm2, m2, P1 ++ P2, Q1 ++ Q2, by omega, d2, by simp only [List.length_append]; omega, by simp only [List.length_append]; omega, fun t i v ht hi E c s r g hc => ?_, fun t E c s g w3 w4 w5 hm hp => ?_, d7 _ _ (HS _ _ a7), d8⟩
      · obtain ⟨t, rfl⟩ : ∃ t', t = t' + 1 := ⟨t - 1, by omega⟩
        obtain ⟨g2, j1, j2⟩ := a5 t 0 v (by omega) (Nat.zero_le _) E c s r g hc
        obtain ⟨g4, l1, l2⟩ := d5 t 0 v0 (by omega) (Nat.zero_le _) E c s r g2 (CI_of hc j2 a3)
        exact ⟨g4, (HC t i v E c s g g2 j1).trans l1, CO_tr j2 l2⟩
      · obtain ⟨g2, v3, v4, v5, j1, j2, j3⟩ := a6 t E c s g w3 w4 w5 hm hp
        obtain ⟨g3, x3, x4, x5, l1, l2, l3⟩ := d6 t E c s g2 v3 v4 v5 (MI_of hm j2 a4) (HP cm1 g g2 hp j2.2.1 j3)
        exact ⟨g3, x3, x4, x5, j1.trans l1, MO_tr j2 l2, l3⟩
/-- nothing more: the loop ends here -/
theorem loop_end {Loop : Nat → Nat → MV → CF} {K D n lo' : Nat} {cm0 : Bool} {preL : Bool → Gm → Prop} {postL : Bool → Gm → Prop} {sem : List Int → List Int → Prop} {stopL : Bool → Nat → Prop} (hn : n ≤ L)
    (HC : ∀ t i v E c s r g, K ≤ t + 5 * D → i ≤ n → CI T L pl E r n g → Loop t i v E c s g = some ((3, 0), mk E c s (hh g)))
    (HP : ∀ g, preL cm0 g → postL cm0 g) (hst : stopL cm0 n) :
    Res X T L pl Loop K D (preL cm0) lo' 0 n (semTr sem) stopL postL :=
  Or.inr ⟨cm0, n, [], [], Nat.le_refl _, hn, Nat.le_refl _, Nat.le_refl _, fun t i v ht hi E c s r g hc => ⟨g, HC t i v E c s r g ht hi hc, CO_nil hc.1⟩, fun t E c s g w3 w4 w5 hm hp => ⟨g, w3, w4, w5, rfl, MO_nil hm.1, HP g hp⟩, fun P0 Q0 h0 => by rw [List.append_nil, List.append_nil]; exact h0, hst⟩
end GEN2
