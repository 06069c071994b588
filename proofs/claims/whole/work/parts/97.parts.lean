/-! Part 97: where a part begins. -/
theorem wd_inj {T : Nat → Int} {L n : Nat} {l l' : List Int} (h : wd T L n l) (h' : wd T L n l') : l = l' := by
  have hlen : l.length = l'.length := h.2.1.symm.trans h'.2.1
  refine List.ext_getElem hlen (fun i h1 h2 => ?_)
  have e1 := h.2.2 i h1
  have e2 := h'.2.2 i h2
  rw [Nat.zero_add] at e1 e2
  have e := e1.symm.trans e2
  simpa [List.getD_eq_getElem?_getD, h1, h2] using e
theorem fc_bd {pl : Bool} {T : Nat → Int} {L n : Nat} : 0 ≤ fc pl T L n ∧ fc pl T L n ≤ 11 ∧ (fc pl T L n ≠ 0 → tokT T L n = 1) := by
  unfold fc col
  have h := colO_bd (T := T) (L := L) (b := n) (ws := if pl = true then wPF else wEF) (if pl = true then wPF else wEF).length 0
  have hl : (if pl = true then wPF else wEF).length ≤ 11 := by cases pl <;> decide
  rcases h with h | h
  · rw [h]; exact ⟨by decide, by decide, fun q => absurd rfl q⟩
  · exact ⟨by omega, by omega, fun _ => h.2.2.1⟩
theorem fc_8 {T : Nat → Int} {L n : Nat} : fc true T L n ≤ 8 := by
  unfold fc col
  have h := colO_bd (T := T) (L := L) (b := n) (ws := if true = true then wPF else wEF) (if true = true then wPF else wEF).length 0
  have hl : (if true = true then wPF else wEF).length ≤ 8 := by decide
  rcases h with h | h
  · rw [h]; decide
  · omega
theorem fc_not {pl : Bool} {T : Nat → Int} {L n : Nat} (h : wd T L n lNot) : fc pl T L n = 0 := by
  unfold fc col
  have hb := colO_bd (T := T) (L := L) (b := n) (ws := if pl = true then wPF else wEF) (if pl = true then wPF else wEF).length 0
  rcases hb with q | q
  · rw [q]; rfl
  · exfalso
    have e := wd_inj h q.2.2
    generalize hk : (colO T L n (if pl = true then wPF else wEF) (if pl = true then wPF else wEF).length 0).toNat = k at e
    have hk2 : k < (if pl = true then wPF else wEF).length := by omega
    clear q hk h
    cases pl with
    | true =>
      have key : ∀ j, j < wPF.length → lNot ≠ wPF.getD j [] := by decide +kernel
      exact key k hk2 e
    | false =>
      have key : ∀ j, j < wEF.length → lNot ≠ wEF.getD j [] := by decide +kernel
      exact key k hk2 e
section PSTART
variable {T : Nat → Int} {L : Nat} {pl : Bool} (X : MExt) (E : List (Nat × Nat)) (c s : Nat) {g : Nat → Nat → Int}
/-- what can begin a part -/
abbrev bgn (pl : Bool) (T : Nat → Int) (L n : Nat) : Prop := fc pl T L n ≠ 0 ∨ wd T L n lNot ∨ sg T L n 40 ∨ tokT T L n = 2
theorem k21 {t D n : Nat} (h : MI T L pl n g) (w3 w4 w5 : MV) : RHd X E c s t D 1 g w3 w4 w5 = Ev prog clsT X (t + 4) mc176 21 [(2, 89), (0, (D : Int)), (0, 1), (0, fc pl T L n), (0, bI (wd T L n lNot)), (3, 0)] [(0, bI (sg T L n 40))] (mk E c s (hh g)) := by
  unfold RHd
  rw [r176_9, cmp_eq, if_neg (by decide), call0 (m177t X E c s (t + 2) h.1 h.2.2.2), push0, r176_13, call0 (w_not X E c s (t + 3) h.1), push0, r176_17, call0 (m180t X E c s (t + 3) h.1 40), push0]
theorem k36 {t D n : Nat} (h : MI T L pl n g) (hb : bgn pl T L n) (w3 w4 w5 : MV) : RHd X E c s t D 1 g w3 w4 w5 = Ev prog clsT X (t + 4) mc176 36 [(2, 89), (0, (D : Int)), (0, 1), (0, fc pl T L n), (0, bI (wd T L n lNot)), (0, bI (sg T L n 40))] [] (mk E c s (hh g)) := by
  rw [k21 X E c s h, r176_21, cmp_ne]
  by_cases q1 : fc pl T L n = 0
  case neg => rw [if_pos q1]
  rw [if_neg (fun z => z q1), cmp_ne, bI_ne0]
  by_cases q2 : wd T L n lNot
  case pos => rw [if_pos (fun z => z q2)]
  rw [if_neg (fun z => z q2), cmp_ne, bI_ne0]
  by_cases q3 : sg T L n 40
  case pos => rw [if_pos (fun z => z q3)]
  have q4 : tokT T L n = 2 := by
    rcases hb with z | z | z | z
    · exact absurd q1 z
    · exact absurd z q2
    · exact absurd z q3
    · exact z
  rw [if_neg (fun z => z q3), cmp_eq, h.1.2.2.2.2.2.2.1, if_pos q4]
/-- no part begins here -/
theorem pbad1 {t D n : Nat} (h : MI T L pl n g) (hb : ¬ bgn pl T L n) (w3 w4 w5 : MV) : RHd X E c s t D 1 g w3 w4 w5 = some ((0, 0), mk E c s (hh (fM g n 1))) := by
  have q1 : fc pl T L n = 0 := Classical.byContradiction (fun q => hb (Or.inl q))
  rw [k21 X E c s h, r176_21, cmp_ne, if_neg (fun z => z q1), cmp_ne, bI_ne0, if_neg (fun z => z (fun q => hb (Or.inr (Or.inl q)))), cmp_ne, bI_ne0, if_neg (fun z => z (fun q => hb (Or.inr (Or.inr (Or.inl q))))), cmp_eq, h.1.2.2.2.2.2.2.1, if_neg (fun q => hb (Or.inr (Or.inr (Or.inr q)))), call0 (m172t X E c s h.1 (t + 3) 1 (by omega)), push0, r176_35, if_pos ⟨rfl, one_z⟩]
/-- too deep -/
theorem pbad5 {t n : Nat} (h : MI T L pl n g) (hb : bgn pl T L n) (w3 w4 w5 : MV) : RHd X E c s t 5 1 g w3 w4 w5 = some ((0, 0), mk E c s (hh (fM g n 5))) := by
  rw [k36 X E c s h hb, r176_36, cmp_ne, if_neg (by decide), call0 (m172t X E c s h.1 (t + 3) 5 (by omega)), push0, r176_42, if_pos ⟨rfl, one_z⟩]
theorem pnot {t D n : Nat} (h : MI T L pl n g) (hD : D < 5) (hs : wd T L n lNot) (w3 w4 w5 : MV) : ∃ g' u3 u4 u5, RHd X E c s t D 1 g w3 w4 w5 = RHd X E c s t (D + 1) 1 g' u3 u4 u5 ∧ MO T L (nxt T L n) [30] D (D + 1) g g' ∧ g' 115 (D + 1) = 1 := by
  have hn : n < L := tokT_lt h.1.2.1 (by rw [hs.1]; decide)
  have hp : MO T L n [30] D (D + 1) g (puM g 30) := MO_put h 30
  have hu : MO T L n [] D (D + 1) (puM g 30) (up (puM g 30) 115 (D + 1) 1) := MO_up hp.1 (Or.inl ⟨rfl, by omega⟩)
  have hv : MO T L n [] D (D + 1) (up (puM g 30) 115 (D + 1) 1) (up (up (puM g 30) 115 (D + 1) 1) 116 (D + 1) (bit1 0)) := MO_up hu.1 (Or.inr ⟨rfl, by omega⟩)
  obtain ⟨g', k1, k2, k3⟩ := m167x X E c s (g := up (up (puM g 30) 115 (D + 1) 1) 116 (D + 1) (bit1 0)) (t + 2) hv.1
  refine ⟨g', (0, fc pl T L n), (0, bI (wd T L n lNot)), (0, bI (sg T L n 40)), ?_, MO_tr (MO_tr (MO_tr hp hu) hv) (MO_step k2 k3), ?_⟩
  · rw [k36 X E c s h (Or.inr (Or.inl hs)), r176_36, cmp_ne, if_pos (by omega), cmp_ne, bI_ne0, if_pos (fun z => z hs), cmp_eq, bI_eq0, if_neg (fun z => z hs), call3 (m181 X E c s h hn (t + 3) 30), push3, r176_54, cmp_eq, bI_eq0, if_neg (fun z => z hs), show w32 ((D : Int) + 1) = ((D + 1 : Nat) : Int) from w32_succ (by omega), inb_is, if_pos (by omega), inb_is, if_pos (by omega), Int.toNat_natCast, call3 k1, push3, r176_94]
    rfl
  · rw [k3 115 (D + 1) (by unfold zM; omega), up_cell (by decide)]; exact up_same
theorem popen {t D n : Nat} (h : MI T L pl n g) (hD : D < 5) (hs : sg T L n 40) (w3 w4 w5 : MV) : ∃ g' u3 u4 u5, RHd X E c s t D 1 g w3 w4 w5 = RHd X E c s t (D + 1) 1 g' u3 u4 u5 ∧ MO T L (nxt T L n) [28] D (D + 1) g g' ∧ g' 115 (D + 1) = 2 ∧ g' 116 (D + 1) = 0 := by
  have hn : n < L := tokT_lt h.1.2.1 (by rw [hs.1]; decide)
  have hx : ¬ wd T L n lNot := fun q => wd_sg q hs
  have hp : MO T L n [28] D (D + 1) g (puM g 28) := MO_put h 28
  have hu : MO T L n [] D (D + 1) (puM g 28) (up (puM g 28) 115 (D + 1) 2) := MO_up hp.1 (Or.inl ⟨rfl, by omega⟩)
  have hv : MO T L n [] D (D + 1) (up (puM g 28) 115 (D + 1) 2) (up (up (puM g 28) 115 (D + 1) 2) 116 (D + 1) (bit1 0)) := MO_up hu.1 (Or.inr ⟨rfl, by omega⟩)
  obtain ⟨g', k1, k2, k3⟩ := m167x X E c s (g := up (up (puM g 28) 115 (D + 1) 2) 116 (D + 1) (bit1 0)) (t + 2) hv.1
  refine ⟨g', (0, fc pl T L n), (0, bI (wd T L n lNot)), (0, bI (sg T L n 40)), ?_, MO_tr (MO_tr (MO_tr hp hu) hv) (MO_step k2 k3), ?_, ?_⟩
  · rw [k36 X E c s h (Or.inr (Or.inr (Or.inl hs))), r176_36, cmp_ne, if_pos (by omega), cmp_ne, bI_ne0, if_neg (fun z => z hx), cmp_eq, bI_eq0, if_neg (fun z => z hs), cmp_eq, bI_eq0, if_pos hx, call3 (m181 X E c s h hn (t + 3) 28), push3, r176_54, cmp_eq, bI_eq0, if_pos hx, show w32 ((D : Int) + 1) = ((D + 1 : Nat) : Int) from w32_succ (by omega), inb_is, if_pos (by omega), inb_is, if_pos (by omega), Int.toNat_natCast, call3 k1, push3, r176_94]
    rfl
  · rw [k3 115 (D + 1) (by unfold zM; omega), up_cell (by decide)]; exact up_same
  · rw [k3 116 (D + 1) (by unfold zM; omega)]; exact up_same
theorem pval {t D n : Nat} (h : MI T L pl n g) (hD : D < 5) (hs : fc pl T L n ≠ 0 ∨ tokT T L n = 2) (w3 w4 w5 : MV) : ∃ g' u3 u4 u5, RHd X E c s t D 1 g w3 w4 w5 = RHd X E c s t (bse g D) 0 g' u3 u4 u5 ∧ MO T L (nxt T L n) [if tokT T L n = 2 then 100 + tnum T L n else fc pl T L n] D (D + 1) g g' := by
  have hb := @fc_bd pl T L n
  have hn : n < L := tokT_lt h.1.2.1 (by rcases hs with q | q; rw [hb.2.2 q]; decide; rw [q]; decide)
  have hx : ¬ wd T L n lNot := fun q => by
    rcases hs with z | z
    · exact z (fc_not q)
    · have := q.1.symm.trans z; exact absurd this (by decide)
  have hy : ¬ sg T L n 40 := fun q => by
    rcases hs with z | z
    · have := q.1.symm.trans (hb.2.2 z); exact absurd this (by decide)
    · have := q.1.symm.trans z; exact absurd this (by decide)
  have key : ∀ x : Int, ∃ g' u3 u4 u5, ((Call prog clsT X (t + 4) 181 [(2, 89), (0, x)] (mk E c s (hh g))).bind fun r2 => if r2.1.1 = 4 then none else Ev prog clsT X (t + 4) mc176 80 [(2, 89), (0, (D : Int)), (0, 1), (0, fc pl T L n), (0, bI (wd T L n lNot)), (0, bI (sg T L n 40))] (pushR r2.1 []) r2.2) = RHd X E c s t (bse g D) 0 g' u3 u4 u5 ∧ MO T L (nxt T L n) [x] D (D + 1) g g' := by
    intro x
    have hp : MO T L n [x] D (D + 1) g (puM g x) := MO_put h x
    obtain ⟨g', k1, k2, k3⟩ := mpopv X E c s (g := puM g x) (t := t) hp.1 D (0, fc pl T L n) (0, bI (wd T L n lNot)) (0, bI (sg T L n 40)) (by omega)
    refine ⟨g', (3, 0), (3, 0), (3, 0), ?_, MO_tr hp (MO_step k2 k3)⟩
    rw [call3 (m181 X E c s h hn (t + 3) x), push3, r176_80, k1, bse_fr hp.2.1]
  rw [k36 X E c s h (by rcases hs with q | q; exact Or.inl q; exact Or.inr (Or.inr (Or.inr q))), r176_36, cmp_ne, if_pos (by omega), cmp_ne, bI_ne0, if_neg (fun z => z hx), cmp_eq, bI_eq0, if_pos hy, cmp_le]
  by_cases q : tokT T L n = 2
  · have hz : fc pl T L n = 0 := Classical.byContradiction (fun z => by have := (hb.2.2 z).symm.trans q; exact absurd this (by decide))
    have ht := tnum_bd q
    rw [if_pos (by omega), if_pos q, h.1.2.2.2.2.2.2.2.1 q, w32_of (by omega) (by omega)]
    exact key _
  · have hz : fc pl T L n ≠ 0 := by rcases hs with z | z; exact z; exact absurd z q
    rw [if_neg (by omega), if_neg q]
    exact key _
end PSTART
/-! the class's side -/
abbrev CF : Type := List (Nat × Nat) → Nat → Nat → (Nat → Nat → Int) → Option MRes
section CSIDE
variable (T : Nat → Int) (L : Nat) (pl : Bool)
def CI (E : List (Nat × Nat)) (r n : Nat) (g : Nat → Nat → Int) : Prop := TC T L n g ∧ DR E L r g ∧ g r 7 ≤ n ∧ g 9 8 = if pl = true then -11 else -10
def CO (r m : Nat) (P : List Int) (g g' : Nat → Nat → Int) : Prop := TC T L m g' ∧ frE r g g' ∧ lst g' r = lst g r ++ P ∧ g' r 7 = g r 7 + P.length
def cOK (F : CF) (n m : Nat) (P : List Int) : Prop := ∀ E c s r g, CI T L pl E r n g → ∃ g', F E c s g = some ((3, 0), mk E c s (hh g')) ∧ CO T L r m P g g'
def cBad (F : CF) (n : Nat) (fl : Int) : Prop := ∀ E c s r g, CI T L pl E r n g → ∃ g', F E c s g = some ((3, 0), mk E c s (hh g')) ∧ FA g' fl ∧ frE r g g' ∧ 0 ≤ g' r 7 ∧ g' r 7 ≤ L
def mOK (X : MExt) (pre : (Nat → Nat → Int) → Prop) (D' : (Nat → Nat → Int) → Nat) (lo' D : Nat) (w : Int) (n m : Nat) (Q : List Int) (post : (Nat → Nat → Int) → Prop) : Prop := ∀ t E c s g w3 w4 w5, MI T L pl n g → pre g → ∃ g' u3 u4 u5, RHd X E c s t D w g w3 w4 w5 = RHd X E c s t (D' g) 0 g' u3 u4 u5 ∧ MO T L m Q D lo' g g' ∧ post g'
def mBad (X : MExt) (pre : (Nat → Nat → Int) → Prop) (D : Nat) (w : Int) (n : Nat) (fl : Int) : Prop := ∀ t E c s g w3 w4 w5, MI T L pl n g → pre g → ∃ g', RHd X E c s t D w g w3 w4 w5 = some ((0, 0), mk E c s (hh g')) ∧ g' 89 25 = fl ∧ frM 0 0 g g'
end CSIDE
section CSIDE2
variable {T : Nat → Int} {L : Nat} {pl : Bool}
theorem CI_of {E : List (Nat × Nat)} {r n m : Nat} {P : List Int} {g g' : Nat → Nat → Int} (h : CI T L pl E r n g) (ho : CO T L r m P g g') (hm : n + P.length ≤ m) : CI T L pl E r m g' := by
  obtain ⟨a1, a2, a3, a4⟩ := h
  obtain ⟨b1, b2, b3, b4⟩ := ho
  have h5 := a2.2.2.2.2.1
  have h6 := b1.2.1
  refine ⟨b1, DR_fr a2 b2 (by omega) (by omega), by omega, ?_⟩
  have := a2.2.2.2.1
  rw [b2 9 8 (by unfold zE; omega)]
  exact a4
theorem CO_tr {r m m' : Nat} {P P' : List Int} {g g1 g2 : Nat → Nat → Int} (h : CO T L r m P g g1) (h2 : CO T L r m' P' g1 g2) : CO T L r m' (P ++ P') g g2 := by
  refine ⟨h2.1, frE_tr h.2.1 h2.2.1, ?_, ?_⟩
  · rw [h2.2.2.1, h.2.2.1, List.append_assoc]
  · rw [h2.2.2.2, h.2.2.2, List.length_append]; push_cast; omega
theorem CO_step {E : List (Nat × Nat)} {r n m : Nat} {g g' : Nat → Nat → Int} (hi : CI T L pl E r n g) (h : TC T L m g') (e : ∀ x i, ¬ zC x i → g' x i = g x i) : CO T L r m [] g g' := by
  have h1 := hi.2.1.2.2.2.1
  refine ⟨h, frE_C e, ?_, ?_⟩
  · unfold lst
    rw [e r 7 (by unfold zC; omega), List.append_nil]
    exact seg_congr _ _ (fun i _ _ => e (r + 4) i (by unfold zC; omega))
  · rw [e r 7 (by unfold zC; omega)]; show _ = _ + ((0 : Nat) : Int); omega
theorem TC_fr {n r : Nat} {g g' : Nat → Nat → Int} (h : TC T L n g) (h1 : 159 ≤ r) (e1 : ∀ i, g' 9 i = g 9 i) (e2 : ∀ i, g' 10 i = g 10 i) : TC T L n g' := by
  obtain ⟨a1, a2, a3, a4, a5, a6, a7, a8, a9, a10⟩ := h
  exact ⟨a1, a2, by rw [e1]; exact a3, fun i hi => by rw [e2]; exact a4 i hi, a5, by rw [e1]; exact a6, by rw [e1]; exact a7, by rw [e1]; exact a8, by rw [e1]; exact a9, fun q => by rw [e1]; exact a10 q⟩
theorem CO_add {E : List (Nat × Nat)} {r n : Nat} {g : Nat → Nat → Int} (hi : TC T L n g) (hd : DR E L r g) (hl : g r 7 < L) (x : Int) : CO T L r n [x] g (adR g r L x) := by
  have h1 := hd.2.2.2.1
  have e : adR g r L x = up (up g (r + 4) (g r 7).toNat x) r 7 (g r 7 + 1) := if_pos hl
  refine ⟨?_, adR_fr g r L x, ?_, ?_⟩
  · rw [e]
    exact TC_fr hi h1 (fun i => by rw [up_ne (by omega), up_ne (by omega)]) (fun i => by rw [up_ne (by omega), up_ne (by omega)])
  · rw [e]; exact lst_add hd.2.2.2.2.1
  · rw [e, up_same]; rfl
theorem CO_nil {r n : Nat} {g : Nat → Nat → Int} (h : TC T L n g) : CO T L r n [] g g := ⟨h, frE_refl _ _, by rw [List.append_nil], by show _ = _ + ((0 : Nat) : Int); omega⟩
theorem MO_nil {n lo lo' : Nat} {g : Nat → Nat → Int} (h : TM T L n g) : MO T L n [] lo lo' g g := ⟨h, frM_refl _ _ _, by rw [List.append_nil], by show _ = _ + ((0 : Nat) : Int); omega⟩
section CRUN
variable (X : MExt) (E : List (Nat × Nat)) (c s : Nat) {g : Nat → Nat → Int}
/-- a fault where none has been -/
theorem c46t {r n : Nat} (h : CI T L pl E r n g) (d : Nat) (k : Int) (hk : 1 ≤ k ∧ k ≤ 5) : ∃ g', Call prog clsT X (d + 1) 46 [(2, 9), (0, k)] (mk E c s (hh g)) = some ((3, 0), mk E c s (hh g')) ∧ FA g' (k + 16 * n) ∧ frE r g g' ∧ g' r 7 = g r 7 := by
  have h1 := h.2.1.2.2.2.1
  have hL := h.1.1; have hn := h.1.2.1
  refine ⟨_, c46 X E c s d k, ?_⟩
  unfold flt
  rw [if_neg (fun q => q h.1.2.2.2.2.2.1), h.1.2.2.2.2.2.2.1, w32_of (x := 16 * (n : Int)) (by omega) (by omega), w32_of (by omega) (by omega)]
  refine ⟨⟨by omega, (up_ne (by omega)).trans up_same, up_same⟩, fun x i a => ?_, ?_⟩
  · rw [up_ne (fun q => a (Or.inl ⟨q.1, by omega, by omega⟩)), up_ne (fun q => a (Or.inl ⟨q.1, by omega, by omega⟩))]
  · rw [up_ne (by omega), up_ne (by omega)]
theorem c68t {r n : Nat} (h : CI T L pl E r n g) (d : Nat) (x : Int) : Call prog clsT X (d + 1) 68 [(2, g 9 2), (0, x)] (mk E c s (hh g)) = some ((3, 0), mk E c s (hh (adR g r L x))) := by
  rw [h.2.1.2.2.1]
  exact c68 X E c s h.2.1.1 h.2.1.2.1 h.2.1.2.2.2.2.1 h.1.1 d x
theorem c68d {r : Nat} (h : DR E L r g) (d : Nat) (x : Int) : Call prog clsT X (d + 1) 68 [(2, g 9 2), (0, x)] (mk E c s (hh g)) = some ((3, 0), mk E c s (hh (adR g r L x))) := by
  rw [h.2.2.1]
  exact c68 X E c s h.1 h.2.1 h.2.2.2.2.1 h.2.2.2.2.2.2 d x
theorem rvD {r : Nat} (h : DR E L r g) {α : Type} {a b : α} : (if (2 : Nat) = 2 ∧ rcv (mk E c s (hh g)) (g 9 2) 8 = true then a else b) = a := by
  rw [h.2.2.1]
  exact rvR E c s h.1.1
end CRUN
end CSIDE2
