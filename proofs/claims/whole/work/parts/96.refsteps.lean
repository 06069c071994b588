/-! Part 96: the reference's automaton, step by step. -/
def lsM (g : Nat → Nat → Int) : List Int := seg (g 114) 12000 (g 89 35 - 12000).toNat
/-- what it may change: open parts above depth lo, comparisons from lo' on -/
def zQ (lo lo' x i : Nat) : Prop := zM x i ∨ (x = 89 ∧ (i = 25 ∨ i = 35)) ∨ (x = 114 ∧ 12000 ≤ i) ∨ (x = 115 ∧ lo < i) ∨ (x = 116 ∧ lo' ≤ i)
def frM (lo lo' : Nat) (g g' : Nat → Nat → Int) : Prop := ∀ x i, ¬ zQ lo lo' x i → g' x i = g x i
theorem frM_refl (lo lo' : Nat) (g : Nat → Nat → Int) : frM lo lo' g g := fun _ _ _ => rfl
theorem frM_tr {lo lo' : Nat} {g g1 g2 : Nat → Nat → Int} (h : frM lo lo' g g1) (h2 : frM lo lo' g1 g2) : frM lo lo' g g2 := fun x i a => (h2 x i a).trans (h x i a)
theorem frM_le {lo lo' l l' : Nat} {g g1 : Nat → Nat → Int} (h : frM l l' g g1) (h1 : lo ≤ l) (h2 : lo' ≤ l') : frM lo lo' g g1 := fun x i a => h x i (fun q => a (by
  rcases q with q | q | q | q | q
  · exact Or.inl q
  · exact Or.inr (Or.inl q)
  · exact Or.inr (Or.inr (Or.inl q))
  · exact Or.inr (Or.inr (Or.inr (Or.inl ⟨q.1, by omega⟩)))
  · exact Or.inr (Or.inr (Or.inr (Or.inr ⟨q.1, by omega⟩)))))
theorem frM_M {lo lo' : Nat} {g g' : Nat → Nat → Int} (h : ∀ x i, ¬ zM x i → g' x i = g x i) : frM lo lo' g g' := fun x i a => h x i (fun q => a (Or.inl q))
def bse (g : Nat → Nat → Int) : Nat → Nat
  | 0 => 0
  | d + 1 => if g 115 (d + 1) = 1 then bse g d else d + 1
abbrev bsM (D : Nat) (g : Nat → Nat → Int) : Prop := D = 0 ∨ g 115 D ≠ 1
theorem bse_bs {D : Nat} {g : Nat → Nat → Int} (h : bsM D g) : bse g D = D := by
  cases D with
  | zero => rfl
  | succ D =>
    rcases h with q | q
    · exact absurd q (by omega)
    · exact if_neg q
theorem bse_le (g : Nat → Nat → Int) : ∀ D, bse g D ≤ D
  | 0 => Nat.le_refl _
  | D + 1 => by
    unfold bse
    split
    · exact Nat.le_succ_of_le (bse_le g D)
    · exact Nat.le_refl _
theorem bse_congr {g g' : Nat → Nat → Int} : ∀ D, (∀ i, i ≤ D → g' 115 i = g 115 i) → bse g' D = bse g D
  | 0, _ => rfl
  | D + 1, h => by
    unfold bse
    rw [h (D + 1) (Nat.le_refl _), bse_congr D (fun i hi => h i (by omega))]
theorem bse_fr {D l : Nat} {g g' : Nat → Nat → Int} (h : frM D l g g') : bse g' D = bse g D := bse_congr D (fun i hi => h 115 i (by unfold zQ zM; omega))
theorem bsM_fr {D l : Nat} {g g' : Nat → Nat → Int} (h : frM D l g g') (hb : bsM D g) : bsM D g' := by
  rcases hb with q | q
  · exact Or.inl q
  · exact Or.inr (by rw [h 115 D (by unfold zQ zM; omega)]; exact q)
def puM (g : Nat → Nat → Int) (x : Int) : Nat → Nat → Int := up (up g 114 (g 89 35).toNat x) 89 35 (g 89 35 + 1)
theorem puM_fr {lo lo' : Nat} (g : Nat → Nat → Int) (x : Int) (h0 : 12000 ≤ g 89 35) : frM lo lo' g (puM g x) := by
  intro y j h
  unfold puM
  rw [up_ne (fun q => h (Or.inr (Or.inl ⟨q.1, Or.inr q.2⟩))), up_ne (fun q => h (Or.inr (Or.inr (Or.inl ⟨q.1, by omega⟩))))]
theorem lsM_put {g : Nat → Nat → Int} {x : Int} (h : 12000 ≤ g 89 35) : lsM (puM g x) = lsM g ++ [x] := by
  have e35 : puM g x 89 35 = g 89 35 + 1 := up_same
  unfold lsM
  rw [e35, show (g 89 35 + 1 - 12000).toNat = (g 89 35 - 12000).toNat + 1 by omega, seg_app]
  congr 1
  · refine seg_congr _ _ (fun i h1 h2 => ?_)
    unfold puM
    rw [up_cell (by decide), up_place (by omega)]
  · show [puM g x 114 (12000 + (g 89 35 - 12000).toNat)] = [x]
    unfold puM
    rw [up_cell (by decide), show 12000 + (g 89 35 - 12000).toNat = (g 89 35).toNat by omega, up_same]
section RSTEP
variable (T : Nat → Int) (L : Nat) (pl : Bool)
def MI (n : Nat) (g : Nat → Nat → Int) : Prop := TM T L n g ∧ 12000 ≤ g 89 35 ∧ g 89 35 ≤ 12000 + n ∧ g 89 36 = if pl = true then 1 else 0
def MO (m : Nat) (Q : List Int) (lo lo' : Nat) (g g' : Nat → Nat → Int) : Prop := TM T L m g' ∧ frM lo lo' g g' ∧ lsM g' = lsM g ++ Q ∧ g' 89 35 = g 89 35 + Q.length
end RSTEP
section RSTEP2
variable {T : Nat → Int} {L : Nat} {pl : Bool}
theorem MI_of {n m lo lo' : Nat} {Q : List Int} {g g' : Nat → Nat → Int} (h : MI T L pl n g) (ho : MO T L m Q lo lo' g g') (hm : n + Q.length ≤ m) : MI T L pl m g' := by
  obtain ⟨a1, a2, a3, a4⟩ := h
  obtain ⟨b1, b2, b3, b4⟩ := ho
  refine ⟨b1, by omega, by omega, ?_⟩
  rw [b2 89 36 (by unfold zQ zM; omega)]
  exact a4
theorem MO_tr {m m' lo lo' : Nat} {Q Q' : List Int} {g g1 g2 : Nat → Nat → Int} (h : MO T L m Q lo lo' g g1) (h2 : MO T L m' Q' lo lo' g1 g2) : MO T L m' (Q ++ Q') lo lo' g g2 := by
  refine ⟨h2.1, frM_tr h.2.1 h2.2.1, ?_, ?_⟩
  · rw [h2.2.2.1, h.2.2.1, List.append_assoc]
  · rw [h2.2.2.2, h.2.2.2, List.length_append]; push_cast; omega
theorem MO_le {m lo lo' l l' : Nat} {Q : List Int} {g g1 : Nat → Nat → Int} (h : MO T L m Q l l' g g1) (h1 : lo ≤ l) (h2 : lo' ≤ l') : MO T L m Q lo lo' g g1 := ⟨h.1, frM_le h.2.1 h1 h2, h.2.2⟩
theorem TM_fr {n : Nat} {g g' : Nat → Nat → Int} (h : TM T L n g) (e1 : ∀ i, 19 ≤ i → i ≤ 24 → g' 89 i = g 89 i) (e2 : ∀ i, g' 105 i = g 105 i) : TM T L n g' := by
  obtain ⟨a1, a2, a3, a4, a5, a6, a7, a8, a9⟩ := h
  refine ⟨a1, a2, by rw [e1 19 (by omega) (by omega)]; exact a3, fun i hi => by rw [e2]; exact a4 i hi, by rw [e1 21 (by omega) (by omega)]; exact a5, by rw [e1 20 (by omega) (by omega)]; exact a6, by rw [e1 22 (by omega) (by omega)]; exact a7, fun q => by rw [e1 24 (by omega) (by omega)]; exact a8 q, fun q => by rw [e1 23 (by omega) (by omega)]; exact a9 q⟩
theorem MO_put {n lo lo' : Nat} {g : Nat → Nat → Int} (h : MI T L pl n g) (x : Int) : MO T L n [x] lo lo' g (puM g x) := by
  refine ⟨TM_fr h.1 (fun i h1 h2 => ?_) (fun i => ?_), puM_fr g x h.2.1, lsM_put h.2.1, ?_⟩
  · unfold puM; rw [up_ne (by omega), up_ne (by omega)]
  · unfold puM; rw [up_ne (by omega), up_ne (by omega)]
  · unfold puM; rw [up_same]; rfl
theorem MO_step {n lo lo' : Nat} {g g' : Nat → Nat → Int} (h : TM T L n g') (e : ∀ x i, ¬ zM x i → g' x i = g x i) : MO T L n [] lo lo' g g' := by
  refine ⟨h, frM_M e, ?_, ?_⟩
  · unfold lsM
    rw [e 89 35 (by unfold zM; omega), List.append_nil]
    exact seg_congr _ _ (fun i _ _ => e 114 i (by unfold zM; omega))
  · rw [e 89 35 (by unfold zM; omega)]; show _ = _ + ((0 : Nat) : Int); omega
/-- a write to the open parts or comparisons -/
theorem MO_up {n lo lo' x i : Nat} {v : Int} {g : Nat → Nat → Int} (h : TM T L n g) (hx : (x = 115 ∧ lo < i) ∨ (x = 116 ∧ lo' ≤ i)) : MO T L n [] lo lo' g (up g x i v) := by
  refine ⟨TM_fr h (fun j _ _ => up_ne (by omega)) (fun j => up_ne (by omega)), fun y j a => up_ne (fun q => a (by
    rcases hx with z | z
    · exact Or.inr (Or.inr (Or.inr (Or.inl ⟨by omega, by omega⟩)))
    · exact Or.inr (Or.inr (Or.inr (Or.inr ⟨by omega, by omega⟩))))), ?_, ?_⟩
  · unfold lsM
    rw [up_ne (by omega), List.append_nil]
    exact seg_congr _ _ (fun j _ _ => up_ne (by omega))
  · rw [up_ne (by omega)]; show _ = _ + ((0 : Nat) : Int); omega
section RUN
variable (X : MExt) (E : List (Nat × Nat)) (c s : Nat) {g : Nat → Nat → Int}
noncomputable def RHd (t D : Nat) (w : Int) (g : Nat → Nat → Int) (w3 w4 w5 : MV) : Option MRes := Ev prog clsT X (t + 4) mc176 9 [(2, 89), (0, (D : Int)), (0, w), w3, w4, w5] [] (mk E c s (hh g))
theorem m181 {n : Nat} (h : MI T L pl n g) (hn : n < L) (d : Nat) (x : Int) : Call prog clsT X (d + 1) 181 [(2, 89), (0, x)] (mk E c s (hh g)) = some ((3, 0), mk E c s (hh (puM g x))) := by
  have h1 := h.2.1; have h2 := h.2.2.1; have h3 := h.1.1
  rw [rc181_, inb_is, if_pos (by omega), w32_of (by omega) (by omega)]
  rfl
/-- the reference finds fault k at n -/
def fM (g : Nat → Nat → Int) (n : Nat) (k : Int) : Nat → Nat → Int := up g 89 25 (k + 16 * n)
theorem m172t {n : Nat} (h : TM T L n g) (d : Nat) (k : Int) (hk : 0 ≤ k ∧ k ≤ 5) : Call prog clsT X (d + 1) 172 [(2, 89), (0, k)] (mk E c s (hh g)) = some ((0, 0), mk E c s (hh (fM g n k))) := by
  have h1 := h.1; have h2 := h.2.1
  rw [m172 X E c s d k, h.2.2.2.2.1, w32_of (x := 16 * (n : Int)) (by omega) (by omega), w32_of (by omega) (by omega)]
  rfl
theorem fM_fr {lo lo' : Nat} (g : Nat → Nat → Int) (n : Nat) (k : Int) : frM lo lo' g (fM g n k) := fun x i a => up_ne (fun q => a (Or.inr (Or.inl ⟨q.1, Or.inl q.2⟩)))
theorem one_z : one01 0 = true := rfl
/-- behind a part: + - * -/
theorem mop {t D n : Nat} (h : MI T L pl n g) (hs : sg T L n 43 ∨ sg T L n 45 ∨ sg T L n 42) (w3 w4 w5 : MV) : ∃ g', RHd X E c s t D 0 g w3 w4 w5 = RHd X E c s t D 1 g' (3, 0) (3, 0) (3, 0) ∧ MO T L (nxt T L n) [if sg T L n 43 then 20 else if sg T L n 45 then 21 else 22] D (D + 1) g g' := by
  have hn : n < L := tokT_lt h.1.2.1 (by rcases hs with q | q | q <;> rw [q.1] <;> decide)
  have tl : ∃ g', Ev prog clsT X (t + 4) mc176 111 [(2, 89), (0, (D : Int)), (0, 0), (3, 0), (3, 0), (3, 0)] [(0, bI (sg T L n 43)), (2, 89)] (mk E c s (hh g)) = RHd X E c s t D 1 g' (3, 0) (3, 0) (3, 0) ∧ MO T L (nxt T L n) [if sg T L n 43 then 20 else if sg T L n 45 then 21 else 22] D (D + 1) g g' := by
    have q : ∀ x : Int, ∃ g', ((Call prog clsT X (t + 4) 181 [(2, 89), (0, x)] (mk E c s (hh g))).bind fun r2 => if r2.1.1 = 4 then none else Ev prog clsT X (t + 4) mc176 122 [(2, 89), (0, (D : Int)), (0, 0), (3, 0), (3, 0), (3, 0)] (pushR r2.1 []) r2.2) = RHd X E c s t D 1 g' (3, 0) (3, 0) (3, 0) ∧ MO T L (nxt T L n) [x] D (D + 1) g g' := by
      intro x
      have hp : MO T L n [x] D (D + 1) g (puM g x) := MO_put h x
      obtain ⟨g', k1, k2, k3⟩ := m167x X E c s (g := puM g x) (t + 2) hp.1
      refine ⟨g', ?_, MO_tr hp (MO_step k2 k3)⟩
      rw [call3 (m181 X E c s h hn (t + 3) x), push3, r176_122, call3 k1, push3, r176_216]
      rfl
    rw [r176_111, cmp_eq, bI_eq0]
    by_cases q1 : sg T L n 43
    · rw [if_neg (fun z => z q1), if_pos q1]; exact q 20
    · rw [if_pos q1, if_neg q1, call0 (m180t X E c s (t + 3) h.1 45), push0, r176_117, cmp_eq, bI_eq0]
      by_cases q2 : sg T L n 45
      · rw [if_neg (fun z => z q2), if_pos q2]; exact q 21
      · rw [if_pos q2, if_neg q2]; exact q 22
  unfold RHd
  rw [r176_9, cmp_eq, if_pos rfl, call0 (m180t X E c s (t + 3) h.1 43), push0, r176_98, cmp_ne, bI_ne0]
  by_cases q1 : sg T L n 43
  · rw [if_pos (fun z => z q1), call0 (m180t X E c s (t + 3) h.1 43), push0]; exact tl
  · rw [if_neg (fun z => z q1), call0 (m180t X E c s (t + 3) h.1 45), push0, r176_102, cmp_ne, bI_ne0]
    by_cases q2 : sg T L n 45
    · rw [if_pos (fun z => z q2), call0 (m180t X E c s (t + 3) h.1 43), push0]; exact tl
    · have q3 : sg T L n 42 := by rcases hs with z | z | z; exact absurd z q1; exact absurd z q2; exact z
      rw [if_neg (fun z => z q2), call0 (m180t X E c s (t + 3) h.1 42), push0, r176_106, cmp_eq, bI_eq0, if_neg (fun z => z q3), call0 (m180t X E c s (t + 3) h.1 43), push0]; exact tl
/-- past + - * -/
theorem k128 {t D n : Nat} (h : TM T L n g) (h1 : ¬ sg T L n 43) (h2 : ¬ sg T L n 45) (h3 : ¬ sg T L n 42) (w3 w4 w5 : MV) : RHd X E c s t D 0 g w3 w4 w5 = Ev prog clsT X (t + 4) mc176 128 [(2, 89), (0, (D : Int)), (0, 0), (3, 0), (3, 0), (3, 0)] [(0, bI (sg T L n 60))] (mk E c s (hh g)) := by
  unfold RHd
  rw [r176_9, cmp_eq, if_pos rfl, call0 (m180t X E c s (t + 3) h 43), push0, r176_98, cmp_ne, bI_ne0, if_neg (fun z => z h1), call0 (m180t X E c s (t + 3) h 45), push0, r176_102, cmp_ne, bI_ne0, if_neg (fun z => z h2), call0 (m180t X E c s (t + 3) h 42), push0, r176_106, cmp_eq, bI_eq0, if_pos h3, call0 (m180t X E c s (t + 3) h 60), push0]
theorem sg_x {T : Nat → Int} {L n : Nat} {a b : Int} (h : sg T L n a) (hab : a ≠ b) : ¬ sg T L n b := fun q => hab (h.2.symm.trans q.2)
/-- < = -/
theorem mcm {t D n : Nat} (h : MI T L pl n g) (hD : D < 7) (hc : g 116 D = 0) (hs : sg T L n 60 ∨ sg T L n 61) (w3 w4 w5 : MV) : ∃ g', RHd X E c s t D 0 g w3 w4 w5 = RHd X E c s t D 1 g' (3, 0) (3, 0) (3, 0) ∧ MO T L (nxt T L n) [if sg T L n 60 then 24 else 25] D D g g' ∧ g' 116 D = 1 := by
  have hn : n < L := tokT_lt h.1.2.1 (by rcases hs with q | q <;> rw [q.1] <;> decide)
  have tl : ∃ g', Ev prog clsT X (t + 4) mc176 142 [(2, 89), (0, (D : Int)), (0, 0), (3, 0), (3, 0), (3, 0)] [(0, bI (sg T L n 60)), (2, 89)] (mk E c s (hh g)) = RHd X E c s t D 1 g' (3, 0) (3, 0) (3, 0) ∧ MO T L (nxt T L n) [if sg T L n 60 then 24 else 25] D D g g' ∧ g' 116 D = 1 := by
    have q : ∀ x : Int, ∃ g', ((Call prog clsT X (t + 4) 181 [(2, 89), (0, x)] (mk E c s (hh g))).bind fun r2 => if r2.1.1 = 4 then none else Ev prog clsT X (t + 4) mc176 147 [(2, 89), (0, (D : Int)), (0, 0), (3, 0), (3, 0), (3, 0)] (pushR r2.1 []) r2.2) = RHd X E c s t D 1 g' (3, 0) (3, 0) (3, 0) ∧ MO T L (nxt T L n) [x] D D g g' ∧ g' 116 D = 1 := by
      intro x
      have hp : MO T L n [x] D D g (puM g x) := MO_put h x
      have hu : MO T L n [] D D (puM g x) (up (puM g x) 116 D (bit1 1)) := MO_up hp.1 (Or.inr ⟨rfl, Nat.le_refl _⟩)
      obtain ⟨g', k1, k2, k3⟩ := m167x X E c s (g := up (puM g x) 116 D (bit1 1)) (t + 2) hu.1
      refine ⟨g', ?_, MO_tr (MO_tr hp hu) (MO_step k2 k3), ?_⟩
      · rw [call3 (m181 X E c s h hn (t + 3) x), push3, r176_147, inb_is, if_pos (by omega), Int.toNat_natCast, call3 k1, push3, r176_216]
        rfl
      · rw [k3 116 D (by unfold zM; omega)]; exact up_same
    rw [r176_142, cmp_eq, bI_eq0]
    by_cases q1 : sg T L n 60
    · rw [if_neg (fun z => z q1), if_pos q1]; exact q 24
    · rw [if_pos q1, if_neg q1]; exact q 25
  have h43 : ¬ sg T L n 43 := by rcases hs with q | q <;> exact sg_x q (by decide)
  have h45 : ¬ sg T L n 45 := by rcases hs with q | q <;> exact sg_x q (by decide)
  have h42 : ¬ sg T L n 42 := by rcases hs with q | q <;> exact sg_x q (by decide)
  rw [k128 X E c s h.1 h43 h45 h42, r176_128, cmp_ne, bI_ne0]
  by_cases q1 : sg T L n 60
  · rw [if_pos (fun z => z q1), inb_is, if_pos (by omega), Int.toNat_natCast, hc, cmp_ne, if_neg (fun z => z rfl), call0 (m180t X E c s (t + 3) h.1 60), push0]; exact tl
  · have q2 : sg T L n 61 := by rcases hs with z | z; exact absurd z q1; exact z
    rw [if_neg (fun z => z q1), call0 (m180t X E c s (t + 3) h.1 61), push0, r176_132, cmp_eq, bI_eq0, if_neg (fun z => z q2), inb_is, if_pos (by omega), Int.toNat_natCast, hc, cmp_ne, if_neg (fun z => z rfl), call0 (m180t X E c s (t + 3) h.1 60), push0]; exact tl
theorem w_and (d : Nat) {n : Nat} (h : TM T L n g) : Call prog clsT X (d + 1) 171 [(2, 89), (1, 1111)] (mk E c s (hh g)) = some ((0, bI (wd T L n lAnd)), mk E c s (hh g)) := m171t X E c s d h (by unfold ltr; decide +kernel) (by decide +kernel)
theorem w_or (d : Nat) {n : Nat} (h : TM T L n g) : Call prog clsT X (d + 1) 171 [(2, 89), (1, 423)] (mk E c s (hh g)) = some ((0, bI (wd T L n lOr)), mk E c s (hh g)) := m171t X E c s d h (by unfold ltr; decide +kernel) (by decide +kernel)
theorem w_not (d : Nat) {n : Nat} (h : TM T L n g) : Call prog clsT X (d + 1) 171 [(2, 89), (1, 10631)] (mk E c s (hh g)) = some ((0, bI (wd T L n lNot)), mk E c s (hh g)) := m171t X E c s d h (by unfold ltr; decide +kernel) (by decide +kernel)
theorem wd_sg {T : Nat → Int} {L n : Nat} {l : List Int} {a : Int} (h : wd T L n l) : ¬ sg T L n a := fun q => by have := h.1.symm.trans q.1; exact absurd this (by decide)
/-- past < = -/
theorem k158 {t D n : Nat} (h : TM T L n g) (hD : D < 7) (hc : g 116 D ≠ 0 ∨ (¬ sg T L n 60 ∧ ¬ sg T L n 61)) : Ev prog clsT X (t + 4) mc176 128 [(2, 89), (0, (D : Int)), (0, 0), (3, 0), (3, 0), (3, 0)] [(0, bI (sg T L n 60))] (mk E c s (hh g)) = Ev prog clsT X (t + 4) mc176 158 [(2, 89), (0, (D : Int)), (0, 0), (3, 0), (3, 0), (3, 0)] [(0, bI (wd T L n lAnd))] (mk E c s (hh g)) := by
  rw [r176_128, cmp_ne, bI_ne0]
  by_cases q1 : sg T L n 60
  · have hz : g 116 D ≠ 0 := by rcases hc with z | z; exact z; exact absurd q1 z.1
    rw [if_pos (fun z => z q1), inb_is, if_pos (by omega), Int.toNat_natCast, cmp_ne, if_pos hz, call0 (w_and X E c s (t + 3) h), push0]
  · rw [if_neg (fun z => z q1), call0 (m180t X E c s (t + 3) h 61), push0, r176_132, cmp_eq, bI_eq0]
    by_cases q2 : sg T L n 61
    · have hz : g 116 D ≠ 0 := by rcases hc with z | z; exact z; exact absurd q2 z.2
      rw [if_neg (fun z => z q2), inb_is, if_pos (by omega), Int.toNat_natCast, cmp_ne, if_pos hz, call0 (w_and X E c s (t + 3) h), push0]
    · rw [if_pos q2, call0 (w_and X E c s (t + 3) h), push0]
/-- and, or -/
theorem mao {t D n : Nat} (h : MI T L pl n g) (hD : D < 7) (hs : wd T L n lAnd ∨ wd T L n lOr) (w3 w4 w5 : MV) : ∃ g', RHd X E c s t D 0 g w3 w4 w5 = RHd X E c s t D 1 g' (3, 0) (3, 0) (3, 0) ∧ MO T L (nxt T L n) [if wd T L n lAnd then 26 else 27] D D g g' ∧ g' 116 D = 0 := by
  have hn : n < L := tokT_lt h.1.2.1 (by rcases hs with q | q <;> rw [q.1] <;> decide)
  have tl : ∃ g', Ev prog clsT X (t + 4) mc176 167 [(2, 89), (0, (D : Int)), (0, 0), (3, 0), (3, 0), (3, 0)] [(0, bI (wd T L n lAnd)), (2, 89)] (mk E c s (hh g)) = RHd X E c s t D 1 g' (3, 0) (3, 0) (3, 0) ∧ MO T L (nxt T L n) [if wd T L n lAnd then 26 else 27] D D g g' ∧ g' 116 D = 0 := by
    have q : ∀ x : Int, ∃ g', ((Call prog clsT X (t + 4) 181 [(2, 89), (0, x)] (mk E c s (hh g))).bind fun r2 => if r2.1.1 = 4 then none else Ev prog clsT X (t + 4) mc176 172 [(2, 89), (0, (D : Int)), (0, 0), (3, 0), (3, 0), (3, 0)] (pushR r2.1 []) r2.2) = RHd X E c s t D 1 g' (3, 0) (3, 0) (3, 0) ∧ MO T L (nxt T L n) [x] D D g g' ∧ g' 116 D = 0 := by
      intro x
      have hp : MO T L n [x] D D g (puM g x) := MO_put h x
      have hu : MO T L n [] D D (puM g x) (up (puM g x) 116 D (bit1 0)) := MO_up hp.1 (Or.inr ⟨rfl, Nat.le_refl _⟩)
      obtain ⟨g', k1, k2, k3⟩ := m167x X E c s (g := up (puM g x) 116 D (bit1 0)) (t + 2) hu.1
      refine ⟨g', ?_, MO_tr (MO_tr hp hu) (MO_step k2 k3), ?_⟩
      · rw [call3 (m181 X E c s h hn (t + 3) x), push3, r176_172, inb_is, if_pos (by omega), Int.toNat_natCast, call3 k1, push3, r176_216]
        rfl
      · rw [k3 116 D (by unfold zM; omega)]; exact up_same
    rw [r176_167, cmp_eq, bI_eq0]
    by_cases q1 : wd T L n lAnd
    · rw [if_neg (fun z => z q1), if_pos q1]; exact q 26
    · rw [if_pos q1, if_neg q1]; exact q 27
  have hz : ∀ a, ¬ sg T L n a := fun a => by rcases hs with q | q <;> exact wd_sg q
  rw [k128 X E c s h.1 (hz _) (hz _) (hz _), k158 X E c s h.1 hD (Or.inr ⟨hz _, hz _⟩), r176_158, cmp_ne, bI_ne0]
  by_cases q1 : wd T L n lAnd
  · rw [if_pos (fun z => z q1), call0 (w_and X E c s (t + 3) h.1), push0]; exact tl
  · have q2 : wd T L n lOr := by rcases hs with z | z; exact absurd z q1; exact z
    rw [if_neg (fun z => z q1), call0 (w_or X E c s (t + 3) h.1), push0, r176_162, cmp_eq, bI_eq0, if_neg (fun z => z q2), call0 (w_and X E c s (t + 3) h.1), push0]; exact tl
/-- no operator can stand here any more -/
abbrev stp (T : Nat → Int) (L n : Nat) : Prop := ¬ sg T L n 43 ∧ ¬ sg T L n 45 ∧ ¬ sg T L n 42 ∧ ¬ wd T L n lAnd ∧ ¬ wd T L n lOr
theorem k183 {t D n : Nat} (h : TM T L n g) (hD : D < 7) (hs : stp T L n) (hc : g 116 D ≠ 0 ∨ (¬ sg T L n 60 ∧ ¬ sg T L n 61)) (w3 w4 w5 : MV) : RHd X E c s t D 0 g w3 w4 w5 = Ev prog clsT X (t + 4) mc176 183 [(2, 89), (0, (D : Int)), (0, 0), (3, 0), (3, 0), (3, 0)] [(0, bI (sg T L n 41))] (mk E c s (hh g)) := by
  obtain ⟨s1, s2, s3, s4, s5⟩ := hs
  rw [k128 X E c s h s1 s2 s3, k158 X E c s h hD hc, r176_158, cmp_ne, bI_ne0, if_neg (fun z => z s4), call0 (w_or X E c s (t + 3) h), push0, r176_162, cmp_eq, bI_eq0, if_pos s5, call0 (m180t X E c s (t + 3) h 41), push0]
/-- closing parts: the depth goes down past the nots -/
theorem mpop {t n : Nat} (h : TM T L n g) : ∀ (D : Nat) (w3 w4 w5 : MV), D < 7 → ∃ g', Ev prog clsT X (t + 4) mc176 190 [(2, 89), (0, (D : Int)), (0, 0), w3, w4, w5] [] (mk E c s (hh g)) = RHd X E c s t (bse g D) 0 g' (3, 0) (3, 0) (3, 0) ∧ TM T L (nxt T L n) g' ∧ ∀ x i, ¬ zM x i → g' x i = g x i := by
  obtain ⟨g', k1, k2, k3⟩ := m167x X E c s (t + 2) h
  intro D
  induction D with
  | zero =>
    intro w3 w4 w5 hD
    refine ⟨g', ?_, k2, k3⟩
    rw [r176_190, cmp_le, if_pos (by decide), call3 k1, push3, r176_216]
    rfl
  | succ D ih =>
    intro w3 w4 w5 hD
    rw [r176_190, cmp_le, if_neg (by omega), inb_is, if_pos (by omega), Int.toNat_natCast, cmp_ne]
    by_cases q : g 115 (D + 1) = 1
    · rw [if_neg (fun z => z q), show w32 (((D + 1 : Nat) : Int) + -1) = (D : Int) by rw [w32_of (by omega) (by omega)]; omega, show bse g (D + 1) = bse g D from if_pos q]
      exact ih _ _ _ (by omega)
    · rw [if_pos q, show bse g (D + 1) = D + 1 from if_neg q]
      refine ⟨g', ?_, k2, k3⟩
      rw [call3 k1, push3, r176_216]
      rfl
theorem mpopv {t n : Nat} (h : TM T L n g) : ∀ (D : Nat) (w3 w4 w5 : MV), D < 7 → ∃ g', Ev prog clsT X (t + 4) mc176 82 [(2, 89), (0, (D : Int)), (0, 0), w3, w4, w5] [] (mk E c s (hh g)) = RHd X E c s t (bse g D) 0 g' (3, 0) (3, 0) (3, 0) ∧ TM T L (nxt T L n) g' ∧ ∀ x i, ¬ zM x i → g' x i = g x i := by
  obtain ⟨g', k1, k2, k3⟩ := m167x X E c s (t + 2) h
  intro D
  induction D with
  | zero =>
    intro w3 w4 w5 hD
    refine ⟨g', ?_, k2, k3⟩
    rw [r176_82, cmp_le, if_pos (by decide), call3 k1, push3, r176_94]
    rfl
  | succ D ih =>
    intro w3 w4 w5 hD
    rw [r176_82, cmp_le, if_neg (by omega), inb_is, if_pos (by omega), Int.toNat_natCast, cmp_ne]
    by_cases q : g 115 (D + 1) = 1
    · rw [if_neg (fun z => z q), show w32 (((D + 1 : Nat) : Int) + -1) = (D : Int) by rw [w32_of (by omega) (by omega)]; omega, show bse g (D + 1) = bse g D from if_pos q]
      exact ih _ _ _ (by omega)
    · rw [if_pos q, show bse g (D + 1) = D + 1 from if_neg q]
      refine ⟨g', ?_, k2, k3⟩
      rw [call3 k1, push3, r176_94]
      rfl
/-- ) -/
theorem mclose {t D n : Nat} (h : MI T L pl n g) (hD : D + 1 < 7) (hs : sg T L n 41) (hc : g 116 (D + 1) ≠ 0 ∨ (¬ sg T L n 60 ∧ ¬ sg T L n 61)) (w3 w4 w5 : MV) : ∃ g', RHd X E c s t (D + 1) 0 g w3 w4 w5 = RHd X E c s t (bse g D) 0 g' (3, 0) (3, 0) (3, 0) ∧ MO T L (nxt T L n) [29] D (D + 1) g g' := by
  have hn : n < L := tokT_lt h.1.2.1 (by rw [hs.1]; decide)
  have hp : MO T L n [29] D (D + 1) g (puM g 29) := MO_put h 29
  obtain ⟨g', k1, k2, k3⟩ := mpop X E c s (g := puM g 29) (t := t) hp.1 D (3, 0) (3, 0) (3, 0) (by omega)
  refine ⟨g', ?_, MO_tr hp (MO_step k2 k3)⟩
  rw [k183 X E c s h.1 hD ⟨sg_x hs (by decide), sg_x hs (by decide), sg_x hs (by decide), fun q => wd_sg q hs, fun q => wd_sg q hs⟩ hc, r176_183, cmp_eq, bI_eq0, if_neg (fun z => z hs), cmp_le, if_neg (by omega), call3 (m181 X E c s h hn (t + 3) 29), push3, r176_189, show w32 (((D + 1 : Nat) : Int) + -1) = (D : Int) by rw [w32_of (by omega) (by omega)]; omega, k1, bse_fr hp.2.1]
/-- nothing that can stand here -/
theorem mfail {t D n : Nat} (h : TM T L n g) (hD : D < 7) (hs : stp T L n) (hc : g 116 D ≠ 0 ∨ (¬ sg T L n 60 ∧ ¬ sg T L n 61)) (h1 : D = 0 ∨ ¬ sg T L n 41) (h2 : D ≠ 0 ∨ ¬ sg T L n 59) (w3 w4 w5 : MV) : RHd X E c s t D 0 g w3 w4 w5 = some ((0, 0), mk E c s (hh (fM g n 1))) := by
  have tl : Ev prog clsT X (t + 4) mc176 213 [(2, 89), (0, (D : Int)), (0, 0), (3, 0), (3, 0), (3, 0)] [(0, 0)] (mk E c s (hh (fM g n 1))) = some ((0, 0), mk E c s (hh (fM g n 1))) := by
    rw [r176_213, if_pos ⟨rfl, one_z⟩]
  rw [k183 X E c s h hD hs hc, r176_183, cmp_eq, bI_eq0]
  by_cases q1 : sg T L n 41
  · have hz : D = 0 := by rcases h1 with z | z; exact z; exact absurd q1 z
    subst hz
    rw [if_neg (fun z => z q1), cmp_le, if_pos (by decide), cmp_ne, if_neg (fun z => z rfl), call0 (m180t X E c s (t + 3) h 59), push0, r176_205, cmp_eq, bI_eq0, if_pos (sg_x q1 (by decide)), call0 (m172t X E c s h (t + 3) 1 (by omega)), push0, tl]
  · rw [if_pos q1, cmp_ne]
    by_cases q2 : D = 0
    · subst q2
      have hz : ¬ sg T L n 59 := by rcases h2 with z | z; exact absurd rfl z; exact z
      rw [if_neg (fun z => z rfl), call0 (m180t X E c s (t + 3) h 59), push0, r176_205, cmp_eq, bI_eq0, if_pos hz, call0 (m172t X E c s h (t + 3) 1 (by omega)), push0, tl]
    · rw [if_pos (by omega), call0 (m172t X E c s h (t + 3) 1 (by omega)), push0, tl]
/-- ; at the end -/
theorem msemi {t n : Nat} (h : TM T L n g) (hc : g 116 0 ≠ 0 ∨ (¬ sg T L n 60 ∧ ¬ sg T L n 61)) (hs : sg T L n 59) (w3 w4 w5 : MV) : ∃ g', RHd X E c s t 0 0 g w3 w4 w5 = some ((0, 1), mk E c s (hh g')) ∧ TM T L (nxt T L n) g' ∧ ∀ x i, ¬ zM x i → g' x i = g x i := by
  obtain ⟨g', k1, k2, k3⟩ := m167x X E c s (t + 2) h
  refine ⟨g', ?_, k2, k3⟩
  rw [k183 X E c s h (by decide) ⟨sg_x hs (by decide), sg_x hs (by decide), sg_x hs (by decide), fun q => wd_sg q hs, fun q => wd_sg q hs⟩ hc, r176_183, cmp_eq, bI_eq0, if_pos (sg_x hs (by decide)), cmp_ne, if_neg (fun z => z rfl), call0 (m180t X E c s (t + 3) h 59), push0, r176_205, cmp_eq, bI_eq0, if_neg (fun z => z hs), call3 k1, push3, r176_208]
end RUN
end RSTEP2
