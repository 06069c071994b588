/-! Part 9c: lines: what they are made of (class). -/
def zL (r x i : Nat) : Prop := (x = 9 ∧ 3 ≤ i ∧ i ≤ 7) ∨ (x = r ∧ (i ≤ 2 ∨ i = 7)) ∨ (r + 1 ≤ x ∧ x ≤ r + 4)
def frL (r : Nat) (g g' : Gm) : Prop := ∀ x i, ¬ zL r x i → g' x i = g x i
theorem frL_refl (r : Nat) (g : Gm) : frL r g g := fun _ _ _ => rfl
theorem frL_tr {r : Nat} {g g1 g2 : Gm} (h : frL r g g1) (h2 : frL r g1 g2) : frL r g g2 := fun x i a => (h2 x i a).trans (h x i a)
theorem frL_E {r : Nat} {g g' : Gm} (h : frE r g g') : frL r g g' := fun x i a => h x i (fun q => a (by
  rcases q with q | q | q
  · exact Or.inl q
  · exact Or.inr (Or.inl ⟨q.1, Or.inr q.2⟩)
  · exact Or.inr (Or.inr (by omega))))
theorem frL_C {r : Nat} {g g' : Gm} (h : ∀ x i, ¬ zC x i → g' x i = g x i) : frL r g g' := frL_E (frE_C h)
theorem frL_up {r x i : Nat} {v : Int} {g g' : Gm} (h : frL r g g') (hx : zL r x i) : frL r g (up g' x i v) := fun y j a => (up_ne (fun q => a (by rw [q.1, q.2]; exact hx))).trans (h y j a)
theorem DR_frL {E : List (Nat × Nat)} {L r : Nat} {g g' : Gm} (h : DR E L r g) (e : frL r g g') (h1 : 0 ≤ g' r 7) (h2 : g' r 7 ≤ L) : DR E L r g' := by
  obtain ⟨a1, a2, a3, a4, a5, a6, a7⟩ := h
  refine ⟨a1, ?_, by rw [e 9 2 (by unfold zL; omega)]; exact a3, a4, h1, h2, a7⟩
  unfold RP at a2 ⊢
  rw [e r 3 (by unfold zL; omega), e r 4 (by unfold zL; omega), e r 5 (by unfold zL; omega), e r 6 (by unfold zL; omega)]
  exact a2
abbrev slot (r x i : Nat) : Prop := (x = r ∧ i ≤ 2) ∨ (r + 1 ≤ x ∧ x ≤ r + 3)
theorem slot_z {r x i : Nat} (h : slot r x i) : zL r x i := by
  rcases h with h | h
  · exact Or.inr (Or.inl ⟨h.1, Or.inl h.2⟩)
  · exact Or.inr (Or.inr (by omega))
theorem DR_up {E : List (Nat × Nat)} {L r x i : Nat} {v : Int} {g : Gm} (h : DR E L r g) (hx : slot r x i) : DR E L r (up g x i v) := by
  have e : up g x i v r 7 = g r 7 := up_ne (by omega)
  exact DR_frL h (frL_up (frL_refl _ _) (slot_z hx)) (by rw [e]; exact h.2.2.2.2.1) (by rw [e]; exact h.2.2.2.2.2.1)
def FX (E : List (Nat × Nat)) (L r : Nat) (fl : Int) (g : Gm) : Prop := DR E L r g ∧ FA g fl
theorem FX_up {E : List (Nat × Nat)} {L r x i : Nat} {v fl : Int} {g : Gm} (h : FX E L r fl g) (hx : slot r x i) : FX E L r fl (up g x i v) := by
  have h1 := h.1.2.2.2.1
  refine ⟨DR_up h.1 hx, h.2.1, ?_, ?_⟩
  · rw [up_ne (by omega)]; exact h.2.2.1
  · rw [up_ne (by omega)]; exact h.2.2.2
section LINES
variable {X : MExt} {T : Nat → Int} {L : Nat} {pl : Bool}
theorem CI_up {E : List (Nat × Nat)} {r n x i : Nat} {v : Int} {g : Gm} (h : CI T L pl E r n g) (hx : slot r x i) : CI T L pl E r n (up g x i v) := by
  have h1 := h.2.1.2.2.2.1
  refine ⟨TC_fr h.1 h1 (fun j => up_ne (by omega)) (fun j => up_ne (by omega)), DR_up h.2.1 hx, ?_, ?_⟩
  · rw [up_ne (by omega)]; exact h.2.2.1
  · rw [up_ne (by omega)]; exact h.2.2.2
theorem CI_nx {E : List (Nat × Nat)} {r n : Nat} {g g' : Gm} (h : CI T L pl E r n g) (h1 : TC T L (nxt T L n) g') (h2 : ∀ x i, ¬ zC x i → g' x i = g x i) : CI T L pl E r (nxt T L n) g' := CI_of h (CO_step h h1 h2) (by have := nxt_bd (T := T) (L := L) (b := n) h.1.2.1; show n + 0 ≤ _; omega)
variable (E : List (Nat × Nat)) (c s : Nat) {g : Gm} {r : Nat}
theorem fg_0 {n : Nat} (h : CE E r 7 n) {k : Int → Option MRes} : (fget 3584 (mk E c s (hh g)) (r : Int)).bind k = k (g r 0) := fgR E c s (by decide) h
theorem fg_2 {n : Nat} (h : CE E r 7 n) {k : Int → Option MRes} : (fget 3592 (mk E c s (hh g)) (r : Int)).bind k = k (g r 2) := fgR E c s (by decide) h
theorem fg_3 {n : Nat} (h : CE E r 7 n) {k : Int → Option MRes} : (fget 3598 (mk E c s (hh g)) (r : Int)).bind k = k (g r 3) := fgR E c s (by decide) h
theorem fp_0 {n : Nat} (h : CE E r 7 n) {v : Int} {k : Mem → Option MRes} : (fput 3584 (mk E c s (hh g)) (r : Int) v).bind k = k (mk E c s (hh (up g r 0 v))) := fpR E c s h
theorem fp_1 {n : Nat} (h : CE E r 7 n) {v : Int} {k : Mem → Option MRes} : (fput 3588 (mk E c s (hh g)) (r : Int) v).bind k = k (mk E c s (hh (up g r 1 v))) := fpR E c s h
theorem fp_2 {n : Nat} (h : CE E r 7 n) {v : Int} {k : Mem → Option MRes} : (fput 3592 (mk E c s (hh g)) (r : Int) v).bind k = k (mk E c s (hh (up g r 2 v))) := fpR E c s h
/-- Reader.readNumber -/
theorem c48t (hX : XT X) {n : Nat} (h : CI T L pl E r n g) (t : Nat) (x y : Int) (h1 : tokT T L n = 2) (h2 : x ≤ tnum T L n ∧ tnum T L n ≤ y) : ∃ g', Call prog clsT X (t + 6) 48 [(2, 9), (0, x), (0, y)] (mk E c s (hh g)) = some ((0, tnum T L n), mk E c s (hh g')) ∧ CI T L pl E r (nxt T L n) g' ∧ ∀ x i, ¬ zC x i → g' x i = g x i := by
  obtain ⟨g', k1, k2, k3⟩ := c40n X E c s hX t h.1
  refine ⟨g', ?_, CI_nx h k2 k3, k3⟩
  rw [rc48_, cmp_eq, h.1.2.2.2.2.2.2.2.2.1, if_pos h1, h.1.2.2.2.2.2.2.2.2.2 h1, call0 (c90 X E c s (t + 4) _ x y), push0, r48_15, cmp_ne, bI_ne0, if_pos (fun z => z h2), r48_19, call3 k1, push3, r48_21]
theorem c48n {n : Nat} (h : CI T L pl E r n g) (t : Nat) (x y : Int) (hb : ¬ (tokT T L n = 2 ∧ x ≤ tnum T L n ∧ tnum T L n ≤ y)) : ∃ v g', Call prog clsT X (t + 6) 48 [(2, 9), (0, x), (0, y)] (mk E c s (hh g)) = some ((0, v), mk E c s (hh g')) ∧ FX E L r ((if tokT T L n = 2 then 4 else 1) + 16 * n) g' ∧ frL r g g' ∧ g' r 7 = g r 7 := by
  by_cases h1 : tokT T L n = 2
  · obtain ⟨g', k1, k2, k3, k4⟩ := c46t X E c s h (t + 4) 4 (by omega)
    refine ⟨tnum T L n, g', ?_, ⟨DR_fr h.2.1 k3 (by rw [k4]; exact h.2.1.2.2.2.2.1) (by rw [k4]; exact h.2.1.2.2.2.2.2.1), by rw [if_pos h1]; exact k2⟩, frL_E k3, k4⟩
    rw [rc48_, cmp_eq, h.1.2.2.2.2.2.2.2.2.1, if_pos h1, h.1.2.2.2.2.2.2.2.2.2 h1, call0 (c90 X E c s (t + 4) _ x y), push0, r48_15, cmp_ne, bI_ne0, if_neg (fun z => z (fun q => hb ⟨h1, q⟩)), call3 k1, push3, r48_19, call3 (c40g X E c s k2 (t + 4)), push3, r48_21]
  · obtain ⟨g', k1, k2, k3, k4⟩ := c46t X E c s h (t + 4) 1 (by omega)
    refine ⟨g 9 7, g', ?_, ⟨DR_fr h.2.1 k3 (by rw [k4]; exact h.2.1.2.2.2.2.1) (by rw [k4]; exact h.2.1.2.2.2.2.2.1), by rw [if_neg h1]; exact k2⟩, frL_E k3, k4⟩
    rw [rc48_, cmp_eq, h.1.2.2.2.2.2.2.2.2.1, if_neg h1, call3 k1, push3, r48_10, r48_19, call3 (c40g X E c s k2 (t + 4)), push3, r48_21]
/-- Reader.expectWord -/
theorem c49t (hX : XT X) {x : Int} {l : List Int} (hs : STR X x l) {n : Nat} (h : CI T L pl E r n g) (t : Nat) (h1 : wd T L n l) : ∃ g', Call prog clsT X (t + 7) 49 [(2, 9), (2, x)] (mk E c s (hh g)) = some ((3, 0), mk E c s (hh g')) ∧ CI T L pl E r (nxt T L n) g' ∧ ∀ x i, ¬ zC x i → g' x i = g x i := by
  obtain ⟨g', k1, k2, k3⟩ := c40n X E c s hX (t + 1) h.1
  refine ⟨g', ?_, CI_nx h k2 k3, k3⟩
  rw [rc49_, call0 (c50t X E c s hs t h.1), push0, r49_3, cmp_ne, bI_ne0, if_pos (fun z => z h1), r49_7, call3 k1, push3, r49_9]
theorem c49n {x : Int} {l : List Int} (hs : STR X x l) {n : Nat} (h : CI T L pl E r n g) (t : Nat) (h1 : ¬ wd T L n l) : ∃ g', Call prog clsT X (t + 7) 49 [(2, 9), (2, x)] (mk E c s (hh g)) = some ((3, 0), mk E c s (hh g')) ∧ FX E L r (1 + 16 * n) g' ∧ frL r g g' ∧ g' r 7 = g r 7 := by
  obtain ⟨g', k1, k2, k3, k4⟩ := c46t X E c s h (t + 5) 1 (by omega)
  refine ⟨g', ?_, ⟨DR_fr h.2.1 k3 (by rw [k4]; exact h.2.1.2.2.2.2.1) (by rw [k4]; exact h.2.1.2.2.2.2.2.1), k2⟩, frL_E k3, k4⟩
  rw [rc49_, call0 (c50t X E c s hs t h.1), push0, r49_3, cmp_ne, bI_ne0, if_neg (fun z => z h1), call3 k1, push3, r49_7, call3 (c40g X E c s k2 (t + 5)), push3, r49_9]
theorem c46x {n : Nat} (h : CI T L pl E r n g) (t : Nat) (k : Int) (hk : 1 ≤ k ∧ k ≤ 5) : ∃ g', Call prog clsT X (t + 1) 46 [(2, 9), (0, k)] (mk E c s (hh g)) = some ((3, 0), mk E c s (hh g')) ∧ FX E L r (k + 16 * n) g' ∧ frL r g g' ∧ g' r 7 = g r 7 := by
  obtain ⟨g', k1, k2, k3, k4⟩ := c46t X E c s h t k hk
  exact ⟨g', k1, ⟨DR_fr h.2.1 k3 (by rw [k4]; exact h.2.1.2.2.2.2.1) (by rw [k4]; exact h.2.1.2.2.2.2.2.1), k2⟩, frL_E k3, k4⟩
/-- behind a fault: the rest of a line -/
theorem f_tail {fl : Int} (h : FX E L r fl g) (t : Nat) (tx x2 l : Int) (hl : l = -1 ∨ (0 ≤ l ∧ l < 11)) : ∃ g', Ev prog clsT X (t + 7) mc43 41 [(2, 9), (0, tx), (0, x2), (3, 0)] [(0, l)] (mk E c s (hh g)) = some ((3, 0), mk E c s (hh g')) ∧ FX E L r fl g' ∧ frL r g g' := by
  rcases hl with hl | hl
  · subst hl
    refine ⟨g, ?_, h, frL_refl _ _⟩
    rw [r43_41, rvD E c s h.1, h.1.2.2.1, call3 (c67n X E c s (t + 6)), push3, r43_46, call3 (c53f X E c s h.2 (t + 1) 0), push3, r43_49, rvD E c s h.1, h.1.2.2.1, call3 (c69n X E c s (t + 6)), push3, r43_53, call3 (c59f X E c s h.2 (t + 5) 59), push3, r43_56]
  · obtain ⟨k, rfl⟩ := Int.eq_ofNat_of_zero_le hl.1
    have s1 : slot r (r + 2) k := Or.inr (by omega)
    have s2 : slot r (r + 3) k := Or.inr (by omega)
    have h1 : FX E L r fl (up g (r + 2) k (g r 7)) := FX_up h s1
    refine ⟨up (up g (r + 2) k (g r 7)) (r + 3) k (up g (r + 2) k (g r 7) r 7), ?_, FX_up h1 s2, frL_up (frL_up (frL_refl _ _) (slot_z s1)) (slot_z s2)⟩
    rw [r43_41, rvD E c s h.1, h.1.2.2.1, call3 (c67 X E c s h.1.1 h.1.2.1 (t + 6) k (by omega)), push3, r43_46, call3 (c53f X E c s h1.2 (t + 1) 0), push3, r43_49, rvD E c s h1.1, h1.1.2.2.1, call3 (c69 X E c s h1.1.1 h1.1.2.1 (t + 6) k (by omega)), push3, r43_53, call3 (c59f X E c s (FX_up h1 s2).2 (t + 5) 59), push3, r43_56]
theorem f_end {fl : Int} (h : FX E L r fl g) (t : Nat) (tx x2 : Int) (w3 : MV) : Ev prog clsT X (t + 7) mc43 53 [(2, 9), (0, tx), (0, x2), w3] [] (mk E c s (hh g)) = some ((3, 0), mk E c s (hh g)) := by
  rw [r43_53, call3 (c59f X E c s h.2 (t + 5) 59), push3, r43_56]
theorem f_want19 {fl : Int} (h : FX E L r fl g) (t : Nat) : ∃ g', Ev prog clsT X (t + 2) mc47 19 [(2, 9)] [] (mk E c s (hh g)) = some ((3, 0), mk E c s (hh g')) ∧ FX E L r fl g' ∧ frL r g g' := by
  have s1 : slot r r 1 := Or.inl (by omega)
  refine ⟨up g r 1 (g 9 7), ?_, FX_up h s1, frL_up (frL_refl _ _) (slot_z s1)⟩
  rw [r47_19, call0 (c48f X E c s h.2 t 0 9), push0, r47_25, h.1.2.2.1, fp_1 E c s h.1.1.1]
theorem f_want15 {fl : Int} (h : FX E L r fl g) (t : Nat) (v : Int) : ∃ g', Ev prog clsT X (t + 2) mc47 15 [(2, 9)] [(0, v), (2, g 9 2)] (mk E c s (hh g)) = some ((3, 0), mk E c s (hh g')) ∧ FX E L r fl g' ∧ frL r g g' := by
  have s1 : slot r r 0 := Or.inl (by omega)
  obtain ⟨g', k1, k2, k3⟩ := f_want19 (X := X) E c s (FX_up (v := v) h s1) t
  refine ⟨g', ?_, k2, frL_tr (frL_up (frL_refl _ _) (slot_z s1)) k3⟩
  rw [r47_15, h.1.2.2.1, fp_0 E c s h.1.1.1, if_pos ⟨rfl, R9_6⟩, call3 (c49f X E c s (FX_up (v := v) h s1).2 t (-14)), push3, k1]
theorem f_want7 {fl : Int} (h : FX E L r fl g) (t : Nat) : ∃ g', Ev prog clsT X (t + 2) mc47 7 [(2, 9)] [] (mk E c s (hh g)) = some ((3, 0), mk E c s (hh g')) ∧ FX E L r fl g' ∧ frL r g g' := by
  obtain ⟨g', k1, k2, k3⟩ := f_want15 (X := X) E c s h t (g 9 7)
  refine ⟨g', ?_, k2, k3⟩
  rw [r47_7, call3 (c40g X E c s h.2 (t + 1)), push3, r47_9, call0 (c48f X E c s h.2 t 1 8), push0, k1]
/-- the rest of a line that is read well so far -/
theorem t_tail (hX : XT X) {n : Nat} (hn : n ≤ L) : (∃ fl, (∀ t E c s r g (tx x2 : Int) (l : Nat), 48 ≤ t → l < 11 → CI T L pl E r n g → ∃ g', Ev prog clsT X t mc43 41 [(2, 9), (0, tx), (0, x2), (3, 0)] [(0, (l : Int))] (mk E c s (hh g)) = some ((3, 0), mk E c s (hh g')) ∧ FX E L r fl g' ∧ frL r g g') ∧ (∀ t E c s g w3 w4 w5, MI T L pl n g → g 116 0 = 0 → ∃ g', RHd X E c s t 0 1 g w3 w4 w5 = some ((0, 0), mk E c s (hh g')) ∧ g' 89 25 = fl ∧ frM 0 0 g g')) ∨
    ∃ m P Q, n + P.length < m ∧ n + Q.length < m ∧ m ≤ L ∧ semE pl 0 P Q ∧ (∀ t E c s r g (tx x2 : Int) (l : Nat), 48 ≤ t → l < 11 → CI T L pl E r n g → ∃ g', Ev prog clsT X t mc43 41 [(2, 9), (0, tx), (0, x2), (3, 0)] [(0, (l : Int))] (mk E c s (hh g)) = some ((3, 0), mk E c s (hh g')) ∧ CI T L pl E r m g' ∧ frL r g g' ∧ lst g' r = lst g r ++ P ∧ g' r 7 = g r 7 + P.length ∧ g' (r + 2) l = g r 7 ∧ g' (r + 3) l = g' r 7 ∧ (∀ i, i ≤ 2 → g' r i = g r i) ∧ (∀ i, g' (r + 1) i = g (r + 1) i) ∧ (∀ i, i ≠ l → g' (r + 2) i = g (r + 2) i ∧ g' (r + 3) i = g (r + 3) i)) ∧ (∀ t E c s g w3 w4 w5, MI T L pl n g → g 116 0 = 0 → ∃ g', RHd X E c s t 0 1 g w3 w4 w5 = some ((0, 1), mk E c s (hh g')) ∧ MO T L m Q 0 0 g g') := by
  rcases EX (pl := pl) hX hn with ⟨fl, b1, b2⟩ | ⟨cm, m, P, Q, a1, a2, a3, a4, a5, a6, a7, a8⟩
  · refine Or.inl ⟨fl, fun t E c s r g tx x2 l ht hl h => ?_, fun t E c s g w3 w4 w5 hm hz => ?_⟩
    · have s1 : slot r (r + 2) l := Or.inr (by omega)
      have s2 : slot r (r + 3) l := Or.inr (by omega)
      have h1 := CI_up (v := g r 7) h s1
      obtain ⟨g2, j1, j2, j3, j4, j5⟩ := b1 t 0 (3, 0) (by omega) (Nat.zero_le _) E c s r _ h1
      have j1 : Call prog clsT X t 53 [(2, 9), (0, 0)] (mk E c s (hh (up g (r + 2) l (g r 7)))) = some ((3, 0), mk E c s (hh g2)) := j1
      have hf2 : FX E L r fl g2 := ⟨DR_fr h1.2.1 j3 j4 j5, j2⟩
      obtain ⟨t, rfl⟩ : ∃ t', t = t' + 7 := ⟨t - 7, by omega⟩
      refine ⟨up g2 (r + 3) l (g2 r 7), ?_, FX_up hf2 s2, frL_up (frL_tr (frL_up (frL_refl _ _) (slot_z s1)) (frL_E j3)) (slot_z s2)⟩
      rw [r43_41, rvD E c s h.2.1, h.2.1.2.2.1, call3 (c67 X E c s h.2.1.1 h.2.1.2.1 (t + 6) l hl), push3, r43_46, call3 j1, push3, r43_49, rvD E c s hf2.1, hf2.1.2.2.1, call3 (c69 X E c s hf2.1.1 hf2.1.2.1 (t + 6) l hl), push3, f_end E c s (FX_up hf2 s2) t]
    · obtain ⟨g', k1, k2, k3⟩ := b2 t E c s g w3 w4 w5 hm ⟨Or.inl rfl, hz⟩
      exact ⟨g', k1, k2, k3⟩
  · have hcm : ∀ g : Gm, flg 0 cm g → g 116 0 ≠ 0 ∨ (¬ sg T L m 60 ∧ ¬ sg T L m 61) := by
      intro g hg
      cases cm with
      | true => exact Or.inl (by unfold flg at hg; rw [hg]; decide)
      | false => exact Or.inr (a8.2 rfl)
    by_cases hz : sg T L m 59
    · have hm1 : m < L := tokT_lt a2 (by rw [hz.1]; decide)
      have hbm := nxt_bd (T := T) (L := L) (b := m) a2
      have hbm3 := hbm.2.2 hm1
      refine Or.inr ⟨nxt T L m, P, Q, by omega, by omega, hbm.2.1, a7, fun t E c s r g tx x2 l ht hl h => ?_, fun t E c s g w3 w4 w5 hm hz0 => ?_⟩
      · have s1 : slot r (r + 2) l := Or.inr (by omega)
        have s2 : slot r (r + 3) l := Or.inr (by omega)
        have hr := h.2.1.2.2.2.1
        have h1 := CI_up (v := g r 7) h s1
        obtain ⟨g2, j1, j2⟩ := a5 t 0 (3, 0) (by omega) (Nat.zero_le _) E c s r _ h1
        have j1 : Call prog clsT X t 53 [(2, 9), (0, 0)] (mk E c s (hh (up g (r + 2) l (g r 7)))) = some ((3, 0), mk E c s (hh g2)) := j1
        have h2 : CI T L pl E r m g2 := CI_of h1 j2 a3
        have h3 := CI_up (v := g2 r 7) h2 s2
        obtain ⟨t, rfl⟩ : ∃ t', t = t' + 7 := ⟨t - 7, by omega⟩
        obtain ⟨g4, l1, l2⟩ := c59t E c s hX h3 (t + 1) 59 hz
        have h4 := CI_of h3 l2 (by show m + 0 ≤ _; omega)
        have fz : ∀ x i, ¬ zE r x i → g4 x i = up g2 (r + 3) l (g2 r 7) x i := l2.2.1
        have e7 : g4 r 7 = g2 r 7 := by
          have := l2.2.2.2
          rw [this, up_ne (by omega)]; show _ + ((0 : Nat) : Int) = _; omega
        have e27 : g2 r 7 = g r 7 + P.length := by
          have := j2.2.2.2
          rw [this, up_ne (by omega)]
        refine ⟨g4, ?_, h4, frL_tr (frL_up (frL_tr (frL_up (frL_refl _ _) (slot_z s1)) (frL_E j2.2.1)) (slot_z s2)) (frL_E l2.2.1), ?_, by rw [e7, e27], ?_, ?_, fun i hi => ?_, fun i => ?_, fun i hi => ⟨?_, ?_⟩⟩
        · rw [r43_41, rvD E c s h.2.1, h.2.1.2.2.1, call3 (c67 X E c s h.2.1.1 h.2.1.2.1 (t + 6) l hl), push3, r43_46, call3 j1, push3, r43_49, rvD E c s h2.2.1, h2.2.1.2.2.1, call3 (c69 X E c s h2.2.1.1 h2.2.1.2.1 (t + 6) l hl), push3, r43_53, call3 l1, push3, r43_56]
        · have u1 : ∀ (u : Gm) (x i : Nat) (v : Int), (x = r + 2 ∨ x = r + 3) → lst (up u x i v) r = lst u r := by
            intro u x i v hx
            unfold lst
            rw [up_ne (by omega)]
            exact seg_congr _ _ (fun j _ _ => up_ne (by omega))
          rw [l2.2.2.1, u1 g2 _ _ _ (Or.inr rfl), j2.2.2.1, u1 g _ _ _ (Or.inl rfl), List.append_nil]
        · rw [fz (r + 2) l (by unfold zE; omega), up_ne (by omega), j2.2.1 (r + 2) l (by unfold zE; omega), up_same]
        · rw [fz (r + 3) l (by unfold zE; omega), up_same, e7]
        · rw [fz r i (by unfold zE; omega), up_ne (by omega), j2.2.1 r i (by unfold zE; omega), up_ne (by omega)]
        · rw [fz (r + 1) i (by unfold zE; omega), up_ne (by omega), j2.2.1 (r + 1) i (by unfold zE; omega), up_ne (by omega)]
        · rw [fz (r + 2) i (by unfold zE; omega), up_ne (by omega), j2.2.1 (r + 2) i (by unfold zE; omega), up_ne (by omega)]
        · rw [fz (r + 3) i (by unfold zE; omega), up_ne (by omega), j2.2.1 (r + 3) i (by unfold zE; omega), up_ne (by omega)]
      · obtain ⟨g2, v3, v4, v5, j1, j2, j3⟩ := a6 t E c s g w3 w4 w5 hm ⟨Or.inl rfl, hz0⟩
        obtain ⟨g3, l1, l2, l3⟩ := msemi X E c s (t := t) j2.1 (hcm g2 j3) hz v3 v4 v5
        refine ⟨g3, j1.trans l1, ?_⟩
        have := MO_tr j2 (MO_step (lo := 0) (lo' := 0) l2 l3)
        rw [List.append_nil] at this
        exact this
    · refine Or.inl ⟨1 + 16 * m, fun t E c s r g tx x2 l ht hl h => ?_, fun t E c s g w3 w4 w5 hm hz0 => ?_⟩
      · have s1 : slot r (r + 2) l := Or.inr (by omega)
        have s2 : slot r (r + 3) l := Or.inr (by omega)
        have h1 := CI_up (v := g r 7) h s1
        obtain ⟨g2, j1, j2⟩ := a5 t 0 (3, 0) (by omega) (Nat.zero_le _) E c s r _ h1
        have j1 : Call prog clsT X t 53 [(2, 9), (0, 0)] (mk E c s (hh (up g (r + 2) l (g r 7)))) = some ((3, 0), mk E c s (hh g2)) := j1
        have h2 : CI T L pl E r m g2 := CI_of h1 j2 a3
        have h3 := CI_up (v := g2 r 7) h2 s2
        obtain ⟨t, rfl⟩ : ∃ t', t = t' + 7 := ⟨t - 7, by omega⟩
        obtain ⟨g4, l1, l2, l3, l4⟩ := c59n E c s hX h3 (t + 1) 59 hz
        have h7 := CI_7 h3 l4
        refine ⟨g4, ?_, ⟨DR_fr h3.2.1 l3 h7.1 h7.2, l2⟩, frL_tr (frL_up (frL_tr (frL_up (frL_refl _ _) (slot_z s1)) (frL_E j2.2.1)) (slot_z s2)) (frL_E l3)⟩
        rw [r43_41, rvD E c s h.2.1, h.2.1.2.2.1, call3 (c67 X E c s h.2.1.1 h.2.1.2.1 (t + 6) l hl), push3, r43_46, call3 j1, push3, r43_49, rvD E c s h2.2.1, h2.2.1.2.2.1, call3 (c69 X E c s h2.2.1.1 h2.2.1.2.1 (t + 6) l hl), push3, r43_53, call3 l1, push3, r43_56]
      · obtain ⟨g2, v3, v4, v5, j1, j2, j3⟩ := a6 t E c s g w3 w4 w5 hm ⟨Or.inl rfl, hz0⟩
        have hl := mfail X E c s (t := t) (D := 0) j2.1 (by decide) a8.1 (hcm g2 j3) (Or.inl rfl) (Or.inr hz) v3 v4 v5
        exact ⟨_, j1.trans hl, up_same, frM_tr j2.2.1 (fM_fr g2 m 1)⟩
end LINES
