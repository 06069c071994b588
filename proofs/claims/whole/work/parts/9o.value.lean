/-! Part 9o: what a line is worth, on the machine (class). -/
/-- the stack as the class keeps it -/
def RStk (st : List Int) (u : Gm) : Prop := ∀ i, i < st.length → u 29 i = st.getD (st.length - 1 - i) 0
def bot (st : List Int) : Int := if st.length = 0 then 0 else st.getD (st.length - 1) 0
theorem RStk_push {st : List Int} {u : Gm} {v : Int} (h : RStk st u) : RStk (v :: st) (up u 29 st.length v) := by
  intro i hi
  have hi : i < st.length + 1 := hi
  show up u 29 st.length v 29 i = (v :: st).getD (st.length + 1 - 1 - i) 0
  rw [up_at]
  by_cases q : i = st.length
  · rw [if_pos q, q, show st.length + 1 - 1 - st.length = 0 by omega]; rfl
  · rw [if_neg q, h i (by omega), show st.length + 1 - 1 - i = (st.length - 1 - i) + 1 by omega]; rfl
theorem RStk_top {st : List Int} {u : Gm} {x v : Int} (h : RStk (x :: st) u) : RStk (v :: st) (up u 29 st.length v) := by
  intro i hi
  have hi : i < st.length + 1 := hi
  show up u 29 st.length v 29 i = (v :: st).getD (st.length + 1 - 1 - i) 0
  rw [up_at]
  by_cases q : i = st.length
  · rw [if_pos q, q, show st.length + 1 - 1 - st.length = 0 by omega]; rfl
  · have h2 : u 29 i = (x :: st).getD (st.length + 1 - 1 - i) 0 := h i (by show i < st.length + 1; omega)
    rw [if_neg q, h2, show st.length + 1 - 1 - i = (st.length - 1 - i) + 1 by omega]; rfl
theorem RStk_at {st : List Int} {u : Gm} {x : Int} (h : RStk (x :: st) u) : u 29 st.length = x := by
  have h2 : u 29 st.length = (x :: st).getD (st.length + 1 - 1 - st.length) 0 := h st.length (by show st.length < st.length + 1; omega)
  rw [h2, show st.length + 1 - 1 - st.length = 0 by omega]; rfl
theorem RStk_at2 {st : List Int} {u : Gm} {x y : Int} (h : RStk (y :: x :: st) u) : u 29 st.length = x := by
  have h2 : u 29 st.length = (y :: x :: st).getD (st.length + 2 - 1 - st.length) 0 := h st.length (by show st.length < st.length + 2; omega)
  rw [h2, show st.length + 2 - 1 - st.length = 1 by omega]; rfl
theorem RStk_tl {st : List Int} {u : Gm} {x : Int} (h : RStk (x :: st) u) : RStk st u := by
  intro i hi
  have h2 : u 29 i = (x :: st).getD (st.length + 1 - 1 - i) 0 := h i (by show i < st.length + 1; omega)
  rw [h2, show st.length + 1 - 1 - i = (st.length - 1 - i) + 1 by omega]; rfl
def off29 (g u : Gm) : Prop := ∀ x i, x ≠ 29 → u x i = g x i
theorem off29_up {g u : Gm} {i : Nat} {v : Int} (h : off29 g u) : off29 g (up u 29 i v) := fun x j hx => (up_cell hx).trans (h x j hx)
theorem RStk_fr {st : List Int} {u : Gm} {i : Nat} {v : Int} (h : RStk st u) (hi : st.length ≤ i) : RStk st (up u 29 i v) := fun j hj => (up_place (by omega)).trans (h j hj)
section VALUE
variable (X : MExt) (E : List (Nat × Nat)) (c s : Nat) {g : Gm} {r cap : Nat}
/-- Sheet.join -/
theorem c75 (d : Nat) (o x y : Int) (h1 : 20001 ≤ o) (h2 : o ≤ 20007) : Call prog clsT X (d + 1) 75 [(0, o), (0, x), (0, y)] (mk E c s (hh g)) = some ((0, jn o x y), mk E c s (hh g)) := by
  have hc : o = 20001 ∨ o = 20002 ∨ o = 20003 ∨ o = 20004 ∨ o = 20005 ∨ o = 20006 ∨ o = 20007 := by omega
  rw [rc75_, r75_1]
  rcases hc with z | z | z | z | z | z | z <;> subst z
  · rw [if_neg (by decide)]
    show Ev prog clsT X d mc75 2 _ _ _ = _
    rw [r75_2, cmp_eq, cmp_eq]
    show _ = some ((0, bI (x ≠ 0 ∧ y ≠ 0)), _)
    by_cases p : x = 0
    · rw [if_pos p, bI_f (fun q => q.1 p)]
    · rw [if_neg p]
      by_cases q : y = 0
      · rw [if_pos q, bI_f (fun z => z.2 q)]
      · rw [if_neg q, bI_t ⟨p, q⟩]
  · rw [if_neg (by decide)]
    show Ev prog clsT X d mc75 10 _ _ _ = _
    rw [r75_10, cmp_ne, cmp_eq]
    show _ = some ((0, bI (x ≠ 0 ∨ y ≠ 0)), _)
    by_cases p : x = 0
    · rw [if_neg (fun z => z p)]
      by_cases q : y = 0
      · rw [if_pos q, bI_f (fun z => by rcases z with z | z; exact z p; exact z q)]
      · rw [if_neg q, bI_t (Or.inr q)]
    · rw [if_pos p, bI_t (Or.inl p)]
  · rw [if_neg (by decide)]
    show Ev prog clsT X d mc75 18 _ _ _ = _
    rw [r75_18, cmp_ge]
    show _ = some ((0, bI (x < y)), _)
    by_cases p : y ≤ x
    · rw [if_pos p, bI_f (by omega)]
    · rw [if_neg p, bI_t (by omega)]
  · rw [if_neg (by decide)]
    show Ev prog clsT X d mc75 25 _ _ _ = _
    rw [r75_25, cmp_ne]
    show _ = some ((0, bI (x = y)), _)
    by_cases p : x = y
    · rw [if_neg (fun z => z p), bI_t p]
    · rw [if_pos p, bI_f p]
  · rw [if_neg (by decide)]
    show Ev prog clsT X d mc75 32 _ _ _ = _
    rw [r75_32]; rfl
  · rw [if_neg (by decide)]
    show Ev prog clsT X d mc75 36 _ _ _ = _
    rw [r75_36]; rfl
  · rw [if_pos (by decide), r75_40]; rfl
theorem fg_code {n : Nat} (h : CE E r 7 n) {k : Int → Option MRes} : (fget 3610 (mk E c s (hh g)) (r : Int)).bind k = k (g r 6) := fgR E c s (by decide) h
theorem fg_from {n : Nat} (h : CE E r 7 n) {k : Int → Option MRes} : (fget 3602 (mk E c s (hh g)) (r : Int)).bind k = k (g r 4) := fgR E c s (by decide) h
theorem fg_to {n : Nat} (h : CE E r 7 n) {k : Int → Option MRes} : (fget 3606 (mk E c s (hh g)) (r : Int)).bind k = k (g r 5) := fgR E c s (by decide) h
theorem cst_len (row : Nat → Int) (st : List Int) (o : Int) (h : st.length ≤ 32) : (cst row st o).length ≤ 32 := by
  unfold cst
  split
  · split
    · simp only [List.length_cons]; omega
    · exact h
  · split
    · cases st with
      | nil => simp
      | cons x r => exact h
    · cases st with
      | nil => exact h
      | cons y r => cases r with
        | nil => exact h
        | cons x r => simp only [List.length_cons] at h ⊢; omega
/-- Sheet.value's loop -/
theorem k74 (hr : RO E r cap) (hp : RP g r) (hne : ¬ (r ≤ 29 ∧ 29 ≤ r + 4)) (d b : Nat) (hb : b ≤ cap) (hc : cap ≤ 1000) : ∀ (n i : Nat) (st : List Int) (u : Gm) (w2 w6 : MV), i + n = b → st.length ≤ 32 → RStk st u → off29 g u → (∀ x, x ∈ seg (g (r + 4)) i n → vop x) → ∃ u', Ev prog clsT X (d + 1) mc74 24 [(2, 27), (2, (r : Int)), w2, (0, (st.length : Int)), (0, (b : Int)), (0, (i : Int)), w6] [] (mk E c s (hh u)) = some ((0, bot (crun (g 28) st (seg (g (r + 4)) i n))), mk E c s (hh u')) ∧ off29 g u' := by
  intro n
  induction n with
  | zero =>
    intro i st u w2 w6 hi hl hs ho hv
    refine ⟨u, ?_, ho⟩
    rw [r74_24, cmp_ge, if_pos (by omega), cmp_le]
    show _ = some ((0, bot st), _)
    unfold bot
    by_cases q : st.length = 0
    · rw [if_pos (by omega), if_pos q]
    · have := hs 0 (by omega)
      rw [if_neg (by omega), if_neg q, this, Nat.sub_zero]
  | succ n ih =>
    intro i st u w2 w6 hi hl hs ho hv
    have hv0 : vop (g (r + 4) i) := hv _ (List.mem_cons_self ..)
    have hv1 : ∀ x, x ∈ seg (g (r + 4)) (i + 1) n → vop x := fun x hx => hv x (List.mem_cons_of_mem _ hx)
    have e6 : u r 6 = ((r + 4 : Nat) : Int) := by rw [ho r 6 (by omega)]; exact hp.2.2.2
    have e4 : u (r + 4) i = g (r + 4) i := ho (r + 4) i (by omega)
    have e28 : ∀ f, u 28 f = g 28 f := fun f => ho 28 f (by decide)
    have hrun : crun (g 28) st (seg (g (r + 4)) i (n + 1)) = crun (g 28) (cst (g 28) st (g (r + 4) i)) (seg (g (r + 4)) (i + 1) n) := rfl
    have hlen := cst_len (g 28) st (g (r + 4) i) hl
    rw [hrun, r74_24, cmp_ge, if_neg (by omega), fg_code E c s hr.1, e6, agR X E c s hr.2.2.2.2, if_pos (by omega), Int.toNat_natCast, e4, w32_succ (by omega), cmp_ge]
    generalize g (r + 4) i = o at hv0 hlen ⊢
    by_cases h2 : (20000 : Int) ≤ o
    · rw [if_pos h2, cmp_ne]
      by_cases h3 : o = 20000
      · -- not
        rw [if_neg (fun z => z h3)]
        rw [cmp_lt]
        cases st with
        | nil =>
          have ec : cst (g 28) [] o = [] := by unfold cst; rw [if_neg (by omega), if_pos h3]
          rw [if_pos (by show ((0 : Nat) : Int) < 1; decide), ec]
          exact ih (i + 1) [] u _ _ (by omega) (by decide) hs ho hv1
        | cons x st =>
          have ht : ((x :: st).length : Int) - 1 = (st.length : Int) := by simp only [List.length_cons]; omega
          have hl' : st.length + 1 ≤ 32 := hl
          have ec : cst (g 28) (x :: st) o = ntI x :: st := by unfold cst; rw [if_neg (by omega), if_pos h3]
          rw [if_neg (by simp only [List.length_cons]; omega), w32_of (by simp only [List.length_cons]; omega) (by simp only [List.length_cons]; omega), ht, inb_is, if_pos (by omega), Int.toNat_natCast, RStk_at hs, cmp_ne, ec]
          show ∃ u', _ = some ((0, bot (crun (g 28) (ntI x :: st) _)), _) ∧ _
          by_cases q : x = 0
          · rw [if_neg (fun z => z q), inb_is, if_pos (by omega), show ntI x = 1 from if_pos q]
            exact ih (i + 1) (1 :: st) _ _ _ (by omega) hl (RStk_top hs) (off29_up ho) hv1
          · rw [if_pos q, inb_is, if_pos (by omega), show ntI x = 0 from if_neg q]
            exact ih (i + 1) (0 :: st) _ _ _ (by omega) hl (RStk_top hs) (off29_up ho) hv1
      · -- two become one
        rw [if_pos h3, cmp_lt]
        have ho2 : 20001 ≤ o := by omega
        have ho3 : o ≤ 20007 := by rcases hv0.2 with z | z <;> omega
        cases st with
        | nil =>
          have ec : cst (g 28) [] o = [] := by unfold cst; rw [if_neg (by omega), if_neg h3]
          rw [if_pos (by show ((0 : Nat) : Int) < 2; decide), ec]
          exact ih (i + 1) [] u _ _ (by omega) (by decide) hs ho hv1
        | cons y st =>
          cases st with
          | nil =>
            have ec : cst (g 28) [y] o = [y] := by unfold cst; rw [if_neg (by omega), if_neg h3]
            rw [if_pos (by show ((1 : Nat) : Int) < 2; decide), ec]
            exact ih (i + 1) [y] u _ _ (by omega) hl hs ho hv1
          | cons x st =>
            have hl' : st.length + 2 ≤ 32 := hl
            have t1 : w32 (((y :: x :: st).length : Int) + -1) = ((st.length + 1 : Nat) : Int) := by rw [w32_of (by simp only [List.length_cons]; omega) (by simp only [List.length_cons]; omega)]; simp only [List.length_cons]; omega
            have t2 : w32 (((st.length + 1 : Nat) : Int) - 1) = (st.length : Int) := by rw [w32_of (by omega) (by omega)]; omega
            have q1 : u 29 (st.length + 1) = y := RStk_at hs
            have q2 : u 29 st.length = x := RStk_at2 hs
            rw [if_neg (by simp only [List.length_cons]; omega), t1, t2, inb_is, if_pos (by omega), inb_is, if_pos (by omega), Int.toNat_natCast, Int.toNat_natCast, q1, q2, call0 (c75 X E c s d o x y ho2 ho3), push0, r74_99, inb_is, if_pos (by omega), Int.toNat_natCast, w32_succ (by omega), cst_jn _ _ _ _ _ ho2]
            exact ih (i + 1) (jn o x y :: st) _ _ _ (by omega) (by simp only [List.length_cons]; omega) (RStk_top (RStk_tl hs)) (off29_up ho) hv1
    · rw [if_neg h2, cmp_ge]
      by_cases hf : st.length < 32
      · rw [if_neg (by omega), cmp_ge]
        by_cases h1 : (10000 : Int) ≤ o
        · have ec : cst (g 28) st o = g 28 (o - 10000).toNat :: st := by unfold cst; rw [if_pos (by omega), if_pos hf, if_neg (by omega)]
          have hb3 : o < 10011 := by rcases hv0.2 with z | z <;> omega
          rw [if_pos h1, w32_of (by omega) (by omega), inb_is, if_pos (by omega), inb_is, if_pos (by omega), Int.toNat_natCast, e28, w32_succ (by omega), ec]
          exact ih (i + 1) (g 28 (o - 10000).toNat :: st) _ _ _ (by omega) (by simp only [List.length_cons]; omega) (RStk_push hs) (off29_up ho) hv1
        · have ec : cst (g 28) st o = o :: st := by unfold cst; rw [if_pos (by omega), if_pos hf, if_pos (by omega)]
          rw [if_neg h1, inb_is, if_pos (by omega), Int.toNat_natCast, w32_succ (by omega), ec]
          exact ih (i + 1) (o :: st) _ _ _ (by omega) (by simp only [List.length_cons]; omega) (RStk_push hs) (off29_up ho) hv1
      · have ec : cst (g 28) st o = st := by unfold cst; rw [if_pos (by omega), if_neg hf]
        rw [if_pos (by omega), ec]
        exact ih (i + 1) st u _ _ (by omega) hl hs ho hv1
/-- Sheet.value: a line that is not there, one that is -/
theorem c74n (hr : RO E r cap) (hp : RP g r) (d l : Nat) (hl : l < 11) (h : g (r + 2) l = -1) : Call prog clsT X (d + 3) 74 [(2, 27), (2, (r : Int)), (0, (l : Int))] (mk E c s (hh g)) = some ((0, 0), mk E c s (hh g)) := by
  have e5 : (r : Int) ≠ -5 := by omega
  rw [rc74_, if_pos ⟨rfl, e5⟩, if_neg (by rw [decide_eq_true_eq]; omega), rvR E c s hr.1, call0 (c66 X E c s hr hp (d + 1) l hl), push0, r74_5, cmp_ne, bI_ne0, if_neg (fun z => z (fun q => q h))]
theorem c74v (hr : RO E r cap) (hp : RP g r) (hc : cap ≤ 1000) (hne : ¬ (r ≤ 29 ∧ 29 ≤ r + 4)) (d l : Nat) (hl : l < 11) {a b : Nat} (h1 : g (r + 2) l = a) (h2 : g (r + 3) l = b) (hab : a ≤ b) (hb : b ≤ cap) (hv : ∀ x, x ∈ seg (g (r + 4)) a (b - a) → vop x) : ∃ g', Call prog clsT X (d + 3) 74 [(2, 27), (2, (r : Int)), (0, (l : Int))] (mk E c s (hh g)) = some ((0, bot (crun (g 28) [] (seg (g (r + 4)) a (b - a)))), mk E c s (hh g')) ∧ off29 g g' := by
  have e5 : (r : Int) ≠ -5 := by omega
  obtain ⟨g', k1, k2⟩ := k74 X E c s hr hp hne (d + 1) b hb hc (b - a) a [] g (0, (l : Int)) (3, 0) (by omega) (by decide) (fun i hi => absurd hi (Nat.not_lt_zero _)) (fun x i _ => rfl) hv
  refine ⟨g', ?_, k2⟩
  have k1 : Ev prog clsT X (d + 2) mc74 24 [(2, 27), (2, (r : Int)), (0, (l : Int)), (0, 0), (0, (b : Int)), (0, (a : Int)), (3, 0)] [] (mk E c s (hh g)) = _ := k1
  rw [rc74_, if_pos ⟨rfl, e5⟩, if_neg (by rw [decide_eq_true_eq]; omega), rvR E c s hr.1, call0 (c66 X E c s hr hp (d + 1) l hl), push0, r74_5, cmp_ne, bI_ne0, if_pos (fun z => z (by rw [h1]; omega)), fg_to E c s hr.1, hp.2.2.1, agR X E c s hr.2.2.2.1, if_pos (by omega), Int.toNat_natCast, h2, fg_code E c s hr.1, hp.2.2.2, alR X E c s hr.2.2.2.2, fg_from E c s hr.1, hp.2.1, agR X E c s hr.2.2.1, if_pos (by omega), Int.toNat_natCast, h1, if_neg (by omega), k1]
end VALUE
