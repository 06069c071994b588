/-! Part 9p: what a line is worth, on the machine (reference). -/
/-- all but the registers -/
def offR (g u : Gm) : Prop := ∀ x i, ¬ (117 ≤ x ∧ x ≤ 125) → u x i = g x i
theorem offR_up {g u : Gm} {x i : Nat} {v : Int} (h : offR g u) (hx : 117 ≤ x ∧ x ≤ 125) : offR g (up u x i v) := fun y j hy => (up_ne (fun q => hy (by omega))).trans (h y j hy)
theorem offR_sms {g u : Gm} {d : Nat} (h : offR g u) : offR g (sms u d) := offR_up (offR_up h (by omega)) (by omega)
theorem offR_tst {g u : Gm} {d : Nat} (h : offR g u) : offR g (tst u d) := offR_up (offR_up (offR_up (offR_up (offR_sms h) (by omega)) (by omega)) (by omega)) (by omega)
theorem offR_opn {g u : Gm} {d : Nat} (h : offR g u) : offR g (opn u d) := offR_up (offR_up (offR_up (offR_up (offR_up h (by omega)) (by omega)) (by omega)) (by omega)) (by omega)
theorem offR_fin {g : Gm} : ∀ (d : Nat) (u : Gm) (v : Int), offR g u → offR g (fin u d v).2 ∧ (fin u d v).1 ≤ d
  | 0, u, v, h => ⟨offR_up h (by omega), Nat.le_refl _⟩
  | d + 1, u, v, h => by
    unfold fin
    split
    · have := offR_fin d u (ntI v) h
      exact ⟨this.1, Nat.le_succ_of_le this.2⟩
    · exact ⟨offR_up h (by omega), Nat.le_refl _⟩
section WORTH
variable (X : MExt) (E : List (Nat × Nat)) (c s : Nat) {g : Gm}
theorem m195 (t D : Nat) (hD : D < 7) : Call prog clsT X (t + 1) 195 [(2, 89), (0, (D : Int))] (mk E c s (hh g)) = some ((3, 0), mk E c s (hh (opn g D))) := by
  rw [rc195_, inb_is, if_pos (by omega), inb_is, if_pos (by omega), inb_is, if_pos (by omega), inb_is, if_pos (by omega), inb_is, if_pos (by omega), Int.toNat_natCast]
  rfl
theorem m196 (t D : Nat) (hD : D < 7) : Call prog clsT X (t + 1) 196 [(2, 89), (0, (D : Int))] (mk E c s (hh g)) = some ((3, 0), mk E c s (hh (sms g D))) := by
  rw [rc196_, inb_is, if_pos (by omega), Int.toNat_natCast, cmp_ne]
  unfold sms sm1
  by_cases q : g 122 D = 21
  · rw [if_neg (fun z => z q), inb_is, if_pos (by omega), inb_is, if_pos (by omega), inb_is, if_pos (by omega), inb_is, if_pos (by omega), if_pos q]
  · rw [if_pos q, inb_is, if_pos (by omega), inb_is, if_pos (by omega), inb_is, if_pos (by omega), inb_is, if_pos (by omega), if_neg q]
theorem sms_v (g : Gm) (D : Nat) : sms g D 117 D = g 117 D ∧ sms g D 118 D = g 118 D ∧ sms g D 119 D = g 119 D ∧ sms g D 120 D = g 120 D ∧ sms g D 121 D = sm1 g D := by
  unfold sms
  refine ⟨?_, ?_, ?_, ?_, ?_⟩
  · rw [up_ne (by omega), up_ne (by omega)]
  · rw [up_ne (by omega), up_ne (by omega)]
  · rw [up_ne (by omega), up_ne (by omega)]
  · rw [up_ne (by omega), up_ne (by omega)]
  · rw [up_ne (by omega), up_same]
theorem m197 (t D : Nat) (hD : D < 7) : Call prog clsT X (t + 2) 197 [(2, 89), (0, (D : Int))] (mk E c s (hh g)) = some ((3, 0), mk E c s (hh (tst g D))) := by
  obtain ⟨v1, v2, v3, v4, v5⟩ := sms_v g D
  have l80 : ∀ x : Int, Ev prog clsT X (t + 1) mc197 80 [(2, 89), (0, (D : Int)), (0, x)] [] (mk E c s (hh (sms g D))) = some ((3, 0), mk E c s (hh (up (up (up (up (sms g D) 117 D x) 120 D 0) 121 D 0) 122 D 20))) := fun x => by
    rw [r197_80, inb_is, if_pos (by omega), inb_is, if_pos (by omega), inb_is, if_pos (by omega), inb_is, if_pos (by omega), Int.toNat_natCast]
  have l46 : ∀ x : Int, x = tv1 g D → Ev prog clsT X (t + 1) mc197 46 [(2, 89), (0, (D : Int)), (0, x)] [] (mk E c s (hh (sms g D))) = some ((3, 0), mk E c s (hh (tst g D))) := by
    intro x hx
    have ht : ∀ y : Int, y = tv2 g D → some (((3 : Nat), (0 : Int)), mk E c s (hh (up (up (up (up (sms g D) 117 D y) 120 D 0) 121 D 0) 122 D 20))) = some ((3, 0), mk E c s (hh (tst g D))) := fun y hy => by rw [hy]; rfl
    have l63 : ∀ y : Int, ¬ (g 118 D = 27) → y = tv2 g D → Ev prog clsT X (t + 1) mc197 63 [(2, 89), (0, (D : Int)), (0, y)] [] (mk E c s (hh (sms g D))) = some ((3, 0), mk E c s (hh (tst g D))) := fun y h27 hy => by
      rw [r197_63, inb_is, if_pos (by omega), Int.toNat_natCast, v2, cmp_ne, if_pos h27, l80]; exact ht y hy
    rw [r197_46, inb_is, if_pos (by omega), Int.toNat_natCast, v2, cmp_ne]
    by_cases q : g 118 D = 26
    · have h27 : ¬ (g 118 D = 27) := by rw [q]; decide
      have e2 : tv2 g D = bI (g 117 D ≠ 0 ∧ tv1 g D ≠ 0) := by unfold tv2; rw [if_neg h27, if_pos q]
      rw [if_neg (fun z => z q), inb_is, if_pos (by omega), v1, cmp_eq]
      by_cases p : g 117 D = 0
      · rw [if_pos p]; exact l63 0 h27 (by rw [e2, bI_f (fun z => z.1 p)])
      · rw [if_neg p, cmp_eq]
        by_cases p2 : x = 0
        · rw [if_pos p2]; exact l63 0 h27 (by rw [e2, bI_f (fun z => z.2 (by rw [← hx]; exact p2))])
        · rw [if_neg p2]; exact l63 1 h27 (by rw [e2, bI_t ⟨p, by rw [← hx]; exact p2⟩])
    · rw [if_pos q]
      by_cases h27 : g 118 D = 27
      · have e2 : tv2 g D = bI (g 117 D ≠ 0 ∨ tv1 g D ≠ 0) := by unfold tv2; rw [if_pos h27]
        rw [r197_63, inb_is, if_pos (by omega), Int.toNat_natCast, v2, cmp_ne, if_neg (fun z => z h27), inb_is, if_pos (by omega), v1, cmp_ne]
        by_cases p : g 117 D = 0
        · rw [if_neg (fun z => z p), cmp_eq]
          by_cases p2 : x = 0
          · rw [if_pos p2, l80]; exact ht 0 (by rw [e2, bI_f (fun z => by rcases z with z | z; exact z p; exact z (by rw [← hx]; exact p2))])
          · rw [if_neg p2, l80]; exact ht 1 (by rw [e2, bI_t (Or.inr (by rw [← hx]; exact p2))])
        · rw [if_pos p, l80]; exact ht 1 (by rw [e2, bI_t (Or.inl p)])
      · exact l63 x h27 (by rw [hx]; unfold tv2; rw [if_neg h27, if_neg q])
  have l27 : ∀ x : Int, ¬ (g 120 D = 25) → x = tv1 g D → Ev prog clsT X (t + 1) mc197 27 [(2, 89), (0, (D : Int)), (0, x)] [] (mk E c s (hh (sms g D))) = some ((3, 0), mk E c s (hh (tst g D))) := fun x h25 hx => by
    rw [r197_27, inb_is, if_pos (by omega), Int.toNat_natCast, v4, cmp_ne, if_pos h25]; exact l46 x hx
  rw [rc197_, call3 (m196 X E c s t D hD), push3, r197_3, inb_is, if_pos (by omega), inb_is, if_pos (by omega), Int.toNat_natCast, v4, v5, cmp_ne]
  by_cases q : g 120 D = 24
  · have h25 : ¬ (g 120 D = 25) := by rw [q]; decide
    have e1 : tv1 g D = bI (g 119 D < sm1 g D) := by unfold tv1; rw [if_neg h25, if_pos q]
    rw [if_neg (fun z => z q), inb_is, if_pos (by omega), inb_is, if_pos (by omega), v3, cmp_ge]
    by_cases p : sm1 g D ≤ g 119 D
    · rw [if_pos p]; exact l27 0 h25 (by rw [e1, bI_f (by omega)])
    · rw [if_neg p]; exact l27 1 h25 (by rw [e1, bI_t (by omega)])
  · rw [if_pos q]
    by_cases h25 : g 120 D = 25
    · have e1 : tv1 g D = bI (g 119 D = sm1 g D) := by unfold tv1; rw [if_pos h25]
      rw [r197_27, inb_is, if_pos (by omega), Int.toNat_natCast, v4, cmp_ne, if_neg (fun z => z h25), inb_is, if_pos (by omega), inb_is, if_pos (by omega), v3, v5, cmp_ne]
      by_cases p : g 119 D = sm1 g D
      · rw [if_neg (fun z => z p)]; exact l46 1 (by rw [e1, bI_t p])
      · rw [if_pos p]; exact l46 0 (by rw [e1, bI_f p])
    · exact l27 _ h25 (by unfold tv1; rw [if_neg h25, if_neg q])
/-- a value found: down past the nots, into the product -/
theorem k143 (t : Nat) (ln i : Int) (hi : 0 ≤ i ∧ i < 100000) : ∀ (D : Nat) (v : Int) (w4 : MV) (u : Gm), D < 7 → ∃ w w', Ev prog clsT X (t + 3) mc194 143 [(2, 89), (0, ln), (0, (D : Int)), (0, i), w4, (0, v)] [] (mk E c s (hh u)) = Ev prog clsT X (t + 3) mc194 10 [(2, 89), (0, ln), (0, (((fin u D v).1 : Nat) : Int)), (0, i + 1), w, w'] [] (mk E c s (hh (fin u D v).2)) := by
  have l159 : ∀ (D : Nat) (v : Int) (u : Gm), D < 7 → Ev prog clsT X (t + 3) mc194 159 [(2, 89), (0, ln), (0, (D : Int)), (0, i), (3, 0), (0, v)] [] (mk E c s (hh u)) = Ev prog clsT X (t + 3) mc194 10 [(2, 89), (0, ln), (0, (D : Int)), (0, i + 1), (3, 0), (0, v)] [] (mk E c s (hh (up u 123 D (ap u D v)))) := by
    intro D v u hD
    rw [r194_159, inb_is, if_pos (by omega), Int.toNat_natCast, cmp_ne, w32_of (x := i + 1) (by omega) (by omega)]
    unfold ap
    by_cases q : u 124 D = 0
    · rw [if_neg (fun z => z q), inb_is, if_pos (by omega), if_pos q]
    · rw [if_pos q, inb_is, if_pos (by omega), inb_is, if_pos (by omega), if_neg q]
  intro D
  induction D with
  | zero =>
    intro v w4 u hD
    refine ⟨(3, 0), (0, v), ?_⟩
    rw [r194_143, cmp_le, if_pos (by decide), l159 0 v u hD]
    rfl
  | succ D ih =>
    intro v w4 u hD
    rw [r194_143, cmp_le, if_neg (by omega), inb_is, if_pos (by omega), Int.toNat_natCast, cmp_ne]
    by_cases q : u 125 (D + 1) = 1
    · have e : fin u (D + 1) v = fin u D (ntI v) := if_pos q
      rw [if_neg (fun z => z q), cmp_ne, show w32 (((D + 1 : Nat) : Int) + -1) = (D : Int) by rw [w32_of (by omega) (by omega)]; omega, e]
      by_cases p : v = 0
      · rw [if_neg (fun z => z p), show ntI v = 1 from if_pos p]
        exact ih 1 _ u (by omega)
      · rw [if_pos p, show ntI v = 0 from if_neg p]
        exact ih 0 _ u (by omega)
    · have e : fin u (D + 1) v = (D + 1, up u 123 (D + 1) (ap u (D + 1) v)) := if_neg q
      rw [if_pos q, l159 (D + 1) v u hD, e]
      exact ⟨_, _, rfl⟩
theorem mst_D (g u : Gm) (D : Nat) (c : Int) (h : offR g u) : offR g (mst (D, u) c).2 := by
  unfold mst
  by_cases q1 : c = 28 ∨ c = 30
  · rw [if_pos q1]; exact offR_opn (offR_up h (by omega))
  rw [if_neg q1]
  by_cases q2 : c = 20 ∨ c = 21
  · rw [if_pos q2]; exact offR_up (offR_sms h) (by omega)
  rw [if_neg q2]
  by_cases q3 : c = 22
  · rw [if_pos q3]; exact offR_up h (by omega)
  rw [if_neg q3]
  by_cases q4 : c = 24 ∨ c = 25
  · rw [if_pos q4]; exact offR_up (offR_up (offR_up (offR_up (offR_sms h) (by omega)) (by omega)) (by omega)) (by omega)
  rw [if_neg q4]
  by_cases q5 : c = 26 ∨ c = 27
  · rw [if_pos q5]; exact offR_up (offR_tst h) (by omega)
  rw [if_neg q5]
  by_cases q6 : c = 29
  · rw [if_pos q6]; exact (offR_fin _ _ _ (offR_tst h)).1
  rw [if_neg q6]
  exact (offR_fin _ _ _ h).1
/-- one code -/
theorem k10 (t : Nat) (ln : Nat) (hln : ln < 117) (i D : Nat) (hi : i < 13000) (hD : D < 6) (w4 w5 : MV) {u : Gm} (hlt : (i : Int) < u 113 ln) (cc : Int) (hc : u 114 i = cc) (hv : vcd cc) (h29 : cc = 29 → 0 < D) : ∃ w w', Ev prog clsT X (t + 3) mc194 10 [(2, 89), (0, (ln : Int)), (0, (D : Int)), (0, (i : Int)), w4, w5] [] (mk E c s (hh u)) = Ev prog clsT X (t + 3) mc194 10 [(2, 89), (0, (ln : Int)), (0, (((mst (D, u) cc).1 : Nat) : Int)), (0, ((i + 1 : Nat) : Int)), w, w'] [] (mk E c s (hh (mst (D, u) cc).2)) := by
  have ei : (i : Int) + 1 = ((i + 1 : Nat) : Int) := by omega
  have ew : w32 ((i : Int) + 1) = ((i + 1 : Nat) : Int) := w32_succ (by omega)
  have eD : w32 ((D : Int) + 1) = ((D + 1 : Nat) : Int) := w32_succ (by omega)
  rw [r194_10, inb_is, if_pos (by omega), Int.toNat_natCast, cmp_ge, if_neg (by omega), inb_is, if_pos (by omega), Int.toNat_natCast, hc, cmp_eq]
  by_cases c28 : cc = 28
  · subst c28
    refine ⟨(0, 28), (3, 0), ?_⟩
    rw [if_pos rfl, r194_27, cmp_ne, if_pos (by decide), eD, inb_is, if_pos (by omega), Int.toNat_natCast, call3 (m195 X E c s (t + 2) (D + 1) (by omega)), push3, r194_41, ew]
    rfl
  rw [if_neg c28, cmp_ne]
  by_cases c30 : cc = 30
  · subst c30
    refine ⟨(0, 30), (3, 0), ?_⟩
    rw [if_neg (fun z => z rfl), r194_27, cmp_ne, if_neg (fun z => z rfl), eD, inb_is, if_pos (by omega), Int.toNat_natCast, call3 (m195 X E c s (t + 2) (D + 1) (by omega)), push3, r194_41, ew]
    rfl
  rw [if_pos c30, cmp_eq]
  have l48 : ∀ x : Int, Ev prog clsT X (t + 3) mc194 48 [(2, 89), (0, (ln : Int)), (0, (D : Int)), (0, (i : Int)), (0, x), (3, 0)] [] (mk E c s (hh u)) = Ev prog clsT X (t + 3) mc194 10 [(2, 89), (0, (ln : Int)), (0, (D : Int)), (0, ((i + 1 : Nat) : Int)), (0, x), (3, 0)] [] (mk E c s (hh (up (sms u D) 122 D x))) := fun x => by
    rw [r194_48, call3 (m196 X E c s (t + 2) D (by omega)), push3, r194_51, inb_is, if_pos (by omega), Int.toNat_natCast, ew]
  by_cases c20 : cc = 20
  · subst c20
    refine ⟨(0, 20), (3, 0), ?_⟩
    rw [if_pos rfl, l48]; rfl
  rw [if_neg c20, cmp_ne]
  by_cases c21 : cc = 21
  · subst c21
    refine ⟨(0, 21), (3, 0), ?_⟩
    rw [if_neg (fun z => z rfl), l48]; rfl
  rw [if_pos c21, r194_57, cmp_ne]
  by_cases c22 : cc = 22
  · subst c22
    refine ⟨(0, 22), (3, 0), ?_⟩
    rw [if_neg (fun z => z rfl), inb_is, if_pos (by omega), Int.toNat_natCast, ew]; rfl
  rw [if_pos c22, cmp_eq]
  have l72 : ∀ x : Int, Ev prog clsT X (t + 3) mc194 72 [(2, 89), (0, (ln : Int)), (0, (D : Int)), (0, (i : Int)), (0, x), (3, 0)] [] (mk E c s (hh u)) = Ev prog clsT X (t + 3) mc194 10 [(2, 89), (0, (ln : Int)), (0, (D : Int)), (0, ((i + 1 : Nat) : Int)), (0, x), (3, 0)] [] (mk E c s (hh (cpr u D x))) := fun x => by
    rw [r194_72, call3 (m196 X E c s (t + 2) D (by omega)), push3, r194_75, inb_is, if_pos (by omega), inb_is, if_pos (by omega), inb_is, if_pos (by omega), inb_is, if_pos (by omega), inb_is, if_pos (by omega), Int.toNat_natCast, ew, (sms_v u D).2.2.2.2]; rfl
  by_cases c24 : cc = 24
  · subst c24
    refine ⟨(0, 24), (3, 0), ?_⟩
    rw [if_pos rfl, l72]; rfl
  rw [if_neg c24, cmp_ne]
  by_cases c25 : cc = 25
  · subst c25
    refine ⟨(0, 25), (3, 0), ?_⟩
    rw [if_neg (fun z => z rfl), l72]; rfl
  rw [if_pos c25, cmp_eq]
  by_cases c26 : cc = 26
  · subst c26
    refine ⟨(0, 26), (3, 0), ?_⟩
    rw [if_pos rfl, call3 (m197 X E c s (t + 1) D (by omega)), push3, r194_108, inb_is, if_pos (by omega), Int.toNat_natCast, ew]; rfl
  rw [if_neg c26, cmp_ne]
  by_cases c27 : cc = 27
  · subst c27
    refine ⟨(0, 27), (3, 0), ?_⟩
    rw [if_neg (fun z => z rfl), call3 (m197 X E c s (t + 1) D (by omega)), push3, r194_108, inb_is, if_pos (by omega), Int.toNat_natCast, ew]; rfl
  rw [if_pos c27, r194_114, cmp_lt]
  by_cases c29 : cc = 29
  · subst c29
    have hD0 := h29 rfl
    obtain ⟨D', rfl⟩ : ∃ D', D = D' + 1 := ⟨D - 1, by omega⟩
    have e117 : tst u (D' + 1) 117 (D' + 1) = tv2 u (D' + 1) := by
      unfold tst
      rw [up_ne (by omega), up_ne (by omega), up_ne (by omega), up_same]
    obtain ⟨w, w', k⟩ := k143 X E c s t (ln : Int) (i : Int) (by omega) D' (tv2 u (D' + 1)) (0, 29) (tst u (D' + 1)) (by omega)
    refine ⟨w, w', ?_⟩
    rw [if_pos (by decide), cmp_ge, if_pos (by decide), cmp_ne, if_neg (fun z => z rfl), call3 (m197 X E c s (t + 1) (D' + 1) (by omega)), push3, r194_137, inb_is, if_pos (by omega), Int.toNat_natCast, e117, show w32 (((D' + 1 : Nat) : Int) + -1) = (D' : Int) by rw [w32_of (by omega) (by omega)]; omega, k, ei]
    rfl
  have em : mst (D, u) cc = fin u D (if 100 ≤ cc then w32 (cc - 100) else u 126 cc.toNat) := by
    unfold mst
    rw [if_neg (by omega), if_neg (by omega), if_neg c22, if_neg (by omega), if_neg (by omega), if_neg c29]
  obtain ⟨w, w', k⟩ := k143 X E c s t (ln : Int) (i : Int) (by omega) D (if 100 ≤ cc then w32 (cc - 100) else u 126 cc.toNat) (0, cc) u (by omega)
  refine ⟨w, w', ?_⟩
  rw [em, ← ei, ← k]
  by_cases c100 : cc < 100
  · have h11 : cc ≤ 11 ∧ 1 ≤ cc := by unfold vcd at hv; omega
    rw [if_pos c100, cmp_ge, if_neg (by omega), inb_is, if_pos (by omega), cmp_ne, if_pos c29, if_neg (by omega)]
  · rw [if_neg c100, cmp_ne, if_pos c29, if_pos (by omega)]
/-- Model.worth -/
theorem m194 (t ln a b : Nat) (hln : ln < 117) (h1 : g 112 ln = a) (h2 : g 113 ln = b) (hab : a ≤ b) (hb : b ≤ 13000) (hm : msf (0, opn g 0) (seg (g 114) a (b - a))) : ∃ g', Call prog clsT X (t + 4) 194 [(2, 89), (0, (ln : Int))] (mk E c s (hh g)) = some ((0, tv2 (mrun (0, opn g 0) (seg (g 114) a (b - a))).2 0), mk E c s (hh g')) ∧ offR g g' := by
  have loop : ∀ (n i D : Nat) (u : Gm) (w4 w5 : MV), i + n = b → offR g u → msf (D, u) (seg (g 114) i n) → ∃ g', Ev prog clsT X (t + 3) mc194 10 [(2, 89), (0, (ln : Int)), (0, (D : Int)), (0, (i : Int)), w4, w5] [] (mk E c s (hh u)) = some ((0, tv2 (mrun (D, u) (seg (g 114) i n)).2 0), mk E c s (hh g')) ∧ offR g g' := by
    intro n
    induction n with
    | zero =>
      intro i D u w4 w5 hi ho hm
      refine ⟨tst u 0, ?_, offR_tst ho⟩
      have e13 : u 113 ln = b := by rw [ho 113 ln (by omega)]; exact h2
      have e117 : tst u 0 117 0 = tv2 u 0 := by
        unfold tst
        rw [up_ne (by omega), up_ne (by omega), up_ne (by omega), up_same]
      have k := m197 X E c s (g := u) (t + 1) 0 (by decide)
      have k : Call prog clsT X (t + 3) 197 [(2, 89), (0, 0)] (mk E c s (hh u)) = _ := k
      rw [r194_10, inb_is, if_pos (by omega), Int.toNat_natCast, e13, cmp_ge, if_pos (by omega), call3 k, push3, r194_181, e117]
      rfl
    | succ n ih =>
      intro i D u w4 w5 hi ho hm
      have hm : D < 6 ∧ vcd (g 114 i) ∧ (g 114 i = 29 → 0 < D) ∧ msf (mst (D, u) (g 114 i)) (seg (g 114) (i + 1) n) := hm
      obtain ⟨w, w', k⟩ := k10 X E c s t ln hln i D (by omega) hm.1 w4 w5 (u := u) (by rw [ho 113 ln (by omega), h2]; omega) (g 114 i) (ho 114 i (by omega)) hm.2.1 hm.2.2.1
      obtain ⟨g', j1, j2⟩ := ih (i + 1) (mst (D, u) (g 114 i)).1 (mst (D, u) (g 114 i)).2 w w' (by omega) (mst_D g u D _ ho) hm.2.2.2
      exact ⟨g', k.trans j1, j2⟩
  obtain ⟨g', k1, k2⟩ := loop (b - a) a 0 (opn g 0) (3, 0) (3, 0) (by omega) (offR_opn (fun x i _ => rfl)) hm
  refine ⟨g', ?_, k2⟩
  have k0 := m195 X E c s (g := g) (t + 2) 0 (by decide)
  have k0 : Call prog clsT X (t + 3) 195 [(2, 89), (0, 0)] (mk E c s (hh g)) = _ := k0
  have e12 : opn g 0 112 ln = a := by rw [offR_opn (fun x i _ => rfl) 112 ln (by omega)]; exact h1
  have k1 : Ev prog clsT X (t + 3) mc194 10 [(2, 89), (0, (ln : Int)), (0, 0), (0, (a : Int)), (3, 0), (3, 0)] [] (mk E c s (hh (opn g 0))) = _ := k1
  rw [rc194_, call3 k0, push3, r194_5, inb_is, if_pos (by omega), Int.toNat_natCast, e12, k1]
end WORTH
