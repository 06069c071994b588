/-! Part 9q: lines, bars and words are worth the same on both sides. -/
theorem cst_congr {row row' : Nat → Int} {st : List Int} {o : Int} (hv : vop o) (h : ∀ f, f < 11 → row f = row' f) : cst row st o = cst row' st o := by
  unfold cst
  by_cases q : o < 20000
  · rw [if_pos q, if_pos q]
    have : o < 10011 := by rcases hv.2 with z | z <;> omega
    by_cases p : st.length < 32
    · rw [if_pos p, if_pos p]
      by_cases r : o < 10000
      · rw [if_pos r, if_pos r]
      · rw [if_neg r, if_neg r, h _ (by omega)]
    · rw [if_neg p, if_neg p]
  · rw [if_neg q, if_neg q]
theorem crun_congr {row row' : Nat → Int} (h : ∀ f, f < 11 → row f = row' f) : ∀ (P : List Int) (st : List Int), (∀ x, x ∈ P → vop x) → crun row st P = crun row' st P
  | [], _, _ => rfl
  | o :: P, st, hv => by
    show crun row (cst row st o) P = crun row' (cst row' st o) P
    rw [cst_congr (hv o (List.mem_cons_self ..)) h]
    exact crun_congr h P _ (fun x hx => hv x (List.mem_cons_of_mem _ hx))
/-- what the two sheets may change -/
def onS (g u : Gm) : Prop := ∀ x i, x ≠ 29 → ¬ (117 ≤ x ∧ x ≤ 125) → u x i = g x i
theorem onS_refl (g : Gm) : onS g g := fun _ _ _ _ => rfl
theorem onS_tr {g u v : Gm} (h : onS g u) (h2 : onS u v) : onS g v := fun x i a b => (h2 x i a b).trans (h x i a b)
theorem onS_C {g u : Gm} (h : off29 g u) : onS g u := fun x i a _ => h x i a
theorem onS_M {g u : Gm} (h : offR g u) : onS g u := fun x i _ b => h x i b
/-- the same rules -/
def sameR (g u : Gm) : Prop := fr sRX g u
theorem sameR_S {g u v : Gm} (h : sameR g u) (h2 : onS u v) : sameR g v := fun x i hs => by
  have : x ≠ 29 ∧ ¬ (117 ≤ x ∧ x ≤ 125) := by
    refine ⟨fun z => ?_, fun z => ?_⟩
    · subst z; exact absurd hs (by show ¬ (false = true); decide)
    · have hx : x = 117 ∨ x = 118 ∨ x = 119 ∨ x = 120 ∨ x = 121 ∨ x = 122 ∨ x = 123 ∨ x = 124 ∨ x = 125 := by omega
      rcases hx with y | y | y | y | y | y | y | y | y <;> subst y <;> exact absurd hs (by show ¬ (false = true); decide)
  rw [h2 x i this.1 this.2]
  exact h x i hs
section VALS
variable (X : MExt)
theorem val_eq {tx r k : Nat} {E : List (Nat × Nat)} {g : Gm} (h : RG tx E r k g) (hk : k ≤ 11) {j : Nat} (hj : j < nl tx) {row : Nat → Int} (hrow : rowOK row) : ∃ v, in32 v ∧ (∀ d c s u, sameR g u → (∀ f, f < 11 → u 28 f = row f) → ∃ u', Call prog clsT X (d + 3) 74 [(2, 27), (2, (r : Int)), (0, ((cl tx j : Nat) : Int))] (mk E c s (hh u)) = some ((0, v), mk E c s (hh u')) ∧ off29 u u') ∧ ((g 110 (9 * k + j) = 0 ∧ v = 0) ∨ (g 110 (9 * k + j) = 1 ∧ ∀ t c s w, sameR g w → fits row w → ∃ w', Call prog clsT X (t + 4) 194 [(2, 89), (0, ((9 * k + j : Nat) : Int))] (mk E c s (hh w)) = some ((0, v), mk E c s (hh w')) ∧ offR w w')) := by
  have hl := RG_lt h
  have hne : ¬ (r ≤ 29 ∧ 29 ≤ r + 4) := by omega
  have hcl := cl_lt hj
  have hj9 : j < 9 := by unfold nl at hj; split at hj <;> omega
  obtain ⟨cap, a1, a2, a3, a4, a5, a6, a7, a8, a9, a10, a11, a12, a13⟩ := h
  have cellC : ∀ u, sameR g u → ∀ x i, r ≤ x → x ≤ r + 4 → u x i = g x i := fun u hu x i h1 h2 => hu x i (by
    have hx : (11 ≤ x ∧ x ≤ 26) ∨ 159 ≤ x := by omega
    rcases hx with q | q
    · have : x = 11 ∨ x = 12 ∨ x = 13 ∨ x = 14 ∨ x = 15 ∨ x = 16 ∨ x = 17 ∨ x = 18 ∨ x = 19 ∨ x = 20 ∨ x = 21 ∨ x = 22 ∨ x = 23 ∨ x = 24 ∨ x = 25 ∨ x = 26 := by omega
      rcases this with z | z | z | z | z | z | z | z | z | z | z | z | z | z | z | z <;> subst z <;> rfl
    · unfold sRX; rw [decide_eq_true q]; rfl)
  have rp : ∀ u, sameR g u → RP u r := fun u hu => by
    unfold RP at a3 ⊢
    rw [cellC u hu _ _ (by omega) (by omega), cellC u hu _ _ (by omega) (by omega), cellC u hu _ _ (by omega) (by omega), cellC u hu _ _ (by omega) (by omega)]
    exact a3
  rcases a13 j hj with q | ⟨q, a, b, u0, v0, d1, d2, d3, d4, d5, d6, d7, d8, d9, d10⟩
  · refine ⟨0, in32_0, fun d c s u hu hr => ⟨u, ?_, fun _ _ _ => rfl⟩, Or.inl ⟨q.2, rfl⟩⟩
    exact c74n X E c s a1 (rp u hu) d (cl tx j) hcl (by rw [cellC u hu _ _ (by omega) (by omega)]; exact q.1)
  · obtain ⟨vp, hs⟩ := d10
    obtain ⟨v, hv, h1, h2⟩ := hs row hrow
    refine ⟨v, hv, fun d c s u hu hr => ?_, Or.inr ⟨q, fun t c s w hw hf => ?_⟩⟩
    · have es : seg (u (r + 4)) a (b - a) = seg (g (r + 4)) a (b - a) := seg_congr _ _ (fun i _ _ => cellC u hu _ _ (by omega) (by omega))
      obtain ⟨u', k1, k2⟩ := c74v X E c s a1 (rp u hu) a2 hne d (cl tx j) hcl (a := a) (b := b) (by rw [cellC u hu _ _ (by omega) (by omega)]; exact d1) (by rw [cellC u hu _ _ (by omega) (by omega)]; exact d2) d3 d4 (by rw [es]; exact fun x hx => (vp x hx).1)
      refine ⟨u', ?_, k2⟩
      rw [k1, es, crun_congr (row' := row) hr _ _ (fun x hx => (vp x hx).1), h1 [] (by decide)]
      rfl
    · have es : seg (w 114) u0 (v0 - u0) = seg (g 114) u0 (v0 - u0) := seg_congr _ _ (fun i _ _ => hw 114 i rfl)
      have ho := opn_v w 0
      have hfo : fits row (opn w 0) := fun f hl => by
        rw [offR_opn (g := w) (fun x i _ => rfl) 126 (f + 1) (by omega)]; exact hf f hl
      obtain ⟨g1, k1, k2, k3, k4⟩ := h2 (opn w 0) (fun f hl _ => hfo f hl) (Or.inl rfl) ⟨ho.2.2.1, ho.2.2.2.1, ho.2.2.2.2.1⟩ ho.2.1 ho.1
      obtain ⟨w', m1, m2⟩ := m194 X E c s (g := w) t (9 * k + j) u0 v0 (by omega) (by rw [hw 112 _ rfl]; exact d5) (by rw [hw 113 _ rfl]; exact d6) d8 (by omega) (by rw [es]; exact k4)
      refine ⟨w', ?_, m2⟩
      rw [m1, es, k1]
      show some (((0 : Nat), tv2 g1 0), _) = _
      rw [k3]
theorem in64_32 {v : Int} (h : in32 v) : in64 v := by unfold in32 at h; unfold in64; omega
/-- bars from the i-th on -/
theorem bar_key {E : List (Nat × Nat)} {r k nb cap : Nat} {g : Gm} {row : Nat → Int} (hk : k ≤ 11) (h6 : nb ≤ 6) (hnb : g 109 k = (nb : Int)) (r1 : CE E r 7 8) (r2 : CE E (r + 1) 100 6) (cellC : ∀ u, sameR g u → u r 3 = g r 3 ∧ ∀ i, u (r + 1) i = g (r + 1) i) (a3 : g r 3 = ((r + 1 : Nat) : Int)) (hw111 : ∀ i, i < nb → g (r + 1) i = g 111 (9 * k + i) ∧ 0 ≤ g 111 (9 * k + i) ∧ g 111 (9 * k + i) ≤ 99) (hval : ∀ i, i < nb → ∃ v, (∀ d c s u, sameR g u → (∀ f, f < 11 → u 28 f = row f) → ∃ u', Call prog clsT X (d + 3) 74 [(2, 27), (2, (r : Int)), (0, (i : Int))] (mk E c s (hh u)) = some ((0, v), mk E c s (hh u')) ∧ off29 u u') ∧ (∀ t c s w, sameR g w → fits row w → ∃ w', Call prog clsT X (t + 4) 194 [(2, 89), (0, ((9 * k + i : Nat) : Int))] (mk E c s (hh w)) = some ((0, v), mk E c s (hh w')) ∧ offR w w')) : ∀ n i, i + n = nb → ∃ v, -1 ≤ v ∧ v ≤ 99 ∧ (∀ d c s u, sameR g u → (∀ f, f < 11 → u 28 f = row f) → ∃ u', Ev prog clsT X (d + 3) mc73 11 [(2, 27), (2, (r : Int)), (0, (nb : Int)), (0, (i : Int))] [] (mk E c s (hh u)) = some ((0, v), mk E c s (hh u')) ∧ off29 u u') ∧ (∀ t c s w, sameR g w → fits row w → ∃ w', Ev prog clsT X (t + 4) mc193 4 [(2, 89), (0, (k : Int)), (0, ((9 * k + i : Nat) : Int))] [] (mk E c s (hh w)) = some ((0, v), mk E c s (hh w')) ∧ offR w w') := by
  have e9 : w32 (9 * (k : Int)) = ((9 * k : Nat) : Int) := by rw [w32_of (by omega) (by omega)]; omega
  have e9b : w32 (((9 * k : Nat) : Int) + (nb : Int)) = ((9 * k + nb : Nat) : Int) := by rw [w32_of (by omega) (by omega)]; omega
  intro n
  induction n with
  | zero =>
    intro i hi
    refine ⟨-1, by decide, by decide, fun d c s u hu hr => ⟨u, ?_, fun _ _ _ => rfl⟩, fun t c s w hw hf => ⟨w, ?_, fun _ _ _ => rfl⟩⟩
    · rw [r73_11, cmp_ge, if_pos (by omega)]
    · have e109 : w 109 k = (nb : Int) := by rw [hw 109 k rfl]; exact hnb
      rw [r193_4, inb_is, if_pos (by omega), Int.toNat_natCast, e109, e9, e9b, cmp_ge, if_pos (by omega)]
  | succ n ih =>
    intro i hi
    obtain ⟨b1, b2, b3⟩ := hw111 i (by omega)
    obtain ⟨v, v1, v2⟩ := hval i (by omega)
    by_cases hz : v = 0
    · obtain ⟨y, y1, y2, y3, y4⟩ := ih (i + 1) (by omega)
      refine ⟨y, y1, y2, fun d c s u hu hr => ?_, fun t c s w hw hf => ?_⟩
      · obtain ⟨u', k1, k2⟩ := v1 d c s u hu hr
        obtain ⟨u2, l1, l2⟩ := y3 d c s u' (sameR_S hu (onS_C k2)) (fun f hf => by rw [k2 28 f (by decide)]; exact hr f hf)
        refine ⟨u2, ?_, fun x i hx => (l2 x i hx).trans (k2 x i hx)⟩
        rw [r73_11, cmp_ge, if_neg (by omega), call0 k1, push0, r73_18, cmp_eq, if_pos hz, w32_succ (by omega), l1]
      · obtain ⟨w', k1, k2⟩ := v2 t c s w hw hf
        obtain ⟨w2, l1, l2⟩ := y4 t c s w' (sameR_S hw (onS_M k2)) (fun f hl => by rw [k2 126 _ (by omega)]; exact hf f hl)
        refine ⟨w2, ?_, fun x i hx => (l2 x i hx).trans (k2 x i hx)⟩
        have e109 : w 109 k = (nb : Int) := by rw [hw 109 k rfl]; exact hnb
        rw [r193_4, inb_is, if_pos (by omega), Int.toNat_natCast, e109, e9, e9b, cmp_ge, if_neg (by omega), call0 k1, push0, r193_17, cmp_eq, if_pos hz, show w32 (((9 * k + i : Nat) : Int) + 1) = ((9 * k + (i + 1) : Nat) : Int) from w32_succ (by omega), l1]
    · refine ⟨g 111 (9 * k + i), by omega, b3, fun d c s u hu hr => ?_, fun t c s w hw hf => ?_⟩
      · obtain ⟨u', k1, k2⟩ := v1 d c s u hu hr
        have hu' := sameR_S hu (onS_C k2)
        refine ⟨u', ?_, k2⟩
        rw [r73_11, cmp_ge, if_neg (by omega), call0 k1, push0, r73_18, cmp_eq, if_neg hz, fg_3 E c s r1, (cellC u' hu').1, a3, agR X E c s r2, if_pos (by omega), Int.toNat_natCast, (cellC u' hu').2 i, b1]
      · obtain ⟨w', k1, k2⟩ := v2 t c s w hw hf
        have hw' := sameR_S hw (onS_M k2)
        refine ⟨w', ?_, k2⟩
        have e109 : w 109 k = (nb : Int) := by rw [hw 109 k rfl]; exact hnb
        rw [r193_4, inb_is, if_pos (by omega), Int.toNat_natCast, e109, e9, e9b, cmp_ge, if_neg (by omega), call0 k1, push0, r193_17, cmp_eq, if_neg hz, inb_is, if_pos (by omega), Int.toNat_natCast, hw' 111 _ rfl]
/-- Sheet.firstBar, Model.barBy -/
theorem bar_eq {tx r k : Nat} {E : List (Nat × Nat)} {g : Gm} (h : RG tx E r k g) (hk : k ≤ 11) (htx : tx ≠ 2) {row : Nat → Int} (hrow : rowOK row) : ∃ v, -1 ≤ v ∧ v ≤ 99 ∧ (∀ d c s u, sameR g u → (∀ f, f < 11 → u 28 f = row f) → ∃ u', Call prog clsT X (d + 4) 73 [(2, 27), (2, (r : Int))] (mk E c s (hh u)) = some ((0, v), mk E c s (hh u')) ∧ off29 u u') ∧ (∀ t c s w, sameR g w → fits row w → ∃ w', Call prog clsT X (t + 5) 193 [(2, 89), (0, (k : Int))] (mk E c s (hh w)) = some ((0, v), mk E c s (hh w')) ∧ offR w w') := by
  have hl := RG_lt h
  have hval := fun (j : Nat) (hj : j < nl tx) => val_eq X h hk hj hrow
  have hnl : nl tx = 8 := if_neg htx
  have hcl : ∀ j, cl tx j = j := fun j => if_neg htx
  obtain ⟨cap, a1, a2, a3, a4, a5, a6, a7, a8, a9, a10, a11, a12, a13⟩ := h
  obtain ⟨nb, hnb⟩ := Int.eq_ofNat_of_zero_le a10
  have cellC : ∀ u, sameR g u → ∀ x i, r ≤ x → x ≤ r + 4 → u x i = g x i := fun u hu x i h1 h2 => hu x i (by
    have hx : (11 ≤ x ∧ x ≤ 26) ∨ 159 ≤ x := by omega
    rcases hx with q | q
    · have : x = 11 ∨ x = 12 ∨ x = 13 ∨ x = 14 ∨ x = 15 ∨ x = 16 ∨ x = 17 ∨ x = 18 ∨ x = 19 ∨ x = 20 ∨ x = 21 ∨ x = 22 ∨ x = 23 ∨ x = 24 ∨ x = 25 ∨ x = 26 := by omega
      rcases this with z | z | z | z | z | z | z | z | z | z | z | z | z | z | z | z <;> subst z <;> rfl
    · unfold sRX; rw [decide_eq_true q]; rfl)
  have key := bar_key X (E := E) (r := r) (k := k) (nb := nb) (g := g) (row := row) hk (by omega) hnb a1.1 a1.2.1 (cap := cap) (fun u hu => ⟨cellC u hu r 3 (by omega) (by omega), fun i => cellC u hu (r + 1) i (by omega) (by omega)⟩) a3.1 (fun i hi => ⟨(a12 i (by omega)).1, (a12 i (by omega)).2.1, (a12 i (by omega)).2.2.1⟩) (fun i hi => by
    obtain ⟨v, hv, v1, v2⟩ := hval i (by omega)
    rw [hcl] at v1
    refine ⟨v, v1, ?_⟩
    rcases v2 with z | z
    · have := (a12 i (by omega)).2.2.2
      rw [this] at z; exact absurd z.1 (by decide)
    · exact z.2)
  obtain ⟨v, h1, h2, h3, h4⟩ := key nb 0 (by omega)
  refine ⟨v, h1, h2, fun d c s u hu hr => ?_, fun t c s w hw hf => ?_⟩
  · obtain ⟨u', k1, k2⟩ := h3 d c s u hu hr
    refine ⟨u', ?_, k2⟩
    have e2 : u r 2 = (nb : Int) := by rw [cellC u hu r 2 (by omega) (by omega), a6]; exact hnb
    have k1 : Ev prog clsT X (d + 3) mc73 11 [(2, 27), (2, (r : Int)), (0, (nb : Int)), (0, 0)] [] (mk E c s (hh u)) = _ := k1
    rw [rc73_, if_pos ⟨rfl, by omega⟩, if_pos (by rw [Bool.not_eq_true', decide_eq_false_iff_not]; omega), fg_2 E c s a1.1, e2, if_neg (by omega), k1]
  · obtain ⟨w', k1, k2⟩ := h4 t c s w hw hf
    refine ⟨w', ?_, k2⟩
    rw [rc193_, show w32 (9 * (k : Int)) = ((9 * k + 0 : Nat) : Int) by rw [w32_of (by omega) (by omega)]; omega, k1]
/-- Sheet.wordBy, Model.outBy -/
theorem word_eq {r k rb : Nat} {E : List (Nat × Nat)} {g : Gm} (h : RG 0 E r k g) (hk : k < 10) (hb : RG 1 E rb 10 g) {row : Nat → Int} (hrow : rowOK row) : ∃ v, -1 ≤ v ∧ v ≤ 100 ∧ (∀ d c s u, sameR g u → (∀ f, f < 11 → u 28 f = row f) → ∃ u', Call prog clsT X (d + 5) 72 [(2, 27), (2, (r : Int)), (2, (rb : Int))] (mk E c s (hh u)) = some ((0, v), mk E c s (hh u')) ∧ off29 u u') ∧ (∀ t c s w, sameR g w → fits row w → ∃ w', Call prog clsT X (t + 6) 192 [(2, 89), (0, (k : Int))] (mk E c s (hh w)) = some ((0, v), mk E c s (hh w')) ∧ offR w w') := by
  obtain ⟨v1, p1, p2, p3, p4⟩ := bar_eq X h (by omega) (by decide) hrow
  obtain ⟨v2, q1, q2, q3, q4⟩ := bar_eq X hb (by omega) (by decide) hrow
  have hl := RG_lt h
  obtain ⟨cap, a1, a2, a3, a4, a5, a6, a7, a8, a9, a10, a11, a12, a13⟩ := h
  have cell0 : ∀ u, sameR g u → u r 0 = g r 0 := fun u hu => hu r 0 (by
    have hx : (11 ≤ r ∧ r ≤ 26) ∨ 159 ≤ r := by omega
    rcases hx with q | q
    · have : r = 11 ∨ r = 12 ∨ r = 13 ∨ r = 14 ∨ r = 15 ∨ r = 16 ∨ r = 17 ∨ r = 18 ∨ r = 19 ∨ r = 20 ∨ r = 21 ∨ r = 22 ∨ r = 23 ∨ r = 24 ∨ r = 25 ∨ r = 26 := by omega
      rcases this with z | z | z | z | z | z | z | z | z | z | z | z | z | z | z | z <;> subst z <;> rfl
    · unfold sRX; rw [decide_eq_true q]; rfl)
  have c5 : (2 : Nat) = 2 ∧ (r : Int) ≠ -5 := ⟨rfl, by omega⟩
  have c1 : (!decide ((r : Int) = -1)) = true := by rw [Bool.not_eq_true', decide_eq_false_iff_not]; omega
  have e13 : ∀ (P : Prop) [Decidable P] (α : Type) (a b : α), (0 ≤ (k : Int) ∧ (k : Int) < (13 : Nat)) := fun _ _ _ _ _ => by omega
  by_cases hout : 0 < g 107 k ∧ (row 0 ≠ g 107 k ∨ 0 < row 2)
  · refine ⟨100, by decide, by decide, fun d c s u hu hr => ⟨u, ?_, fun _ _ _ => rfl⟩, fun t c s w hw hf => ⟨w, ?_, fun _ _ _ => rfl⟩⟩
    · rw [rc72_, if_pos c5, if_pos c1, fg_0 E c s a1.1, cell0 u hu, a4, cmp_le, if_neg (by omega), fg_0 E c s a1.1, cell0 u hu, a4, cmp_ne, hr 0 (by decide)]
      by_cases z : row 0 = g 107 k
      · rw [if_neg (fun y => y z), cmp_le, hr 2 (by decide), if_neg (by rcases hout.2 with y | y; exact absurd z y; omega)]
      · rw [if_pos z]
    · have f1 : w 126 1 = row 0 := hf 0 (by decide)
      have f3 : w 126 3 = row 2 := hf 2 (by decide)
      rw [rc192_, inb_is, if_pos (by omega), Int.toNat_natCast, hw 107 k rfl, cmp_le, if_neg (by omega), inb_is, if_pos (by omega), cmp_ne, f1]
      by_cases z : row 0 = g 107 k
      · rw [if_neg (fun y => y z), cmp_le, f3, if_neg (by rcases hout.2 with y | y; exact absurd z y; omega)]
      · rw [if_pos z]
  · -- bars of the class, then of the book
    refine ⟨if v1 = -1 then v2 else v1, by split <;> omega, by split <;> omega, fun d c s u hu hr => ?_, fun t c s w hw hf => ?_⟩
    · obtain ⟨u1, k1, k2⟩ := p3 d c s u hu hr
      have hu1 := sameR_S hu (onS_C k2)
      have tl : Ev prog clsT X (d + 4) mc72 24 [(2, 27), (2, (r : Int)), (2, (rb : Int)), (3, 0)] [(0, v1)] (mk E c s (hh u1)) = (if v1 = -1 then (Call prog clsT X (d + 4) 73 [(2, 27), (2, (rb : Int))] (mk E c s (hh u1))).bind fun r1 => if r1.1.1 = 4 then none else Ev prog clsT X (d + 4) mc72 33 [(2, 27), (2, (r : Int)), (2, (rb : Int)), (0, v1)] (pushR r1.1 []) r1.2 else some ((0, v1), mk E c s (hh u1))) := by
        rw [r72_24, cmp_eq]; split
        · rfl
        · rw [r72_33]
      have hd : Call prog clsT X (d + 5) 72 [(2, 27), (2, (r : Int)), (2, (rb : Int))] (mk E c s (hh u)) = Ev prog clsT X (d + 4) mc72 24 [(2, 27), (2, (r : Int)), (2, (rb : Int)), (3, 0)] [(0, v1)] (mk E c s (hh u1)) := by
        rw [rc72_, if_pos c5, if_pos c1, fg_0 E c s a1.1, cell0 u hu, a4, cmp_le]
        by_cases z0 : g 107 k ≤ 0
        · rw [if_pos z0, call0 k1, push0]
        · have z1 : row 0 = g 107 k := Classical.byContradiction (fun y => hout ⟨by omega, Or.inl y⟩)
          have z2 : row 2 ≤ 0 := Classical.byContradiction (fun y => hout ⟨by omega, Or.inr (by omega)⟩)
          rw [if_neg z0, fg_0 E c s a1.1, cell0 u hu, a4, cmp_ne, hr 0 (by decide), if_neg (fun y => y z1), cmp_le, hr 2 (by decide), if_pos z2, call0 k1, push0]
      rw [hd, tl]
      by_cases z : v1 = -1
      · obtain ⟨u2, l1, l2⟩ := q3 d c s u1 hu1 (fun f hf => by rw [k2 28 f (by decide)]; exact hr f hf)
        refine ⟨u2, ?_, fun x i hx => (l2 x i hx).trans (k2 x i hx)⟩
        rw [if_pos z, if_pos z, call0 l1, push0, r72_33]
      · exact ⟨u1, by rw [if_neg z, if_neg z], k2⟩
    · obtain ⟨w1, k1, k2⟩ := p4 t c s w hw hf
      have hw1 := sameR_S hw (onS_M k2)
      have f1 : w 126 1 = row 0 := hf 0 (by decide)
      have f3 : w 126 3 = row 2 := hf 2 (by decide)
      have hd : Call prog clsT X (t + 6) 192 [(2, 89), (0, (k : Int))] (mk E c s (hh w)) = Ev prog clsT X (t + 5) mc192 24 [(2, 89), (0, (k : Int)), (3, 0)] [(0, v1)] (mk E c s (hh w1)) := by
        rw [rc192_, inb_is, if_pos (by omega), Int.toNat_natCast, hw 107 k rfl, cmp_le]
        by_cases z0 : g 107 k ≤ 0
        · rw [if_pos z0, call0 k1, push0]
        · have z1 : row 0 = g 107 k := Classical.byContradiction (fun y => hout ⟨by omega, Or.inl y⟩)
          have z2 : row 2 ≤ 0 := Classical.byContradiction (fun y => hout ⟨by omega, Or.inr (by omega)⟩)
          rw [if_neg z0, inb_is, if_pos (by omega), cmp_ne, f1, if_neg (fun y => y z1), cmp_le, f3, if_pos z2, call0 k1, push0]
      rw [hd, r192_24, cmp_lt]
      by_cases z : v1 = -1
      · obtain ⟨w2, l1, l2⟩ := q4 t c s w1 hw1 (fun f hl => by rw [k2 126 _ (by omega)]; exact hf f hl)
        have l1 : Call prog clsT X (t + 5) 193 [(2, 89), (0, 10)] (mk E c s (hh w1)) = _ := l1
        refine ⟨w2, ?_, fun x i hx => (l2 x i hx).trans (k2 x i hx)⟩
        rw [if_pos (by omega), call0 l1, push0, r192_32, if_pos z]
      · exact ⟨w1, by rw [if_neg (by omega), r192_32, if_neg z], k2⟩
end VALS
