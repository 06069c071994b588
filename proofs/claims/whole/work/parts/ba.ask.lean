/-! Part ba: calls that throw, as the law asks them: the reference's answer wherever scratch stands. -/
def OpQ2 (X : MExt) (cj mj k tg : Nat) (A : List MV) : Prop := ∀ (N : Int) (E : List (Nat × Nat)) (c s d : Nat) (g : Gm), ST N E g → ∃ g1, onQ g g1 ∧ ((∃ v, Call prog clsT X (d + k) cj ((2, 0) :: A) (mk E c s (hh g)) = some ((tg, v), mk E c s (hh g1)) ∧ ∀ u, onQ g u → ∃ g2, onQ g g2 ∧ g2 158 0 = u 158 0 ∧ Call prog clsT X (d + k) mj ((2, 89) :: A) (mk E c s (hh u)) = some ((tg, v), mk E c s (hh g2)) ∧ g2 89 0 = 0) ∨ (Call prog clsT X (d + k) cj ((2, 0) :: A) (mk E c s (hh g)) = some ((4, 0), mk E (c + 8) (s + 64) (hh g1)) ∧ ∀ u, onQ g u → ∃ w g2, onQ g g2 ∧ Call prog clsT X (d + k) mj ((2, 89) :: A) (mk E (c + 8) (s + 64) (hh u)) = some ((tg, w), mk E (c + 8) (s + 64) (hh g2)) ∧ g2 89 0 = 1))
section ASK
variable (X : MExt)
theorem q_verdict (x1 : Int) : OpQ2 X 140 187 8 0 [(0, x1)] := by
  intro N E c s d g h
  have hre := h.1.1.1
  have hle := hre.rn.le
  by_cases q : 0 ≤ x1 ∧ x1 < nE g
  · obtain ⟨e, rfl⟩ := Int.eq_ofNat_of_zero_le q.1
    obtain ⟨v, _, _, wc, wm⟩ := ew X h (e := e) (by omega)
    obtain ⟨g1, a1, a2, _⟩ := wc (d + 1) c s g (onQ_refl g)
    refine ⟨g1, a2, Or.inl ⟨v, ?_, fun u hu => ?_⟩⟩
    · rw [rc140_, call0 (show Call prog clsT X (d + 7) 20 _ _ = _ from c20 X E c s hre (d + 6) _), push0, bI_t q, r140_4, cmp_ne, if_pos (by decide), call0 a1, push0, r140_13]
    · obtain ⟨g2, b1, b2, b3⟩ := wm d c s (up u 89 0 0) (onQ_0 hu 0)
      refine ⟨g2, b2, (b3 158 0 (by decide)).trans (up_cell (by decide)), ?_, b3 89 0 (by decide)⟩
      rw [rc187_, call0 (show Call prog clsT X (d + 7) 162 _ _ = _ from m162 X E c s (RN_Q h hu) (d + 6) _), push0, nE_Q hu, bI_t q, r187_4, cmp_eq, if_neg (by decide), cmp_ne, if_pos (by decide), call0 b1, push0, r187_18]
  · refine ⟨g, onQ_refl g, Or.inr ⟨?_, fun u hu => ⟨0, up u 89 0 1, onQ_0 hu 1, ?_, up_same⟩⟩⟩
    · rw [rc140_, call0 (show Call prog clsT X (d + 7) 20 _ _ = _ from c20 X E c s hre (d + 6) _), push0, bI_f q, r140_4, cmp_ne, if_neg (by decide)]
      rfl
    · rw [rc187_, call0 (show Call prog clsT X (d + 7) 162 _ _ = _ from m162 X E (c + 8) (s + 64) (RN_Q h hu) (d + 6) _), push0, nE_Q hu, bI_f q, r187_4, cmp_eq, if_pos rfl, cmp_ne, if_neg (by decide), r187_18]
theorem q_marks (x1 x2 : Int) : OpQ2 X 142 205 7 0 [(0, x1), (0, x2)] := by
  intro N E c s d g h
  have hre := h.1.1.1
  have hle := hre.rn.le
  have thr : ¬ (0 ≤ x1 ∧ x1 < nE g) ∨ ((0 ≤ x1 ∧ x1 < nE g) ∧ ¬ (0 ≤ x2 ∧ x2 ≤ 3 ∧ g 127 x2.toNat ≠ 0)) → Call prog clsT X (d + 7) 142 [(2, 0), (0, x1), (0, x2)] (mk E c s (hh g)) = some ((4, 0), mk E (c + 8) (s + 64) (hh g)) ∧ ∀ u, onQ g u → ∃ w g2, onQ g g2 ∧ Call prog clsT X (d + 7) 205 [(2, 89), (0, x1), (0, x2)] (mk E (c + 8) (s + 64) (hh u)) = some ((0, w), mk E (c + 8) (s + 64) (hh g2)) ∧ g2 89 0 = 1 := fun hc => by
    refine ⟨?_, fun u hu => ⟨0, up u 89 0 1, onQ_0 hu 1, ?_, up_same⟩⟩
    · rw [rc142_, call0 (show Call prog clsT X (d + 6) 20 _ _ = _ from c20 X E c s hre (d + 5) _), push0]
      rcases hc with q | ⟨q1, q2⟩
      · rw [bI_f q, r142_4, cmp_eq, if_pos rfl]; rfl
      · rw [bI_t q1, r142_4, cmp_eq, if_neg (by decide), call0 (show Call prog clsT X (d + 6) 34 _ _ = _ from c34 X E c s h.1.1.2.2.1 (d + 4) _), push0, bI_f q2, r142_9, cmp_ne, if_neg (by decide)]; rfl
    · rw [rc205_, call0 (show Call prog clsT X (d + 6) 162 _ _ = _ from m162 X E (c + 8) (s + 64) (RN_Q h hu) (d + 5) _), push0, nE_Q hu]
      rcases hc with q | ⟨q1, q2⟩
      · rw [bI_f q, r205_4, cmp_eq, if_pos rfl, cmp_ne, if_neg (by decide), r205_23]
      · have q2' : ¬ (0 ≤ x2 ∧ x2 ≤ 3 ∧ u 127 x2.toNat ≠ 0) := by rw [hu 127 _ rfl]; exact q2
        rw [bI_t q1, r205_4, cmp_eq, if_neg (by decide), call0 (show Call prog clsT X (d + 6) 202 _ _ = _ from m202 X E (c + 8) (s + 64) (d + 4) _), push0, bI_f q2', r205_8, cmp_eq, if_pos rfl, cmp_ne, if_neg (by decide), r205_23]
  by_cases q : 0 ≤ x1 ∧ x1 < nE g
  case neg => exact ⟨g, onQ_refl g, Or.inr (thr (Or.inl q))⟩
  by_cases q2 : 0 ≤ x2 ∧ x2 ≤ 3 ∧ g 127 x2.toNat ≠ 0
  case neg => exact ⟨g, onQ_refl g, Or.inr (thr (Or.inr ⟨q, q2⟩))⟩
  obtain ⟨e, rfl⟩ := Int.eq_ofNat_of_zero_le q.1
  obtain ⟨j, rfl⟩ := Int.eq_ofNat_of_zero_le q2.1
  have he : e < nE g := by omega
  obtain ⟨k, x, r, h99, h100, hk, hx, h16, _⟩ := ent h he
  have e31 : ∀ e : Nat, g 31 e = g 99 e := by
    obtain ⟨_, _, _, _, _, e31, _⟩ := hre
    exact e31
  obtain ⟨v, _, vc, vm⟩ := ej X h he h99 h16
  obtain ⟨u1, a1, a2, a3, _⟩ := tellC X c s h he (onQ_refl g) (d + 2)
  obtain ⟨g1, b1, b2, b3, _⟩ := vc j (by omega) (d + 2) c s u1 a2 a3
  refine ⟨g1, b2, Or.inl ⟨v j, ?_, fun u hu => ?_⟩⟩
  · rw [rc142_, call0 (show Call prog clsT X (d + 6) 20 _ _ = _ from c20 X E c s hre (d + 5) _), push0, bI_t q, r142_4, cmp_eq, if_neg (by decide), call0 (show Call prog clsT X (d + 6) 34 _ _ = _ from c34 X E c s h.1.1.2.2.1 (d + 4) _), push0, bI_t q2, r142_9, cmp_ne, if_pos (by decide), call3 a1, push3, r142_18, inb_is, if_pos (by omega), Int.toNat_natCast, a2 31 e rfl, e31, h99, call2 (show Call prog clsT X (d + 6) 97 _ _ = _ from s97 X c s h hk h16 a2 (d + 4)), push2, r142_27, call0 b1, push0, r142_28]
  · obtain ⟨g2, w1, w2, w3⟩ := vm j (by omega) d c s (up u 89 0 0) (onQ_0 hu 0)
    refine ⟨g2, w2, (w3 158 0 (by decide)).trans (up_cell (by decide)), ?_, w3 89 0 (by decide)⟩
    have q2' : 0 ≤ (j : Int) ∧ (j : Int) ≤ 3 ∧ u 127 (j : Int).toNat ≠ 0 := by rw [hu 127 _ rfl]; exact q2
    rw [rc205_, call0 (show Call prog clsT X (d + 6) 162 _ _ = _ from m162 X E c s (RN_Q h hu) (d + 5) _), push0, nE_Q hu, bI_t q, r205_4, cmp_eq, if_neg (by decide), call0 (show Call prog clsT X (d + 6) 202 _ _ = _ from m202 X E c s (d + 4) _), push0, bI_t q2', r205_8, cmp_eq, if_neg (by decide), cmp_ne, if_pos (by decide), call0 w1, push0, r205_23]
theorem q_fact (x1 x2 : Int) : OpQ2 X 141 198 5 0 [(0, x1), (0, x2)] := by
  intro N E c s d g h
  have hre := h.1.1.1
  have hle := hre.rn.le
  have thr : ¬ (0 ≤ x1 ∧ x1 < nE g) ∨ ((0 ≤ x1 ∧ x1 < nE g) ∧ ¬ (0 ≤ x2 ∧ x2 ≤ 13)) → Call prog clsT X (d + 5) 141 [(2, 0), (0, x1), (0, x2)] (mk E c s (hh g)) = some ((4, 0), mk E (c + 8) (s + 64) (hh g)) ∧ ∀ u, onQ g u → ∃ w g2, onQ g g2 ∧ Call prog clsT X (d + 5) 198 [(2, 89), (0, x1), (0, x2)] (mk E (c + 8) (s + 64) (hh u)) = some ((0, w), mk E (c + 8) (s + 64) (hh g2)) ∧ g2 89 0 = 1 := fun hc => by
    refine ⟨?_, fun u hu => ⟨0, up u 89 0 1, onQ_0 hu 1, ?_, up_same⟩⟩
    · rw [rc141_, call0 (show Call prog clsT X (d + 4) 20 _ _ = _ from c20 X E c s hre (d + 3) _), push0]
      rcases hc with q | ⟨q1, q2⟩
      · rw [bI_f q, r141_4, cmp_eq, if_pos rfl]; rfl
      · rw [bI_t q1, r141_4, cmp_eq, if_neg (by decide), call0 (show Call prog clsT X (d + 4) 90 _ _ = _ from c90 X E c s (d + 3) _ _ _), push0, bI_f q2, r141_9, cmp_ne, if_neg (by decide)]; rfl
    · rw [rc198_, call0 (show Call prog clsT X (d + 4) 162 _ _ = _ from m162 X E (c + 8) (s + 64) (RN_Q h hu) (d + 3) _), push0, nE_Q hu]
      rcases hc with q | ⟨q1, q2⟩
      · rw [bI_f q, r198_4, cmp_eq, if_pos rfl, cmp_ne, if_neg (by decide)]
      · rw [bI_t q1, r198_4, cmp_eq, if_neg (by decide), call0 (show Call prog clsT X (d + 4) 152 _ _ = _ from m152 X E (c + 8) (s + 64) (d + 3) _ _ _), push0, bI_f q2, r198_9, cmp_eq, if_pos rfl, cmp_ne, if_neg (by decide)]
  by_cases q : 0 ≤ x1 ∧ x1 < nE g
  case neg => exact ⟨g, onQ_refl g, Or.inr (thr (Or.inl q))⟩
  by_cases q2 : 0 ≤ x2 ∧ x2 ≤ 13
  case neg => exact ⟨g, onQ_refl g, Or.inr (thr (Or.inr ⟨q, q2⟩))⟩
  obtain ⟨e, rfl⟩ := Int.eq_ofNat_of_zero_le q.1
  obtain ⟨f, rfl⟩ := Int.eq_ofNat_of_zero_le q2.1
  have he : e < nE g := by omega
  obtain ⟨_, _, _, _, _, e31, e32, _⟩ := hre
  have hre := h.1.1.1
  have goC : Call prog clsT X (d + 5) 141 [(2, 0), (0, (e : Int)), (0, (f : Int))] (mk E c s (hh g)) = Ev prog clsT X (d + 4) mc141 9 [(2, 0), (0, (e : Int)), (0, (f : Int))] [(0, 1)] (mk E c s (hh g)) := by
    rw [rc141_, call0 (show Call prog clsT X (d + 4) 20 _ _ = _ from c20 X E c s hre (d + 3) _), push0, bI_t q, r141_4, cmp_eq, if_neg (by decide), call0 (show Call prog clsT X (d + 4) 90 _ _ = _ from c90 X E c s (d + 3) _ _ _), push0, bI_t q2]
  have goM : ∀ g1 g2, onQ g g1 → Call prog clsT X (d + 4) 189 [(2, 89), (0, (e : Int))] (mk E c s (hh (up g1 89 0 0))) = some ((3, 0), mk E c s (hh g2)) → Call prog clsT X (d + 5) 198 [(2, 89), (0, (e : Int)), (0, (f : Int))] (mk E c s (hh g1)) = Ev prog clsT X (d + 4) mc198 23 [(2, 89), (0, (e : Int)), (0, (f : Int))] [] (mk E c s (hh g2)) := fun g1 g2 a2 hb => by
    rw [rc198_, call0 (show Call prog clsT X (d + 4) 162 _ _ = _ from m162 X E c s (RN_Q h a2) (d + 3) _), push0, nE_Q a2, bI_t q, r198_4, cmp_eq, if_neg (by decide), call0 (show Call prog clsT X (d + 4) 152 _ _ = _ from m152 X E c s (d + 3) _ _ _), push0, bI_t q2, r198_9, cmp_eq, if_neg (by decide), cmp_ne, if_pos (by decide), call3 hb, push3]
  by_cases y : f < 11
  · obtain ⟨g1, a1, a2, a3, _⟩ := tellC X c s h he (onQ_refl g) d
    have e0 : w32 (1 + (f : Int)) = ((f + 1 : Nat) : Int) := by rw [w32_of (by omega) (by omega)]; omega
    refine ⟨g1, a2, Or.inl ⟨(rowE g e).getD f 0, ?_, fun u hu => ?_⟩⟩
    · rw [goC, r141_9, cmp_ne, if_pos (by decide), cmp_ne, if_pos (by omega), cmp_ne, if_pos (by omega), cmp_ne, if_pos (by omega), call3 a1, push3, r141_48, inb_is, if_pos (by omega), Int.toNat_natCast, a3 f y]
    · obtain ⟨g2, b1, b2, b3, b4⟩ := tellM X c s h he (onQ_0 hu 0) (d + 1)
      refine ⟨g2, b2, (b4 158 0 (by decide)).trans (up_cell (by decide)), ?_, b4 89 0 (by decide)⟩
      rw [goM u g2 hu b1, r198_23, cmp_ge, if_neg (by omega), e0, inb_is, if_pos (by omega), Int.toNat_natCast, b3 f y]
  · have hf : f = 11 ∨ f = 12 ∨ f = 13 := by omega
    rcases hf with z | z | z <;> subst z
    · refine ⟨g, onQ_refl g, Or.inl ⟨g 99 e, ?_, fun u hu => ?_⟩⟩
      · rw [goC, r141_9, cmp_ne, if_pos (by decide), cmp_ne, if_neg (by decide), inb_is, if_pos (by omega), Int.toNat_natCast, e31]
      · obtain ⟨g2, b1, b2, b3, b4⟩ := tellM X c s h he (onQ_0 hu 0) (d + 1)
        refine ⟨g2, b2, (b4 158 0 (by decide)).trans (up_cell (by decide)), ?_, b4 89 0 (by decide)⟩
        rw [goM u g2 hu b1, r198_23, cmp_ge, if_pos (by decide), cmp_ne, if_neg (by decide), inb_is, if_pos (by omega), Int.toNat_natCast, b2 99 e rfl]
    · refine ⟨g, onQ_refl g, Or.inl ⟨g 100 e, ?_, fun u hu => ?_⟩⟩
      · rw [goC, r141_9, cmp_ne, if_pos (by decide), cmp_ne, if_pos (by decide), cmp_ne, if_neg (by decide), inb_is, if_pos (by omega), Int.toNat_natCast, e32]
      · obtain ⟨g2, b1, b2, b3, b4⟩ := tellM X c s h he (onQ_0 hu 0) (d + 1)
        refine ⟨g2, b2, (b4 158 0 (by decide)).trans (up_cell (by decide)), ?_, b4 89 0 (by decide)⟩
        rw [goM u g2 hu b1, r198_23, cmp_ge, if_pos (by decide), cmp_ne, if_pos (by decide), cmp_ne, if_neg (by decide), inb_is, if_pos (by omega), Int.toNat_natCast, b2 100 e rfl]
    · have s19 : Call prog clsT X (d + 4) 19 [(2, 30), (0, (e : Int))] (mk E c s (hh g)) = some ((0, bI (g 104 e = 0)), mk E c s (hh g)) := by
        rw [c19 X E c s hre (d + 2) e, Int.toNat_natCast]
        congr 3
        unfold bI
        by_cases w : g 104 e = 0
        · rw [if_pos w, if_pos ⟨q.1, q.2, w⟩]
        · rw [if_neg w, if_neg (fun t => w t.2.2)]
      refine ⟨g, onQ_refl g, Or.inl ⟨bI (g 104 e = 0), ?_, fun u hu => ?_⟩⟩
      · rw [goC, r141_9, cmp_ne, if_pos (by decide), cmp_ne, if_pos (by decide), cmp_ne, if_pos (by decide), cmp_ne, if_neg (by decide), call0 s19, push0, r141_40, cmp_eq]
        by_cases w : g 104 e = 0
        · rw [bI_t w, if_neg (by decide)]
        · rw [bI_f w, if_pos rfl]
      · obtain ⟨g2, b1, b2, b3, b4⟩ := tellM X c s h he (onQ_0 hu 0) (d + 1)
        refine ⟨g2, b2, (b4 158 0 (by decide)).trans (up_cell (by decide)), ?_, b4 89 0 (by decide)⟩
        rw [goM u g2 hu b1, r198_23, cmp_ge, if_pos (by decide), cmp_ne, if_pos (by decide), cmp_ne, if_pos (by decide), inb_is, if_pos (by omega), Int.toNat_natCast, b2 104 e rfl, cmp_eq]
        by_cases w : g 104 e = 0
        · rw [bI_t w, if_pos w]
        · rw [bI_f w, if_neg w]
theorem q_money (x1 : Int) : OpQ2 X 143 237 11 0 [(0, x1)] := by
  intro N E c s d g h
  have hre := h.1.1.1
  have hv := h.1.1.2.1
  have hle := hre.rn.le
  have hn := hre.n
  have hn2 := hre.n2
  have hC := C_b h.1.1.2.2.2.2.1
  obtain ⟨_, _, e61, _, e68, e69, y1, y2, y3, y4⟩ := h.1.1.2.2.2.2.1
  obtain ⟨_, _, _, _, _, _, e32, _, _, e35, _, _, _⟩ := hre
  have hre := h.1.1.1
  have c84' : Call prog clsT X (d + 10) 84 [(2, 1), (0, x1)] (mk E c s (hh g)) = _ := c84 X E c s hv (d + 8) x1
  have m154' : ∀ c s u, onQ g u → Call prog clsT X (d + 10) 154 [(2, 89), (0, x1)] (mk E c s (hh u)) = some ((0, bI (0 ≤ x1 ∧ x1 ≤ 9 ∧ g 90 x1.toNat ≠ 0)), mk E c s (hh u)) := fun c s u hu => by
    rw [show d + 10 = (d + 8) + 2 from rfl, m154 X E c s (g := u) (d + 8) x1, hu 90 _ rfl]
  by_cases q : 0 ≤ x1 ∧ x1 ≤ 9 ∧ g 90 x1.toNat ≠ 0
  case neg =>
    refine ⟨g, onQ_refl g, Or.inr ⟨?_, fun u hu => ⟨0, up u 89 0 1, onQ_0 hu 1, ?_, up_same⟩⟩⟩
    · rw [rc143_, call0 c84', push0, bI_f q, r143_4, cmp_ne, if_neg (by decide)]
      rfl
    · rw [rc237_, call0 (m154' _ _ _ hu), push0, bI_f q, r237_4, cmp_eq, if_pos rfl, r237_13, cmp_ge]
      by_cases z : up u 89 0 1 89 10 ≤ 0
      · rw [if_pos z]
      · rw [if_neg z, cmp_ne, if_pos (by rw [up_at, if_pos rfl]; decide)]
  obtain ⟨k, rfl⟩ := Int.eq_ofNat_of_zero_le q.1
  have hk : k < 10 := by omega
  have i10 : 0 ≤ (k : Int) ∧ (k : Int) < ((10 : Nat) : Int) := by omega
  obtain ⟨pl, p0, _, pc, pn, pm⟩ := PL X h
  obtain ⟨g1, a1, a2, a3⟩ := c123 X h ⟨p0, pc, pn⟩ (d + 3) c s g (onC_refl g)
  have a1 : Call prog clsT X (d + 10) 123 [(2, 0)] (mk E c s (hh g)) = some ((3, 0), mk E c s (hh g1)) := a1
  have q1 : onQ g g1 := onQ_su (onQ_refl g) a2
  have bM := sT_b (g := g) (pl := pl) (x := k) hle hC.2.1
  generalize hT : sT g pl (cM g) k (nE g) = T at bM
  have lpC : ∀ (m i : Nat), i + m = nE g → Ev prog clsT X (d + 10) mc143 20 [(2, 0), (0, (k : Int)), (0, T - feS g k i), (0, (i : Int))] [] (mk E c s (hh g1)) = some ((0, T - feS g k (nE g)), mk E c s (hh g1)) := by
    intro m
    induction m with
    | zero =>
      intro i hi
      have hi : i = nE g := by omega
      subst hi
      rw [r143_20, q1 30 0 rfl, hn, cmp_ge, if_pos (Int.le_refl _)]
    | succ m ih =>
      intro i hi
      have i40 : 0 ≤ (i : Int) ∧ (i : Int) < ((40 : Nat) : Int) := by omega
      have nx := ih (i + 1) (by omega)
      have nS : feS g k (i + 1) = feS g k i + if g 100 i = k then feE g i else 0 := rfl
      rw [r143_20, q1 30 0 rfl, hn, cmp_ge, if_neg (by omega), inb_is, if_pos i40, Int.toNat_natCast, cmp_ne, q1 32 i rfl, e32, w32_succ (by omega)]
      by_cases z : g 100 i = k
      case neg =>
        rw [if_neg z, Int.add_zero] at nS
        rw [if_pos z, ← nS]
        exact nx
      rw [if_pos z] at nS
      have bf := feE_b h i
      have bS := feS_b h k i (by omega)
      have e0 : w32 (T - feS g k i - w32 (g 89 68 + w32 (g 89 69 * g 103 i))) = T - feS g k (i + 1) := by
        rw [nS, w32_of (x := g 89 69 * g 103 i) (by omega) (by omega)]
        show w32 (T - feS g k i - w32 (feE g i)) = _
        rw [w32_of (x := feE g i) (by omega) (by omega), w32_of (by omega) (by omega)]
        omega
      rw [if_neg (fun w => w z), inb_is, if_pos i40, q1 55 6 rfl, q1 55 7 rfl, q1 35 i rfl, e68, e69, e35, e0]
      exact nx
  have lpC : Ev prog clsT X (d + 10) mc143 20 [(2, 0), (0, (k : Int)), (0, T - 0), (0, 0)] [] (mk E c s (hh g1)) = some ((0, T - feS g k (nE g)), mk E c s (hh g1)) := lpC (nE g) 0 (by omega)
  rw [Int.sub_zero] at lpC
  have lpM : ∀ (m i : Nat) (w4 : MV) (u : Gm), i + m = nE g → onQ g u → u 89 0 = 0 → ∃ u', u' 158 0 = u 158 0 ∧ Ev prog clsT X (d + 10) mc237 13 [(2, 89), (0, (k : Int)), (0, sT g pl (cM g) k i - feS g k i), (0, (i : Int)), w4] [] (mk E c s (hh u)) = some ((0, T - feS g k (nE g)), mk E c s (hh u')) ∧ onQ g u' ∧ u' 89 0 = 0 := by
    intro m
    induction m with
    | zero =>
      intro i w4 u hi hu hu0
      have hi : i = nE g := by omega
      subst hi
      refine ⟨u, rfl, ?_, hu, hu0⟩
      rw [r237_13, hu 89 10 rfl, hn2, cmp_ge, if_pos (Int.le_refl _), hT]
    | succ m ih =>
      intro i w4 u hi hu hu0
      have hi2 : i < nE g := by omega
      have i40 : 0 ≤ (i : Int) ∧ (i : Int) < ((40 : Nat) : Int) := by omega
      have nS : feS g k (i + 1) = feS g k i + if g 100 i = k then feE g i else 0 := rfl
      have nT : sT g pl (cM g) k (i + 1) = sT g pl (cM g) k i + if g 100 i = k then cM g (pl i) else 0 := rfl
      rw [r237_13, hu 89 10 rfl, hn2, cmp_ge, if_neg (by omega), cmp_ne, if_neg (fun w => w hu0), inb_is, if_pos i40, Int.toNat_natCast, cmp_eq, hu 100 i rfl]
      by_cases z : g 100 i = k
      case neg =>
        rw [if_neg z, Int.add_zero] at nS nT
        rw [if_neg z, w32_succ (by omega), ← nS, ← nT]
        exact ih (i + 1) _ u (by omega) hu hu0
      rw [if_pos z] at nS nT
      have bf := feE_b h i
      have bS := feS_b h k i (by omega)
      have bT := sT_b (g := g) (pl := pl) (x := k) (i := i) (by omega) hC.2.1
      have bc := hC.2.1 (pl i)
      obtain ⟨u2, b1, b2, b3⟩ := pm i hi2 d c s u (M_of hu)
      have hu2 : onQ g u2 := onQ_rf hu b3
      have hu20 : u2 89 0 = 0 := (b3 89 0 (by decide)).trans hu0
      have p0i := p0 i
      rw [if_pos z, call0 b1, push0, r237_30, call0 (show Call prog clsT X (d + 10) 152 _ _ = _ from m152 X E c s (d + 9) _ _ _), push0, r237_36, cmp_eq, bI_eq0, w32_succ (by omega)]
      by_cases z2 : 1 ≤ pl i ∧ pl i ≤ 3
      · have c1 : cM g (pl i) = g 143 (pl i - 1).toNat := if_pos z2
        have e1 : w32 (pl i - 1) = pl i - 1 := w32_of (by omega) (by omega)
        have i3 : 0 ≤ pl i - 1 ∧ pl i - 1 < ((3 : Nat) : Int) := by omega
        rw [if_pos (show 0 < pl i by omega), if_neg (fun w => w z2), e1, inb_is, if_pos i3, inb_is, if_pos i40, Int.toNat_natCast, hu2 143 _ rfl, hu2 89 68 rfl, hu2 89 69 rfl, hu2 103 i rfl, ← c1]
        have e0 : w32 (sT g pl (cM g) k i - feS g k i + w32 (w32 (cM g (pl i) - g 89 68) - w32 (g 89 69 * g 103 i))) = sT g pl (cM g) k (i + 1) - feS g k (i + 1) := by
          have ef : feE g i = g 89 68 + g 89 69 * g 103 i := rfl
          rw [nS, nT, ef]
          generalize g 89 69 * g 103 i = w at bf ef
          rw [w32_of (x := w) (by omega) (by omega), w32_of (x := cM g (pl i) - g 89 68) (by omega) (by omega), w32_of (x := cM g (pl i) - g 89 68 - w) (by omega) (by omega), w32_of (by omega) (by omega)]
          omega
        rw [e0]
        obtain ⟨u3, k1, k2⟩ := ih (i + 1) (0, pl i) u2 (by omega) hu2 hu20
        exact ⟨u3, k1.trans (b3 158 0 (by decide)), k2⟩
      · have hz : ¬ (1 ≤ (if 0 < pl i then pl i else -1) ∧ (if 0 < pl i then pl i else -1) ≤ 3) := fun w => by
          split at w
          · exact z2 w
          · omega
        have c1 : cM g (pl i) = 0 := if_neg z2
        rw [if_pos hz, inb_is, if_pos i40, Int.toNat_natCast, hu2 89 68 rfl, hu2 89 69 rfl, hu2 103 i rfl]
        have e0 : w32 (sT g pl (cM g) k i - feS g k i + w32 (w32 (0 - g 89 68) - w32 (g 89 69 * g 103 i))) = sT g pl (cM g) k (i + 1) - feS g k (i + 1) := by
          have ef : feE g i = g 89 68 + g 89 69 * g 103 i := rfl
          rw [nS, nT, ef, c1]
          generalize g 89 69 * g 103 i = w at bf ef
          rw [w32_of (x := w) (by omega) (by omega), w32_of (x := 0 - g 89 68) (by omega) (by omega), w32_of (x := 0 - g 89 68 - w) (by omega) (by omega), w32_of (by omega) (by omega)]
          omega
        rw [e0]
        obtain ⟨u3, k1, k2⟩ := ih (i + 1) (0, if 0 < pl i then pl i else -1) u2 (by omega) hu2 hu20
        exact ⟨u3, k1.trans (b3 158 0 (by decide)), k2⟩
  refine ⟨g1, q1, Or.inl ⟨T - feS g k (nE g), ?_, fun u hu => ?_⟩⟩
  · rw [rc143_, call0 c84', push0, bI_t q, r143_4, cmp_ne, if_pos (by decide), call3 a1, push3, r143_12, inb_is, if_pos i10, Int.toNat_natCast, (a3 k hk).2.2, hT]
    exact lpC
  · obtain ⟨g2, b0, b1, b2, b3⟩ := lpM (nE g) 0 (3, 0) (up u 89 0 0) (by omega) (onQ_0 hu 0) up_at
    have b1 : Ev prog clsT X (d + 10) mc237 13 [(2, 89), (0, (k : Int)), (0, 0), (0, 0), (3, 0)] [] (mk E c s (hh (up u 89 0 0))) = _ := b1
    refine ⟨g2, b2, b0.trans (up_cell (by decide)), ?_, b3⟩
    rw [rc237_, call0 (m154' _ _ _ hu), push0, bI_t q, r237_4, cmp_eq, if_neg (by decide)]
    exact b1
theorem m239y {E : List (Nat × Nat)} {g : Gm} {N : Int} (h : ST N E g) {x : Nat} (hx : x < 10) (d c s : Nat) {u : Gm} (hu : onQ g u) : ∃ u', onQ g u' ∧ u' 158 0 = u 158 0 ∧ ((10 < lnK (frN g x) 40 ∧ Call prog clsT X (d + 2) 239 [(2, 89), (0, (x : Int))] (mk E c s (hh u)) = some ((0, 0), mk E c s (hh u'))) ∨ (lnK (frN g x) 40 ≤ 10 ∧ Call prog clsT X (d + 2) 239 [(2, 89), (0, (x : Int))] (mk E c s (hh u)) = some ((0, 1), mk E c s (hh u')) ∧ u' 89 76 = (lnK (frN g x) 40 : Int) ∧ ∀ i, i < lnK (frN g x) 40 → u' 149 i = (lwK (frN g x) 40 i : Int))) := by
  have loop : ∀ (m p : Nat) (w3 : MV) (u : Gm), p + m = 40 → onQ g u → lnK (frN g x) p ≤ 10 → u 89 76 = (lnK (frN g x) p : Int) → (∀ i, i < lnK (frN g x) p → u 149 i = (lwK (frN g x) p i : Int)) → ∃ u', onQ g u' ∧ u' 158 0 = u 158 0 ∧ ((10 < lnK (frN g x) 40 ∧ Ev prog clsT X (d + 1) mc239 8 [(2, 89), (0, (x : Int)), (1, laid g), w3, (0, (p : Int))] [] (mk E c s (hh u)) = some ((0, 0), mk E c s (hh u'))) ∨ (lnK (frN g x) 40 ≤ 10 ∧ Ev prog clsT X (d + 1) mc239 8 [(2, 89), (0, (x : Int)), (1, laid g), w3, (0, (p : Int))] [] (mk E c s (hh u)) = some ((0, 1), mk E c s (hh u')) ∧ u' 89 76 = (lnK (frN g x) 40 : Int) ∧ ∀ i, i < lnK (frN g x) 40 → u' 149 i = (lwK (frN g x) 40 i : Int))) := by
    intro m
    induction m with
    | zero =>
      intro p w3 u hp hu h10 h76 hv
      have hp : p = 40 := by omega
      subst hp
      refine ⟨u, hu, rfl, Or.inr ⟨h10, ?_, h76, hv⟩⟩
      rw [r239_8, cmp_ge, if_pos (by decide)]
    | succ m ih =>
      intro p w3 u hp hu h10 h76 hv
      have hp40 : p < 40 := by omega
      have i40 : 0 ≤ (p : Int) ∧ (p : Int) < ((40 : Nat) : Int) := by omega
      have skip : ¬ FRp g x p → ∃ u', onQ g u' ∧ u' 158 0 = u 158 0 ∧ ((10 < lnK (frN g x) 40 ∧ Ev prog clsT X (d + 1) mc239 8 [(2, 89), (0, (x : Int)), (1, laid g), (3, 0), (0, ((p + 1 : Nat) : Int))] [] (mk E c s (hh u)) = some ((0, 0), mk E c s (hh u'))) ∨ (lnK (frN g x) 40 ≤ 10 ∧ Ev prog clsT X (d + 1) mc239 8 [(2, 89), (0, (x : Int)), (1, laid g), (3, 0), (0, ((p + 1 : Nat) : Int))] [] (mk E c s (hh u)) = some ((0, 1), mk E c s (hh u')) ∧ u' 89 76 = (lnK (frN g x) 40 : Int) ∧ ∀ i, i < lnK (frN g x) 40 → u' 149 i = (lwK (frN g x) 40 i : Int))) := fun z => by
        have e2 : lnK (frN g x) (p + 1) = lnK (frN g x) p := by rw [lnK_s, frN_0 z, if_neg (by decide)]
        have e3 : lwK (frN g x) (p + 1) = lwK (frN g x) p := by rw [lwK_s, frN_0 z, if_neg (by decide)]
        exact ih (p + 1) _ u (by omega) hu (by rw [e2]; exact h10) (by rw [e2]; exact h76) (fun i h2 => by rw [e3]; exact hv i (by rw [← e2]; exact h2))
      rw [r239_8, cmp_ge, if_neg (by omega), inb_is, if_pos i40, Int.toNat_natCast, cmp_eq, hu 94 p rfl, w32_succ (by omega)]
      by_cases z1 : g 94 p = 0
      · rw [if_pos z1]
        exact skip (fun v => v.1 z1)
      rw [if_neg z1, inb_is, if_pos i40, cmp_ne, hu 95 p rfl]
      by_cases z2 : g 95 p = (x : Int)
      case neg =>
        rw [if_pos z2]
        exact skip (fun v => z2 v.2.1)
      rw [if_neg (fun v => v z2), cmp_ne, bit_at _ _ (by omega), lc1]
      by_cases z3 : tb (laid g) p = true
      · rw [if_neg (fun v => v z3)]
        exact skip (fun v => v.2.2 z3)
      have z : FRp g x p := ⟨z1, z2, z3⟩
      have e2 : lnK (frN g x) (p + 1) = lnK (frN g x) p + 1 := by rw [lnK_s, frN_1 z, if_pos (by decide)]
      have e3 : lwK (frN g x) (p + 1) = fun q => if q = lnK (frN g x) p then p else lwK (frN g x) p q := by rw [lwK_s, frN_1 z, if_pos (by decide)]
      rw [if_pos z3, cmp_ne, h76]
      by_cases y : (lnK (frN g x) p : Int) = 10
      · rw [if_neg (fun v => v y)]
        have hm := lnK_mono (frN g x) (k := p + 1) m
        rw [show p + 1 + m = 40 by omega] at hm
        exact ⟨u, hu, rfl, Or.inl ⟨by omega, rfl⟩⟩
      · have i10 : 0 ≤ (lnK (frN g x) p : Int) ∧ (lnK (frN g x) p : Int) < ((10 : Nat) : Int) := by omega
        rw [if_pos y, inb_is, if_pos i10, Int.toNat_natCast, w32_succ (by omega)]
        suffices hq : ∀ i, i < lnK (frN g x) (p + 1) → up (up u 149 (lnK (frN g x) p) (p : Int)) 89 76 ((lnK (frN g x) p + 1 : Nat) : Int) 149 i = (lwK (frN g x) (p + 1) i : Int) by
          obtain ⟨u9, k1, k2, k3⟩ := ih (p + 1) (3, 0) (up (up u 149 (lnK (frN g x) p) (p : Int)) 89 76 ((lnK (frN g x) p + 1 : Nat) : Int)) (by omega) (onQ_up (onQ_up hu rfl) rfl) (by omega) (by rw [up_same, e2]) hq
          exact ⟨u9, k1, k2.trans ((up_cell (by decide)).trans (up_cell (by decide))), k3⟩
        intro i h2
        rw [e3, up_cell (by decide), up_at]
        dsimp only
        by_cases v : i = lnK (frN g x) p
        · rw [if_pos v, if_pos v]
        · rw [if_neg v, if_neg v]
          exact hv i (by omega)
  have s155 := m155 X E c s (RN_Q h hu) d
  rw [laid_Q hu] at s155
  obtain ⟨u', a1, a0, a2⟩ := loop 40 0 (3, 0) (up u 89 76 0) (by omega) (onQ_up hu rfl) (Nat.zero_le _) (by rw [up_same]; rfl) (fun i h2 => absurd h2 (Nat.not_lt_zero _))
  refine ⟨u', a1, a0.trans (up_cell (by decide)), ?_⟩
  have e : Call prog clsT X (d + 2) 239 [(2, 89), (0, (x : Int))] (mk E c s (hh u)) = Ev prog clsT X (d + 1) mc239 8 [(2, 89), (0, (x : Int)), (1, laid g), (3, 0), (0, 0)] [] (mk E c s (hh (up u 89 76 0))) := by
    rw [show d + 2 = (d + 1) + 1 from rfl, rc239_, call1 s155, push1, r239_2]
  rw [e]
  exact a2
theorem q_sets (x1 x2 x3 x4 : Int) : OpQ2 X 144 238 9 1 [(0, x1), (0, x2), (0, x3), (0, x4)] := by
  intro N E c s d g h
  have hb := h.1.2.1
  have hv := h.1.1.2.1
  have s97a := c97 X E c s (g := g) (d + 6) x2
  have s97a : Call prog clsT X (d + 8) 97 [(2, 0), (0, x2)] (mk E c s (hh g)) = _ := s97a
  have s97b := c97 X E c s (g := g) (d + 6) x3
  have s97b : Call prog clsT X (d + 8) 97 [(2, 0), (0, x3)] (mk E c s (hh g)) = _ := s97b
  have s90 : Call prog clsT X (d + 8) 90 [(0, x4), (0, 0), (0, 2)] (mk E c s (hh g)) = _ := c90 X E c s (d + 7) x4 0 2
  have s84 : Call prog clsT X (d + 8) 84 [(2, 1), (0, x1)] (mk E c s (hh g)) = _ := c84 X E c s hv (d + 6) x1
  have s154 : ∀ c s u, onQ g u → Call prog clsT X (d + 8) 154 [(2, 89), (0, x1)] (mk E c s (hh u)) = some ((0, bI (0 ≤ x1 ∧ x1 ≤ 9 ∧ g 90 x1.toNat ≠ 0)), mk E c s (hh u)) := fun c s u hu => by
    rw [show d + 8 = (d + 6) + 2 from rfl, m154 X E c s (g := u) (d + 6) x1, hu 90 _ rfl]
  have s157 : ∀ (y : Int) c s u, onQ g u → Call prog clsT X (d + 8) 157 [(2, 89), (0, y)] (mk E c s (hh u)) = some ((0, bI (0 ≤ y ∧ y ≤ 9 ∧ g 106 y.toNat ≠ 0)), mk E c s (hh u)) := fun y c s u hu => by
    rw [show d + 8 = (d + 6) + 2 from rfl, m157 X E c s (g := u) (d + 6) y, hu 106 _ rfl]
  have s152 : ∀ c s u, Call prog clsT X (d + 8) 152 [(0, x4), (0, 0), (0, 2)] (mk E c s (hh u)) = some ((0, bI (0 ≤ x4 ∧ x4 ≤ 2)), mk E c s (hh u)) := fun c s u => m152 X E c s (g := u) (d + 7) x4 0 2
  -- the reference, where something is wrong
  have refT : ¬ ((0 ≤ x1 ∧ x1 ≤ 9 ∧ g 90 x1.toNat ≠ 0) ∧ (0 ≤ x2 ∧ x2 ≤ 9 ∧ g 106 x2.toNat ≠ 0) ∧ (0 ≤ x3 ∧ x3 ≤ 9 ∧ g 106 x3.toNat ≠ 0) ∧ x2 ≠ x3 ∧ (0 ≤ x4 ∧ x4 ≤ 2)) → ∀ u, onQ g u → ∃ w g2, onQ g g2 ∧ Call prog clsT X (d + 9) 238 [(2, 89), (0, x1), (0, x2), (0, x3), (0, x4)] (mk E (c + 8) (s + 64) (hh u)) = some ((1, w), mk E (c + 8) (s + 64) (hh g2)) ∧ g2 89 0 = 1 := fun hno u hu => by
    refine ⟨0, up u 89 0 1, onQ_0 hu 1, ?_, up_same⟩
    rw [show d + 9 = (d + 8) + 1 from rfl, rc238_, call0 (s154 _ _ u hu), push0, r238_4, cmp_eq, bI_eq0]
    by_cases q1 : 0 ≤ x1 ∧ x1 ≤ 9 ∧ g 90 x1.toNat ≠ 0
    case neg => rw [if_pos q1, cmp_ne, if_neg (by decide)]
    rw [if_neg (fun z => z q1), call0 (s157 x2 _ _ u hu), push0, r238_8, cmp_eq, bI_eq0]
    by_cases q2 : 0 ≤ x2 ∧ x2 ≤ 9 ∧ g 106 x2.toNat ≠ 0
    case neg => rw [if_pos q2, cmp_ne, if_neg (by decide)]
    rw [if_neg (fun z => z q2), call0 (s157 x3 _ _ u hu), push0, r238_12, cmp_eq, bI_eq0]
    by_cases q3 : 0 ≤ x3 ∧ x3 ≤ 9 ∧ g 106 x3.toNat ≠ 0
    case neg => rw [if_pos q3, cmp_ne, if_neg (by decide)]
    rw [if_neg (fun z => z q3), cmp_eq]
    by_cases q4 : x2 = x3
    · rw [if_pos q4, cmp_ne, if_neg (by decide)]
    rw [if_neg q4, call0 (s152 _ _ u), push0, r238_20, cmp_eq, bI_eq0]
    by_cases q5 : 0 ≤ x4 ∧ x4 ≤ 2
    case neg => rw [if_pos q5, cmp_ne, if_neg (by decide)]
    exact absurd ⟨q1, q2, q3, q4, q5⟩ hno
  by_cases q2 : 0 ≤ x2 ∧ x2 ≤ 9 ∧ g 106 x2.toNat ≠ 0
  case neg =>
    refine ⟨g, onQ_refl g, Or.inr ⟨?_, refT (fun z => q2 z.2.1)⟩⟩
    rw [show d + 9 = (d + 8) + 1 from rfl, rc144_, call2 s97a, push2, r144_3, call2 s97b, push2, r144_7, nul (hb.of x2), if_neg q2]
    rfl
  by_cases q3 : 0 ≤ x3 ∧ x3 ≤ 9 ∧ g 106 x3.toNat ≠ 0
  case neg =>
    refine ⟨g, onQ_refl g, Or.inr ⟨?_, refT (fun z => q3 z.2.2.1)⟩⟩
    rw [show d + 9 = (d + 8) + 1 from rfl, rc144_, call2 s97a, push2, r144_3, call2 s97b, push2, r144_7, nul (hb.of x2), if_pos q2, nul (hb.of x3), if_neg q3]
    rfl
  by_cases q4 : x2 = x3
  · refine ⟨g, onQ_refl g, Or.inr ⟨?_, refT (fun z => z.2.2.2.1 q4)⟩⟩
    rw [show d + 9 = (d + 8) + 1 from rfl, rc144_, call2 s97a, push2, r144_3, call2 s97b, push2, r144_7, nul (hb.of x2), if_pos q2, nul (hb.of x3), if_pos q3, cmp_eq, if_pos q4]
    rfl
  by_cases q5 : 0 ≤ x4 ∧ x4 ≤ 2
  case neg =>
    refine ⟨g, onQ_refl g, Or.inr ⟨?_, refT (fun z => q5 z.2.2.2.2)⟩⟩
    rw [show d + 9 = (d + 8) + 1 from rfl, rc144_, call2 s97a, push2, r144_3, call2 s97b, push2, r144_7, nul (hb.of x2), if_pos q2, nul (hb.of x3), if_pos q3, cmp_eq, if_neg q4, call0 s90, push0, r144_19, cmp_eq, bI_f q5, if_pos rfl]
    rfl
  by_cases q1 : 0 ≤ x1 ∧ x1 ≤ 9 ∧ g 90 x1.toNat ≠ 0
  case neg =>
    refine ⟨g, onQ_refl g, Or.inr ⟨?_, refT (fun z => q1 z.1)⟩⟩
    rw [show d + 9 = (d + 8) + 1 from rfl, rc144_, call2 s97a, push2, r144_3, call2 s97b, push2, r144_7, nul (hb.of x2), if_pos q2, nul (hb.of x3), if_pos q3, cmp_eq, if_neg q4, call0 s90, push0, r144_19, cmp_eq, bI_t q5, if_neg (by decide), call0 s84, push0, r144_24, cmp_ne, bI_f q1, if_neg (by decide)]
    rfl
  obtain ⟨x, rfl⟩ := Int.eq_ofNat_of_zero_le q1.1
  obtain ⟨ka, rfl⟩ := Int.eq_ofNat_of_zero_le q2.1
  obtain ⟨kb, rfl⟩ := Int.eq_ofNat_of_zero_le q3.1
  have hx : x < 10 := by omega
  have hka : ka < 10 := by omega
  have hkb : kb < 10 := by omega
  have h90 : g 90 x ≠ 0 := q1.2.2
  obtain ⟨ra, hra, rga⟩ := told0 h hka q2.2.2
  obtain ⟨rb, hrb, rgb⟩ := told0 h hkb q3.2.2
  have s97a : Call prog clsT X (d + 8) 97 [(2, 0), (0, (ka : Int))] (mk E c s (hh g)) = some ((2, (ra : Int)), mk E c s (hh g)) := by
    rw [show d + 8 = (d + 6) + 2 from rfl, c97 X E c s (g := g) (d + 6) (ka : Int), if_pos (by omega), Int.toNat_natCast, hra]
  have s97b : Call prog clsT X (d + 8) 97 [(2, 0), (0, (kb : Int))] (mk E c s (hh g)) = some ((2, (rb : Int)), mk E c s (hh g)) := by
    rw [show d + 8 = (d + 6) + 2 from rfl, c97 X E c s (g := g) (d + 6) (kb : Int), if_pos (by omega), Int.toNat_natCast, hrb]
  obtain ⟨g1, f1, f2, f3⟩ := c145x X h hx (d + 3) c s
  have f1 : Call prog clsT X (d + 8) 145 [(2, 0), (0, (x : Int))] (mk E c s (hh g)) = _ := f1
  have v1 : onQ g g1 := fun y i hs => f2 y i (fun z => by rw [z] at hs; cases hs)
  have ne5a : ∀ r : Nat, (r : Int) ≠ -5 := fun r => by omega
  have hd1 : ∀ r : Nat, decide ((r : Int) = -1) = false := fun r => decide_eq_false (by omega)
  obtain ⟨n, hn⟩ : ∃ n, n = lnK (frN g x) 40 := ⟨_, rfl⟩
  rw [← hn] at f1 f3
  have start : ∀ c s, Call prog clsT X (d + 8) 97 [(2, 0), (0, (ka : Int))] (mk E c s (hh g)) = some ((2, (ra : Int)), mk E c s (hh g)) → True := fun _ _ _ => trivial
  have clsHead : Call prog clsT X (d + 9) 144 [(2, 0), (0, (x : Int)), (0, (ka : Int)), (0, (kb : Int)), (0, x4)] (mk E c s (hh g)) = Ev prog clsT X (d + 8) mc144 33 [(2, 0), (0, (x : Int)), (0, (ka : Int)), (0, (kb : Int)), (0, x4), (2, (ra : Int)), (2, (rb : Int)), (3, 0), (3, 0), (3, 0), (3, 0), (3, 0), (3, 0), (3, 0), (3, 0)] [(0, (n : Int))] (mk E c s (hh g1)) := by
    rw [show d + 9 = (d + 8) + 1 from rfl, rc144_, call2 s97a, push2, r144_3, call2 s97b, push2, r144_7, if_pos ⟨rfl, ne5a ra⟩, hd1 ra, if_neg Bool.false_ne_true, if_pos ⟨rfl, ne5a rb⟩, hd1 rb, if_neg Bool.false_ne_true, cmp_eq, if_neg q4, call0 s90, push0, r144_19, cmp_eq, bI_t q5, if_neg (by decide), call0 s84, push0, r144_24, cmp_ne, bI_t q1, if_pos (by decide), call0 f1, push0]
  -- the reference finds as many
  have refHead : ∀ (c s : Nat) (u : Gm), onQ g u → ∃ u', onQ g u' ∧ u' 158 0 = u 158 0 ∧ ((10 < n ∧ Call prog clsT X (d + 9) 238 [(2, 89), (0, (x : Int)), (0, (ka : Int)), (0, (kb : Int)), (0, x4)] (mk E c s (hh u)) = some ((1, 0), mk E c s (hh (up u' 89 0 1)))) ∨ (n ≤ 10 ∧ u' 89 76 = (n : Int) ∧ (∀ i, i < n → u' 149 i = (fpX g x i : Int)) ∧ Call prog clsT X (d + 9) 238 [(2, 89), (0, (x : Int)), (0, (ka : Int)), (0, (kb : Int)), (0, x4)] (mk E c s (hh u)) = ((Call prog clsT X (d + 8) 240 [(2, 89), (0, (ka : Int)), (0, (x : Int)), (0, 0)] (mk E c s (hh (up u' 89 0 0)))).bind fun r2 => if r2.1.1 = 4 then none else Ev prog clsT X (d + 8) mc238 40 [(2, 89), (0, (x : Int)), (0, (ka : Int)), (0, (kb : Int)), (0, x4), (3, 0), (3, 0), (3, 0), (3, 0), (3, 0), (3, 0), (3, 0), (3, 0)] (pushR r2.1 []) r2.2))) := fun c s u hu => by
    obtain ⟨u', a1, a0, a2⟩ := m239y X h hx (d + 6) c s hu
    have head : Call prog clsT X (d + 9) 238 [(2, 89), (0, (x : Int)), (0, (ka : Int)), (0, (kb : Int)), (0, x4)] (mk E c s (hh u)) = ((Call prog clsT X (d + 8) 239 [(2, 89), (0, (x : Int))] (mk E c s (hh u))).bind fun r2 => if r2.1.1 = 4 then none else Ev prog clsT X (d + 8) mc238 24 [(2, 89), (0, (x : Int)), (0, (ka : Int)), (0, (kb : Int)), (0, x4), (3, 0), (3, 0), (3, 0), (3, 0), (3, 0), (3, 0), (3, 0), (3, 0)] (pushR r2.1 [(2, 89)]) r2.2) := by
      rw [show d + 9 = (d + 8) + 1 from rfl, rc238_, call0 (s154 _ _ u hu), push0, r238_4, cmp_eq, bI_t q1, if_neg (by decide), call0 (s157 _ _ _ u hu), push0, r238_8, cmp_eq, bI_t q2, if_neg (by decide), call0 (s157 _ _ _ u hu), push0, r238_12, cmp_eq, bI_t q3, if_neg (by decide), cmp_eq, if_neg q4, call0 (s152 _ _ u), push0, r238_20, cmp_eq, bI_t q5, if_neg (by decide)]
    rw [← hn] at a2
    rcases a2 with ⟨b1, b2⟩ | ⟨b1, b2, b3, b4⟩
    · have b2 : Call prog clsT X (d + 8) 239 [(2, 89), (0, (x : Int))] (mk E c s (hh u)) = _ := b2
      refine ⟨u', a1, a0, Or.inl ⟨b1, ?_⟩⟩
      rw [head, call0 b2, push0, r238_24, cmp_eq, if_pos rfl, cmp_ne, if_neg (by decide)]
    · have b2 : Call prog clsT X (d + 8) 239 [(2, 89), (0, (x : Int))] (mk E c s (hh u)) = _ := b2
      refine ⟨u', a1, a0, Or.inr ⟨b1, b3, b4, ?_⟩⟩
      rw [head, call0 b2, push0, r238_24, cmp_eq, if_neg (by decide), cmp_ne, if_pos (by decide)]
  by_cases h10 : n ≤ 10
  case neg =>
    refine ⟨g1, v1, Or.inr ⟨?_, fun u hu => ?_⟩⟩
    case refine_2 =>
      obtain ⟨u', a1, _, a2⟩ := refHead (c + 8) (s + 64) u hu
      rcases a2 with ⟨_, a2⟩ | ⟨a2, _⟩
      · exact ⟨0, up u' 89 0 1, onQ_0 a1 1, a2, up_same⟩
      · exact absurd a2 h10
    rw [clsHead, r144_33, cmp_le, if_neg (by omega)]
    rfl
  have hp := p2_le (show n < 11 by omega)
  obtain ⟨WA, MA, hA⟩ := SV X (E := E) h hka hra rga hx h90 hn h10
  obtain ⟨WB, MB, hB⟩ := SV X (E := E) h hkb hrb rgb hx h90 hn h10
  have hc1 : ∀ i, i < n → g1 86 i = (fpX g x i : Int) := fun i hi => f3 i (by omega) hi
  have hall : w32 (ishl32 1 (n : Int) - 1) = ((2 ^ n - 1 : Nat) : Int) := by
    rw [shl_ok n (by omega), w32_of (by omega) (by omega)]
    omega
  obtain ⟨g2, e1, e2, e3⟩ := c146x X (E := E) h10 hB (d + 1) c s v1 hc1
  have e1 : Call prog clsT X (d + 8) 146 [(2, 0), (0, (x : Int)), (0, (kb : Int)), (2, (rb : Int)), (0, ((2 ^ n - 1 : Nat) : Int))] (mk E c s (hh g1)) = _ := e1
  have v2 := onQ_fl v1 e2
  have hc2 : ∀ i, i < n → g2 86 i = (fpX g x i : Int) := fun i hi => by rw [e2 86 i (by decide) (by decide) (by decide) (by decide)]; exact hc1 i hi
  have hBw : ∀ S, S < 2 ^ n → bw (gd WB) (mm MB) S (g2 88 S).toNat (g2 87 S) ∧ g2 88 S = ((g2 88 S).toNat : Int) := fun S hS => by
    obtain ⟨p, p1, p2⟩ := e3 S hS
    rw [p1, Int.toNat_natCast]
    exact ⟨p2, rfl⟩
  obtain ⟨a, b, v, g3, b1, b2, b3⟩ := c144_loop X (E := E) (k := ka) (x := x) (B := fun S => g2 87 S) (K := fun S => (g2 88 S).toNat) h10 hA (fun S hS => (hB.1 S hS).1) (fun S hS => (hBw S hS).1) x4 (d + 1) c s (2 ^ n) 0 0 (-4611686018427387904) (0, (kb : Int)) (2, (rb : Int)) (0, (n : Int)) (3, 0) (3, 0) (3, 0) g2 (by omega) v2 hc2 (fun S hS => ⟨rfl, (hBw S hS).2⟩) (Or.inl ⟨rfl, fun s' hs' => absurd hs' (Nat.not_lt_zero _)⟩)
  have b3 : Ev prog clsT X (d + 8) mc144 60 [(2, 0), (0, (x : Int)), (0, (ka : Int)), (0, (kb : Int)), (0, x4), (2, (ra : Int)), (2, (rb : Int)), (0, (n : Int)), (0, ((2 ^ n - 1 : Nat) : Int)), (1, -4611686018427387904), (3, 0), (0, 0), (0, 0), (3, 0), (3, 0)] [] (mk E c s (hh g2)) = _ := b3
  refine ⟨g3, b2, Or.inl ⟨if x4 = 0 then v else pB (fpX g x) (if x4 = 1 then a else b) n, ?_, fun u hu => ?_⟩⟩
  · rw [clsHead, r144_33, cmp_le, if_pos (by omega), hall, call3 e1, push3, r144_54, b3]
  · obtain ⟨u', a1, a0, a2⟩ := refHead c s u hu
    rcases a2 with ⟨a2, _⟩ | ⟨_, c76', c149, a2⟩
    · exact absurd a2 (by omega)
    have w0 := onQ_0 a1 0
    obtain ⟨u1, k1, k2, k3⟩ := m240x X (E := E) h hka hx rga h10 hA 0 (by decide) (d + 1) c s w0 ((up_place (by decide)).trans c76') (fun i hi => (up_cell (by decide)).trans (c149 i hi))
    have k1 : Call prog clsT X (d + 8) 240 [(2, 89), (0, (ka : Int)), (0, (x : Int)), (0, 0)] (mk E c s (hh (up u' 89 0 0))) = _ := k1
    have w1 := onQ_va w0 k2
    have m76 : u1 89 76 = (n : Int) := (k2 89 76 (by decide) (by omega)).trans ((up_place (by decide)).trans c76')
    have m149 : ∀ i, i < n → u1 149 i = (fpX g x i : Int) := fun i hi => (k2 149 i (by decide) (by omega)).trans ((up_cell (by decide)).trans (c149 i hi))
    obtain ⟨u2, l1, l2, l3⟩ := m240x X (E := E) h hkb hx rgb h10 hB 1024 (by decide) (d + 1) c s w1 m76 m149
    have l1 : Call prog clsT X (d + 8) 240 [(2, 89), (0, (kb : Int)), (0, (x : Int)), (0, 1024)] (mk E c s (hh u1)) = _ := l1
    have w2 := onQ_va w1 l2
    have k3' : vaP WA MA n 0 u2 := fun S hS => by
      rw [l2 150 _ (by decide) (by omega), l2 151 _ (by decide) (by omega)]
      exact k3 S hS
    have p76 : u2 89 76 = (n : Int) := (l2 89 76 (by decide) (by omega)).trans m76
    obtain ⟨a', b', v', d1, d2⟩ := m238_loop X (E := E) (g := g) (x := x) h10 (fun S hS => (hA.1 S hS).1) (fun S hS => (hB.1 S hS).1) x4 (d + 7) c s p76 (fun i hi => (l2 149 i (by decide) (by omega)).trans (m149 i hi)) k3' l3 ((2 ^ n + 1) * 2 ^ n) 0 0 (-1) (-1) 0 (3, 0) (3, 0) (3, 0) (3, 0) (3, 0) (3, 0) (by omega) (Nat.zero_le _) (by omega) (Or.inl ⟨rfl, fun s' t' _ hl => by unfold lx at hl; omega⟩)
    have d2 : Ev prog clsT X (d + 8) mc238 61 [(2, 89), (3, 0), (3, 0), (3, 0), (0, x4), (0, -1), (0, -1), (1, 0), (3, 0), (0, 0), (0, 0), (3, 0), (3, 0)] [] (mk E c s (hh u2)) = _ := d2
    obtain ⟨z1, z2, z3⟩ := bst2_eq b1 d1
    refine ⟨u2, w2, ?_, ?_, ?_⟩
    · rw [l2 158 0 (by decide) (by omega), k2 158 0 (by decide) (by omega), up_cell (by decide), a0]
    · rw [a2, call3 k1, push3, r238_40, call3 l1, push3, r238_45, r238_53, p76, shl_ok n (by omega), cmp_ge, if_neg (by omega), d2, z1, z2, z3]
    · rw [l2 89 0 (by decide) (by omega), k2 89 0 (by decide) (by omega), up_same]
end ASK
