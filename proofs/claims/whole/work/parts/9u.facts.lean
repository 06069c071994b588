/-! Part 9u: verdict, fact, marks. -/
/-- a call that asks: alike on both sides, also where it throws; the state stays -/
def OpQ (X : MExt) (cj mj k tg : Nat) (A : List MV) : Prop := ∀ (N : Int) (E : List (Nat × Nat)) (c s d : Nat) (g : Gm), ST N E g → ∃ g1 g2, onQ g g2 ∧ ((∃ v, Call prog clsT X (d + k) cj ((2, 0) :: A) (mk E c s (hh g)) = some ((tg, v), mk E c s (hh g1)) ∧ Call prog clsT X (d + k) mj ((2, 89) :: A) (mk E c s (hh g1)) = some ((tg, v), mk E c s (hh g2)) ∧ g2 89 0 = 0) ∨ (∃ w, Call prog clsT X (d + k) cj ((2, 0) :: A) (mk E c s (hh g)) = some ((4, 0), mk E (c + 8) (s + 64) (hh g1)) ∧ Call prog clsT X (d + k) mj ((2, 89) :: A) (mk E (c + 8) (s + 64) (hh g1)) = some ((tg, w), mk E (c + 8) (s + 64) (hh g2)) ∧ g2 89 0 = 1))
/-- a call that asks and never throws -/
def OpV (X : MExt) (cj mj k : Nat) (A : List MV) : Prop := ∀ (N : Int) (E : List (Nat × Nat)) (c s d : Nat) (g : Gm), ST N E g → ∃ v g1 g2, onQ g g2 ∧ Call prog clsT X (d + k) cj ((2, 0) :: A) (mk E c s (hh g)) = some ((0, v), mk E c s (hh g1)) ∧ Call prog clsT X (d + k) mj ((2, 89) :: A) (mk E c s (hh g1)) = some ((0, v), mk E c s (hh g2))
theorem onQ_0 {g u : Gm} (h : onQ g u) (v : Int) : onQ g (up u 89 0 v) := onQ_up h rfl
theorem RN_Q {N : Int} {E : List (Nat × Nat)} {g u : Gm} (h : ST N E g) (e : onQ g u) : RN u := (ST_Q h e).1.1.1.rn
section FACT
variable (X : MExt)
theorem op_verdict (x1 : Int) : OpQ X 140 187 8 0 [(0, x1)] := by
  intro N E c s d g h
  have hre := h.1.1.1
  have hle := hre.rn.le
  by_cases q : 0 ≤ x1 ∧ x1 < nE g
  · obtain ⟨e, rfl⟩ := Int.eq_ofNat_of_zero_le q.1
    obtain ⟨v, _, _, wc, wm⟩ := ew X h (e := e) (by omega)
    obtain ⟨g1, a1, a2, _⟩ := wc (d + 1) c s g (onQ_refl g)
    obtain ⟨g2, b1, b2, b3⟩ := wm d c s (up g1 89 0 0) (onQ_0 a2 0)
    refine ⟨g1, g2, b2, Or.inl ⟨v, ?_, ?_, ?_⟩⟩
    · rw [rc140_, call0 (show Call prog clsT X (d + 7) 20 _ _ = _ from c20 X E c s hre (d + 6) _), push0, bI_t q, r140_4, cmp_ne, if_pos (by decide), call0 a1, push0, r140_13]
    · rw [rc187_, call0 (show Call prog clsT X (d + 7) 162 _ _ = _ from m162 X E c s (RN_Q h a2) (d + 6) _), push0, nE_Q a2, bI_t q, r187_4, cmp_eq, if_neg (by decide), cmp_ne, if_pos (by decide), call0 b1, push0, r187_18]
    · exact b3 89 0 (by decide)
  · refine ⟨g, up g 89 0 1, onQ_0 (onQ_refl g) 1, Or.inr ⟨0, ?_, ?_, ?_⟩⟩
    · rw [rc140_, call0 (show Call prog clsT X (d + 7) 20 _ _ = _ from c20 X E c s hre (d + 6) _), push0, bI_f q, r140_4, cmp_ne, if_neg (by decide)]
      rfl
    · rw [rc187_, call0 (show Call prog clsT X (d + 7) 162 _ _ = _ from m162 X E (c + 8) (s + 64) (RN_Q h (onQ_refl g)) (d + 6) _), push0, bI_f q, r187_4, cmp_eq, if_pos rfl, cmp_ne, if_neg (by decide), r187_18]
    · exact up_at
theorem op_marks (x1 x2 : Int) : OpQ X 142 205 7 0 [(0, x1), (0, x2)] := by
  intro N E c s d g h
  have hre := h.1.1.1
  have hle := hre.rn.le
  have thr : ¬ (0 ≤ x1 ∧ x1 < nE g) ∨ ((0 ≤ x1 ∧ x1 < nE g) ∧ ¬ (0 ≤ x2 ∧ x2 ≤ 3 ∧ g 127 x2.toNat ≠ 0)) → ∃ w, Call prog clsT X (d + 7) 142 [(2, 0), (0, x1), (0, x2)] (mk E c s (hh g)) = some ((4, 0), mk E (c + 8) (s + 64) (hh g)) ∧ Call prog clsT X (d + 7) 205 [(2, 89), (0, x1), (0, x2)] (mk E (c + 8) (s + 64) (hh g)) = some ((0, w), mk E (c + 8) (s + 64) (hh (up g 89 0 1))) := fun hc => by
    refine ⟨0, ?_, ?_⟩
    · rw [rc142_, call0 (show Call prog clsT X (d + 6) 20 _ _ = _ from c20 X E c s hre (d + 5) _), push0]
      rcases hc with q | ⟨q1, q2⟩
      · rw [bI_f q, r142_4, cmp_eq, if_pos rfl]; rfl
      · rw [bI_t q1, r142_4, cmp_eq, if_neg (by decide), call0 (show Call prog clsT X (d + 6) 34 _ _ = _ from c34 X E c s h.1.1.2.2.1 (d + 4) _), push0, bI_f q2, r142_9, cmp_ne, if_neg (by decide)]; rfl
    · rw [rc205_, call0 (show Call prog clsT X (d + 6) 162 _ _ = _ from m162 X E (c + 8) (s + 64) hre.rn (d + 5) _), push0]
      rcases hc with q | ⟨q1, q2⟩
      · rw [bI_f q, r205_4, cmp_eq, if_pos rfl, cmp_ne, if_neg (by decide), r205_23]
      · rw [bI_t q1, r205_4, cmp_eq, if_neg (by decide), call0 (show Call prog clsT X (d + 6) 202 _ _ = _ from m202 X E (c + 8) (s + 64) (d + 4) _), push0, bI_f q2, r205_8, cmp_eq, if_pos rfl, cmp_ne, if_neg (by decide), r205_23]
  by_cases q : 0 ≤ x1 ∧ x1 < nE g
  case neg =>
    obtain ⟨w, y1, y2⟩ := thr (Or.inl q)
    exact ⟨g, _, onQ_0 (onQ_refl g) 1, Or.inr ⟨w, y1, y2, up_at⟩⟩
  by_cases q2 : 0 ≤ x2 ∧ x2 ≤ 3 ∧ g 127 x2.toNat ≠ 0
  case neg =>
    obtain ⟨w, y1, y2⟩ := thr (Or.inr ⟨q, q2⟩)
    exact ⟨g, _, onQ_0 (onQ_refl g) 1, Or.inr ⟨w, y1, y2, up_at⟩⟩
  obtain ⟨e, rfl⟩ := Int.eq_ofNat_of_zero_le q.1
  obtain ⟨j, rfl⟩ := Int.eq_ofNat_of_zero_le q2.1
  have he : e < nE g := by omega
  obtain ⟨k, x, r, h99, h100, hk, hx, h16, _⟩ := ent h he
  have e31 : ∀ e : Nat, g 31 e = g 99 e := by
    obtain ⟨_, _, _, _, _, e31, _⟩ := hre
    exact e31
  obtain ⟨v, _, vc, vm⟩ := ej X h he h99 h16
  obtain ⟨u1, a1, a2, a3, _⟩ := tellC X c s h he (onQ_refl g) (d + 2)
  obtain ⟨g1, b1, b2, b3, _⟩ := vc j (by omega) (d + 2) c s u1 a2 a3
  obtain ⟨g2, w1, w2, w3⟩ := vm j (by omega) d c s (up g1 89 0 0) (onQ_0 b2 0)
  refine ⟨g1, g2, w2, Or.inl ⟨v j, ?_, ?_, w3 89 0 (by decide)⟩⟩
  · rw [rc142_, call0 (show Call prog clsT X (d + 6) 20 _ _ = _ from c20 X E c s hre (d + 5) _), push0, bI_t q, r142_4, cmp_eq, if_neg (by decide), call0 (show Call prog clsT X (d + 6) 34 _ _ = _ from c34 X E c s h.1.1.2.2.1 (d + 4) _), push0, bI_t q2, r142_9, cmp_ne, if_pos (by decide), call3 a1, push3, r142_18, inb_is, if_pos (by omega), Int.toNat_natCast, a2 31 e rfl, e31, h99, call2 (show Call prog clsT X (d + 6) 97 _ _ = _ from s97 X c s h hk h16 a2 (d + 4)), push2, r142_27, call0 b1, push0, r142_28]
  · have q2' : 0 ≤ (j : Int) ∧ (j : Int) ≤ 3 ∧ g1 127 (j : Int).toNat ≠ 0 := by rw [b2 127 _ rfl]; exact q2
    rw [rc205_, call0 (show Call prog clsT X (d + 6) 162 _ _ = _ from m162 X E c s (RN_Q h b2) (d + 5) _), push0, nE_Q b2, bI_t q, r205_4, cmp_eq, if_neg (by decide), call0 (show Call prog clsT X (d + 6) 202 _ _ = _ from m202 X E c s (d + 4) _), push0, bI_t q2', r205_8, cmp_eq, if_neg (by decide), cmp_ne, if_pos (by decide), call0 w1, push0, r205_23]
theorem op_fact (x1 x2 : Int) : OpQ X 141 198 5 0 [(0, x1), (0, x2)] := by
  intro N E c s d g h
  have hre := h.1.1.1
  have hle := hre.rn.le
  have thr : ¬ (0 ≤ x1 ∧ x1 < nE g) ∨ ((0 ≤ x1 ∧ x1 < nE g) ∧ ¬ (0 ≤ x2 ∧ x2 ≤ 13)) → ∃ w, Call prog clsT X (d + 5) 141 [(2, 0), (0, x1), (0, x2)] (mk E c s (hh g)) = some ((4, 0), mk E (c + 8) (s + 64) (hh g)) ∧ Call prog clsT X (d + 5) 198 [(2, 89), (0, x1), (0, x2)] (mk E (c + 8) (s + 64) (hh g)) = some ((0, w), mk E (c + 8) (s + 64) (hh (up g 89 0 1))) := fun hc => by
    refine ⟨0, ?_, ?_⟩
    · rw [rc141_, call0 (show Call prog clsT X (d + 4) 20 _ _ = _ from c20 X E c s hre (d + 3) _), push0]
      rcases hc with q | ⟨q1, q2⟩
      · rw [bI_f q, r141_4, cmp_eq, if_pos rfl]; rfl
      · rw [bI_t q1, r141_4, cmp_eq, if_neg (by decide), call0 (show Call prog clsT X (d + 4) 90 _ _ = _ from c90 X E c s (d + 3) _ _ _), push0, bI_f q2, r141_9, cmp_ne, if_neg (by decide)]; rfl
    · rw [rc198_, call0 (show Call prog clsT X (d + 4) 162 _ _ = _ from m162 X E (c + 8) (s + 64) hre.rn (d + 3) _), push0]
      rcases hc with q | ⟨q1, q2⟩
      · rw [bI_f q, r198_4, cmp_eq, if_pos rfl, cmp_ne, if_neg (by decide)]
      · rw [bI_t q1, r198_4, cmp_eq, if_neg (by decide), call0 (show Call prog clsT X (d + 4) 152 _ _ = _ from m152 X E (c + 8) (s + 64) (d + 3) _ _ _), push0, bI_f q2, r198_9, cmp_eq, if_pos rfl, cmp_ne, if_neg (by decide)]
  by_cases q : 0 ≤ x1 ∧ x1 < nE g
  case neg =>
    obtain ⟨w, y1, y2⟩ := thr (Or.inl q)
    exact ⟨g, _, onQ_0 (onQ_refl g) 1, Or.inr ⟨w, y1, y2, up_at⟩⟩
  by_cases q2 : 0 ≤ x2 ∧ x2 ≤ 13
  case neg =>
    obtain ⟨w, y1, y2⟩ := thr (Or.inr ⟨q, q2⟩)
    exact ⟨g, _, onQ_0 (onQ_refl g) 1, Or.inr ⟨w, y1, y2, up_at⟩⟩
  obtain ⟨e, rfl⟩ := Int.eq_ofNat_of_zero_le q.1
  obtain ⟨f, rfl⟩ := Int.eq_ofNat_of_zero_le q2.1
  have he : e < nE g := by omega
  obtain ⟨_, _, _, _, _, e31, e32, _⟩ := hre
  have hre := h.1.1.1
  have goC : Call prog clsT X (d + 5) 141 [(2, 0), (0, (e : Int)), (0, (f : Int))] (mk E c s (hh g)) = Ev prog clsT X (d + 4) mc141 9 [(2, 0), (0, (e : Int)), (0, (f : Int))] [(0, 1)] (mk E c s (hh g)) := by
    rw [rc141_, call0 (show Call prog clsT X (d + 4) 20 _ _ = _ from c20 X E c s hre (d + 3) _), push0, bI_t q, r141_4, cmp_eq, if_neg (by decide), call0 (show Call prog clsT X (d + 4) 90 _ _ = _ from c90 X E c s (d + 3) _ _ _), push0, bI_t q2]
  have goM : ∀ g1 g2, onQ g g1 → Call prog clsT X (d + 4) 189 [(2, 89), (0, (e : Int))] (mk E c s (hh (up g1 89 0 0))) = some ((3, 0), mk E c s (hh g2)) → Call prog clsT X (d + 5) 198 [(2, 89), (0, (e : Int)), (0, (f : Int))] (mk E c s (hh g1)) = Ev prog clsT X (d + 4) mc198 23 [(2, 89), (0, (e : Int)), (0, (f : Int))] [] (mk E c s (hh g2)) := fun g1 g2 a2 hb => by
    rw [rc198_, call0 (show Call prog clsT X (d + 4) 162 _ _ = _ from m162 X E c s (RN_Q h a2) (d + 3) _), push0, nE_Q a2, bI_t q, r198_4, cmp_eq, if_neg (by decide), call0 (show Call prog clsT X (d + 4) 152 _ _ = _ from m152 X E c s (d + 3) _ _ _), push0, bI_t q2, r198_9, cmp_eq, if_neg (by decide), cmp_ne, if_pos (by decide), call3 hb, push3]
  by_cases y : f < 11
  · obtain ⟨g1, a1, a2, a3, _⟩ := tellC X c s h he (onQ_refl g) d
    obtain ⟨g2, b1, b2, b3, b4⟩ := tellM X c s h he (onQ_0 a2 0) (d + 1)
    have e0 : w32 (1 + (f : Int)) = ((f + 1 : Nat) : Int) := by rw [w32_of (by omega) (by omega)]; omega
    refine ⟨g1, g2, b2, Or.inl ⟨(rowE g e).getD f 0, ?_, ?_, b4 89 0 (by decide)⟩⟩
    · rw [goC, r141_9, cmp_ne, if_pos (by decide), cmp_ne, if_pos (by omega), cmp_ne, if_pos (by omega), cmp_ne, if_pos (by omega), call3 a1, push3, r141_48, inb_is, if_pos (by omega), Int.toNat_natCast, a3 f y]
    · rw [goM g1 g2 a2 b1, r198_23, cmp_ge, if_neg (by omega), e0, inb_is, if_pos (by omega), Int.toNat_natCast, b3 f y]
  · obtain ⟨g2, b1, b2, b3, b4⟩ := tellM X c s h he (onQ_0 (onQ_refl g) 0) (d + 1)
    have hf : f = 11 ∨ f = 12 ∨ f = 13 := by omega
    rcases hf with z | z | z <;> subst z
    · refine ⟨g, g2, b2, Or.inl ⟨g 99 e, ?_, ?_, b4 89 0 (by decide)⟩⟩
      · rw [goC, r141_9, cmp_ne, if_pos (by decide), cmp_ne, if_neg (by decide), inb_is, if_pos (by omega), Int.toNat_natCast, e31]
      · rw [goM g g2 (onQ_refl g) b1, r198_23, cmp_ge, if_pos (by decide), cmp_ne, if_neg (by decide), inb_is, if_pos (by omega), Int.toNat_natCast, b2 99 e rfl]
    · refine ⟨g, g2, b2, Or.inl ⟨g 100 e, ?_, ?_, b4 89 0 (by decide)⟩⟩
      · rw [goC, r141_9, cmp_ne, if_pos (by decide), cmp_ne, if_pos (by decide), cmp_ne, if_neg (by decide), inb_is, if_pos (by omega), Int.toNat_natCast, e32]
      · rw [goM g g2 (onQ_refl g) b1, r198_23, cmp_ge, if_pos (by decide), cmp_ne, if_pos (by decide), cmp_ne, if_neg (by decide), inb_is, if_pos (by omega), Int.toNat_natCast, b2 100 e rfl]
    · have s19 : Call prog clsT X (d + 4) 19 [(2, 30), (0, (e : Int))] (mk E c s (hh g)) = some ((0, bI (g 104 e = 0)), mk E c s (hh g)) := by
        rw [c19 X E c s hre (d + 2) e, Int.toNat_natCast]
        congr 3
        unfold bI
        by_cases w : g 104 e = 0
        · rw [if_pos w, if_pos ⟨q.1, q.2, w⟩]
        · rw [if_neg w, if_neg (fun t => w t.2.2)]
      refine ⟨g, g2, b2, Or.inl ⟨bI (g 104 e = 0), ?_, ?_, b4 89 0 (by decide)⟩⟩
      · rw [goC, r141_9, cmp_ne, if_pos (by decide), cmp_ne, if_pos (by decide), cmp_ne, if_pos (by decide), cmp_ne, if_neg (by decide), call0 s19, push0, r141_40, cmp_eq]
        by_cases w : g 104 e = 0
        · rw [bI_t w, if_neg (by decide)]
        · rw [bI_f w, if_pos rfl]
      · rw [goM g g2 (onQ_refl g) b1, r198_23, cmp_ge, if_pos (by decide), cmp_ne, if_pos (by decide), cmp_ne, if_pos (by decide), inb_is, if_pos (by omega), Int.toNat_natCast, b2 104 e rfl, cmp_eq]
        by_cases w : g 104 e = 0
        · rw [bI_t w, if_pos w]
        · rw [bI_f w, if_neg w]
end FACT
