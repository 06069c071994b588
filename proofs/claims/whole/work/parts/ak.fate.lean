/-! Part ak: what a class is by the plan. -/
def fateV (V : Nat → Int) : Nat → Nat → Int
  | 0, _ => 0
  | m + 1, j => if V j = 0 then fateV V m (j + 1) else ((j + 1 : Nat) : Int)
theorem fateV_b (V : Nat → Int) : ∀ m j, 0 ≤ fateV V m j ∧ fateV V m j ≤ ((j + m : Nat) : Int) := by
  intro m
  induction m with
  | zero => intro j; exact ⟨Int.le_refl _, by show (0 : Int) ≤ _; omega⟩
  | succ m ih =>
    intro j
    have e : fateV V (m + 1) j = if V j = 0 then fateV V m (j + 1) else ((j + 1 : Nat) : Int) := rfl
    have i := ih (j + 1)
    rw [e]
    split <;> omega
theorem plRow_ok {N : Int} {E : List (Nat × Nat)} {g : Gm} (h : ST N E g) {k : Nat} (hk : k < 10) (h107 : 0 ≤ g 107 k ∧ g 107 k ≤ 8) (h108 : 0 ≤ g 108 k ∧ g 108 k ≤ 10) : rowOK (plRow g k) := by
  intro f
  have b := yr_n (yr_b h hk) 5 (by omega)
  have b0 := yr_b h hk 0 (by omega)
  rw [Nat.add_zero] at b0
  have bs := ba_b h 0 hk
  have es : baG g 0 k = stIn g (k : Int) := if_pos rfl
  rw [es] at bs
  have bA : in32 (yrA g k) := by
    unfold yrA tdv
    split
    · exact in32_w _
    · exact in32_0
  by_cases hf : f < 8
  · rcases f8 hf with q | q | q | q | q | q | q | q <;> subst q
    · exact in32_of (x := stIn g (k : Int)) (by omega) (by omega)
    · exact in32_of (x := if g 152 (5 * k) < 0 then 0 else g 152 (5 * k)) (by split <;> omega) (by split <;> omega)
    · exact in32_of (x := mostG g k 5) (by omega) (by omega)
    · exact in32_of (x := if yrL g k 5 < 0 then 0 else yrL g k 5) (by split <;> omega) (by split <;> omega)
    · exact bA
    · exact in32_of (x := yrT g k 5) (by omega) (by omega)
    · exact in32_of (x := g 108 k) (by omega) (by omega)
    · exact in32_of (x := g 107 k) (by omega) (by omega)
  · have e : plRow g k f = 0 := by
      unfold plRow
      rw [List.getD_eq_getElem?_getD, List.getElem?_eq_none (by simp only [List.length_cons, List.length_nil]; omega)]
      rfl
    rw [e]
    exact in32_0
section FATE
variable (X : MExt) {E : List (Nat × Nat)} {g : Gm}
theorem fg_kind (E : List (Nat × Nat)) (c s : Nat) {v : Gm} {r n : Nat} (h : CE E r 7 n) {k : Int → Option MRes} : (fget 3588 (mk E c s (hh v)) (r : Int)).bind k = k (v r 1) := fgR E c s (by decide) h
theorem fg_want (E : List (Nat × Nat)) (c s : Nat) {v : Gm} {r n : Nat} (h : CE E r 7 n) {k : Int → Option MRes} : (fget 3584 (mk E c s (hh v)) (r : Int)).bind k = k (v r 0) := fgR E c s (by decide) h
/-- Sheet.describeClass -/
theorem c78 {N : Int} (h : ST N E g) (c s d : Nat) {k r : Nat} (hk : k < 10) (hr : RG 0 E r k g) {u : Gm} (hu : onQ g u) : ∃ u' : Gm, Call prog clsT X (d + 2) 78 [(2, 27), (2, 40), (0, (k : Int)), (0, stIn g (k : Int)), (2, (r : Int))] (mk E c s (hh u)) = some ((3, 0), mk E c s (hh u')) ∧ (∀ x i, x ≠ 28 → u' x i = u x i) ∧ ∀ f, f < 8 → u' 28 f = plRow g k f := by
  have e44 : ∀ i : Nat, g 44 i = g 152 i := h.1.1.2.2.2.1.2.2.2.2.2.2.1
  have hl := RG_lt hr
  have r28 : r ≠ 28 := by omega
  obtain ⟨cap, a1, a2, a3, a4, a5, a6, a7, a8, a9, a10, a11, a12, a13⟩ := hr
  have u1 : u r 1 = g 108 k := by rw [cellR (sameR_Q hu) (by omega) 1]; exact a5 rfl
  have u0 : u r 0 = g 107 k := by rw [cellR (sameR_Q hu) (by omega) 0]; exact a4
  have e5 : w32 ((k : Int) * 5) = ((5 * k : Nat) : Int) := by rw [w32_of (by omega) (by omega)]; omega
  have s28 : ∀ {v : Gm} (i : Nat) (x : Int), onQ g v → onQ g (up v 28 i x) := fun i x hv => onQ_up hv rfl
  have bT := (yr_n (yr_b h hk) 5 (by omega)).1
  have fin : ∀ (A : Int), A = yrA g k → (∀ x i, x ≠ 28 → up (up (up (up (up (up (up (up u 28 0 (stIn g (k : Int))) 28 1 (if g 152 (5 * k) < 0 then 0 else g 152 (5 * k))) 28 2 (mostG g k 5)) 28 3 (if yrL g k 5 < 0 then 0 else yrL g k 5)) 28 4 A) 28 5 (yrT g k 5)) 28 6 (g 108 k)) 28 7 (g 107 k) x i = u x i) ∧ ∀ f, f < 8 → up (up (up (up (up (up (up (up u 28 0 (stIn g (k : Int))) 28 1 (if g 152 (5 * k) < 0 then 0 else g 152 (5 * k))) 28 2 (mostG g k 5)) 28 3 (if yrL g k 5 < 0 then 0 else yrL g k 5)) 28 4 A) 28 5 (yrT g k 5)) 28 6 (g 108 k)) 28 7 (g 107 k) 28 f = plRow g k f := fun A hA => by
    refine ⟨fun x i hx => by rw [up_cell hx, up_cell hx, up_cell hx, up_cell hx, up_cell hx, up_cell hx, up_cell hx, up_cell hx], fun f hf => ?_⟩
    rw [hA]
    rcases f8 hf with q | q | q | q | q | q | q | q <;> subst q <;> rfl
  rw [rc78_, call0 (show Call prog clsT X (d + 1) 30 _ _ = _ from c30 X h c s d hk hu), push0, r78_3, e5, inb_is, if_pos (by omega), Int.toNat_natCast, hu 44 _ rfl, e44, call0 (show Call prog clsT X (d + 1) 27 _ _ = _ from c27 X h c s d hk (s28 _ _ (s28 _ _ hu))), push0, r78_27, inb_is, if_pos (by decide), call0 (show Call prog clsT X (d + 1) 31 _ _ = _ from c31 X h c s d hk (s28 _ _ (s28 _ _ (s28 _ _ hu)))), push0, r78_34, inb_is, if_pos (by decide), cmp_le]
  by_cases z : yrT g k 5 ≤ 0
  · rw [if_pos z, fg_kind E c s a1.1, fg_want E c s a1.1]
    simp only [up_cell r28]
    rw [u1, u0]
    obtain ⟨q1, q2⟩ := fin 0 (by unfold yrA; rw [if_neg (by omega)])
    exact ⟨_, rfl, q1, q2⟩
  · rw [if_neg z, call0 (show Call prog clsT X (d + 1) 32 _ _ = _ from c32 X h c s d hk (s28 _ _ (s28 _ _ (s28 _ _ (s28 _ _ hu))))), push0, r78_43, if_neg (by omega), inb_is, if_pos (by decide), fg_kind E c s a1.1, fg_want E c s a1.1]
    simp only [up_cell r28]
    rw [u1, u0]
    obtain ⟨q1, q2⟩ := fin (tdv (yrS g k 5) (yrT g k 5)) (by unfold yrA; rw [if_pos (by omega)])
    exact ⟨_, rfl, q1, q2⟩
/-- Model.plannedAs, up to the lines -/
theorem m244_pre {N : Int} (h : ST N E g) (c s d : Nat) {k : Nat} (hk : k < 10) (hw : 0 ≤ g 107 k ∧ (g 107 k = 0 → g 108 k = 10)) {u : Gm} (hu : onQ g u) : ∃ (u' : Gm) (w1 w2 w3 w4 w5 : MV), Call prog clsT X (d + 3) 244 [(2, 89), (0, (k : Int))] (mk E c s (hh u)) = Ev prog clsT X (d + 2) mc244 134 [(2, 89), w1, w2, w3, w4, w5, (0, 0)] [] (mk E c s (hh u')) ∧ onQ g u' ∧ ∀ f, f < 8 → u' 126 (f + 1) = plRow g k f := by
  have i13 : 0 ≤ (k : Int) ∧ (k : Int) < ((13 : Nat) : Int) := by omega
  have e5 : w32 (5 * (k : Int)) = ((5 * k : Nat) : Int) := by rw [w32_of (by omega) (by omega)]; omega
  have e10 : w32 (((5 * k : Nat) : Int) + 5) = ((5 * k + 5 : Nat) : Int) := by rw [w32_of (by omega) (by omega)]; omega
  have b5 := yr_n (yr_b h hk) 5 (by omega)
  have y0 := yr_b h hk 0 (by omega)
  rw [Nat.add_zero] at y0
  have bb : ∀ j, j < 5 → 0 ≤ (if g 152 (5 * k + j) < 0 then 0 else g 152 (5 * k + j)) ∧ (if g 152 (5 * k + j) < 0 then 0 else g 152 (5 * k + j)) ≤ 99 := fun j hj => by
    have b := yr_b h hk j hj
    split <;> omega
  have fin : ∀ (A K : Int) (w1 w2 w3 w4 w5 : MV), A = yrA g k → K = g 108 k → ∃ (u' : Gm) (x1 x2 x3 x4 x5 : MV), Ev prog clsT X (d + 2) mc244 134 [(2, 89), w1, w2, w3, w4, w5, (0, 0)] [] (mk E c s (hh (up (up (up (up (up (up (up (up u 126 1 (stIn g (k : Int))) 126 2 (if 0 < g 152 (5 * k) then g 152 (5 * k) else 0)) 126 3 (mostG g k 5)) 126 4 (if yrL g k 5 < 0 then 0 else yrL g k 5)) 126 5 A) 126 6 (yrT g k 5)) 126 7 K) 126 8 (g 107 k)))) = Ev prog clsT X (d + 2) mc244 134 [(2, 89), x1, x2, x3, x4, x5, (0, 0)] [] (mk E c s (hh u')) ∧ onQ g u' ∧ ∀ f, f < 8 → u' 126 (f + 1) = plRow g k f := by
    intro A K w1 w2 w3 w4 w5 hA hK
    have el : (if 0 < g 152 (5 * k) then g 152 (5 * k) else 0) = if g 152 (5 * k) < 0 then 0 else g 152 (5 * k) := by
      by_cases z : 0 < g 152 (5 * k)
      · rw [if_pos z, if_neg (by omega)]
      · rw [if_neg z]
        split <;> omega
    refine ⟨_, w1, w2, w3, w4, w5, rfl, onQ_up (onQ_up (onQ_up (onQ_up (onQ_up (onQ_up (onQ_up (onQ_up hu rfl) rfl) rfl) rfl) rfl) rfl) rfl) rfl, fun f hf => ?_⟩
    rw [el, hA, hK]
    rcases f8 hf with q | q | q | q | q | q | q | q <;> subst q <;> rfl
  have loop : ∀ (m i : Nat), i + m = 5 → ∃ (u' : Gm) (w1 w2 w3 w4 w5 : MV), Ev prog clsT X (d + 2) mc244 12 [(2, 89), (0, (k : Int)), (0, mostG g k i), (0, if yrL g k i < 0 then 0 else yrL g k i), (0, yrS g k i), (0, yrT g k i), (0, ((5 * k + i : Nat) : Int))] [] (mk E c s (hh u)) = Ev prog clsT X (d + 2) mc244 134 [(2, 89), w1, w2, w3, w4, w5, (0, 0)] [] (mk E c s (hh u')) ∧ onQ g u' ∧ ∀ f, f < 8 → u' 126 (f + 1) = plRow g k f := by
    intro m
    induction m with
    | zero =>
      intro i hi
      have hi : i = 5 := by omega
      subst hi
      rw [r244_12, cmp_ge, e5, e10, if_pos (by omega), call0 (show Call prog clsT X (d + 2) 190 _ _ = _ from m190n X E c s (RN_Q h hu) (d + 1) (k : Int)), push0, stIn_Q hu, r244_70, inb_is, if_pos (by decide), e5, inb_is, if_pos (by omega), cmp_ne, Int.toNat_natCast, Int.toNat_natCast, hu 152 _ rfl, hu 107 k rfl, hu 108 k rfl]
      by_cases z : yrT g k 5 = 0
      · have eA : (0 : Int) = yrA g k := by unfold yrA; rw [if_neg (by omega)]
        rw [if_neg (fun w => w z), inb_is, if_pos i13, cmp_le]
        by_cases z2 : g 107 k ≤ 0
        · rw [if_pos z2, inb_is, if_pos i13]
          exact fin 0 10 _ _ _ _ _ eA (hw.2 (by omega)).symm
        · rw [if_neg z2, inb_is, if_pos i13, inb_is, if_pos i13]
          exact fin 0 _ _ _ _ _ _ eA rfl
      · have eA : tdv (yrS g k 5) (yrT g k 5) = yrA g k := by unfold yrA; rw [if_pos (by omega)]
        rw [if_pos z, if_neg z, inb_is, if_pos i13, cmp_le]
        by_cases z2 : g 107 k ≤ 0
        · rw [if_pos z2, inb_is, if_pos i13]
          exact fin _ 10 _ _ _ _ _ eA (hw.2 (by omega)).symm
        · rw [if_neg z2, inb_is, if_pos i13, inb_is, if_pos i13]
          exact fin _ _ _ _ _ _ _ eA rfl
    | succ m ih =>
      intro i hi
      have b := yr_b h hk i (by omega)
      have bn := yr_n (yr_b h hk) i (by omega)
      have eT : yrT g k (i + 1) = yrT g k i + bI (0 ≤ g 152 (5 * k + i)) := rfl
      have eS : yrS g k (i + 1) = yrS g k i + if g 152 (5 * k + i) < 0 then 0 else g 152 (5 * k + i) := rfl
      have eM : mostG g k (i + 1) = if mostG g k i < g 152 (5 * k + i) then g 152 (5 * k + i) else mostG g k i := rfl
      have eL : yrL g k (i + 1) = if g 152 (5 * k + i) = -1 then yrL g k i else if yrL g k i = -1 then g 152 (5 * k + i) else if yrL g k i ≤ g 152 (5 * k + i) then yrL g k i else g 152 (5 * k + i) := rfl
      have nx : ∀ a1 a2 a3 a4 : Int, a1 = mostG g k (i + 1) → a2 = (if yrL g k (i + 1) < 0 then 0 else yrL g k (i + 1)) → a3 = yrS g k (i + 1) → a4 = yrT g k (i + 1) → ∃ (u' : Gm) (w1 w2 w3 w4 w5 : MV), Ev prog clsT X (d + 2) mc244 12 [(2, 89), (0, (k : Int)), (0, a1), (0, a2), (0, a3), (0, a4), (0, ((5 * k + i + 1 : Nat) : Int))] [] (mk E c s (hh u)) = Ev prog clsT X (d + 2) mc244 134 [(2, 89), w1, w2, w3, w4, w5, (0, 0)] [] (mk E c s (hh u')) ∧ onQ g u' ∧ ∀ f, f < 8 → u' 126 (f + 1) = plRow g k f := fun a1 a2 a3 a4 h1 h2 h3 h4 => by
        rw [h1, h2, h3, h4]
        exact ih (i + 1) (by omega)
      rw [r244_12, cmp_ge, e5, e10, if_neg (by omega), inb_is, if_pos (by omega), cmp_ge, Int.toNat_natCast, hu 152 _ rfl, w32_succ (by omega)]
      by_cases z : 0 ≤ g 152 (5 * k + i)
      case neg =>
        have eL' : yrL g k (i + 1) = yrL g k i := by rw [eL, if_pos (by omega)]
        rw [if_neg z]
        exact nx _ _ _ _ (by rw [eM, if_neg (by omega)]) (by rw [eL']) (by rw [eS, if_pos (by omega)]; omega) (by rw [eT, bI_f z]; omega)
      have wS : w32 (yrS g k i + g 152 (5 * k + i)) = yrS g k (i + 1) := by rw [eS, if_neg (by omega), w32_of (by omega) (by omega)]
      have wT : w32 (yrT g k i + 1) = yrT g k (i + 1) := by rw [eT, bI_t z, w32_of (by omega) (by omega)]
      rw [if_pos z, cmp_ne]
      by_cases z2 : yrT g k i = 0
      · rcases bn.2.2.2.2 with q | q
        case inr => omega
        have eL' : yrL g k (i + 1) = g 152 (5 * k + i) := by rw [eL, if_neg (by omega), if_pos q.2.2]
        rw [if_neg (fun w => w z2), inb_is, if_pos (by omega), cmp_ne, if_neg (fun w => w z2), inb_is, if_pos (by omega), inb_is, if_pos (by omega)]
        exact nx _ _ _ _ (by rw [eM, q.2.1]; split <;> omega) (by rw [eL', if_neg (by omega)]) wS wT
      · rcases bn.2.2.2.2 with q | q
        case inl => omega
        rw [if_pos z2, inb_is, if_pos (by omega), cmp_ne, if_pos z2, inb_is, if_pos (by omega), inb_is, if_pos (by omega)]
        refine nx _ _ _ _ (by rw [eM]) ?_ wS wT
        rw [if_neg (show ¬ yrL g k i < 0 by omega)]
        by_cases z3 : yrL g k i ≤ g 152 (5 * k + i)
        · have eL' : yrL g k (i + 1) = yrL g k i := by rw [eL, if_neg (by omega), if_neg (by omega), if_pos z3]
          rw [eL', if_neg (by omega), if_neg (by omega)]
        · have eL' : yrL g k (i + 1) = g 152 (5 * k + i) := by rw [eL, if_neg (by omega), if_neg (by omega), if_neg z3]
          rw [eL', if_pos (by omega), if_neg (by omega)]
  rw [rc244_, e5]
  exact loop 5 0 (by omega)
end FATE
