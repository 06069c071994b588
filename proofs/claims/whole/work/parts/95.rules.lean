/-! Part 95: rules objects, wherever they lie; the class's reader behind a fault. -/
theorem ptrs_nil {a : Nat} (h : (11 ≤ a ∧ a ≤ 26) ∨ 159 ≤ a) : ptrs a = [] := by
  unfold ptrs
  split
  all_goals first | rfl | omega
theorem hh_nil {g : Nat → Nat → Int} {a i : Nat} (h : ptrs a = []) : hh g a i = g a i := by
  unfold hh; rw [h]; rfl
/-- the cell a is of kind kd, n long, and holds data alone -/
def CE (E : List (Nat × Nat)) (a kd n : Nat) : Prop := (LAY ++ E)[a]? = some (kd, n) ∧ ((11 ≤ a ∧ a ≤ 26) ∨ 159 ≤ a)
section CELLS
variable (X : MExt) (E : List (Nat × Nat)) (c s : Nat) {g : Nat → Nat → Int}
theorem layC {a kd n : Nat} (h : CE E a kd n) : lay? (mk E c s (hh g)) (a : Int) = (kd, n) := by
  unfold lay?
  rw [if_pos (Int.natCast_nonneg a), Int.toNat_natCast]
  show ((LAY ++ E)[a]?).getD (999, 0) = _
  rw [h.1]; rfl
theorem putC_ {a kd n : Nat} (h : CE E a kd n) (i : Nat) (v : Int) : put (mk E c s (hh g)) (a : Int) i v = mk E c s (hh (up g a i v)) := by
  have hd : dat a i = true := by unfold dat; rw [ptrs_nil h.2]; rfl
  have e : PU (hh g) a i v = hh (up g a i v) := hhP hd
  show (LAY ++ E, PU (hh g) (Int.toNat (a : Int)) i v, c, s) = _
  rw [Int.toNat_natCast, e]; rfl
theorem fgR {f r n : Nat} (hf : f < 10000) (h : CE E r (fCl f) n) {k : Int → Option MRes} : (fget f (mk E c s (hh g)) (r : Int)).bind k = k (g r (fPl f)) := by
  unfold fget
  rw [if_pos hf, if_pos (Int.natCast_nonneg r), layC E c s h, if_pos rfl]
  show k (hh g (Int.toNat (r : Int)) (fPl f)) = _
  rw [Int.toNat_natCast, hh_nil (ptrs_nil h.2)]
theorem fpR {f r n : Nat} (h : CE E r (fCl f) n) {v : Int} {k : Mem → Option MRes} : (fput f (mk E c s (hh g)) (r : Int) v).bind k = k (mk E c s (hh (up g r (fPl f) v))) := by
  unfold fput
  rw [if_pos (Int.natCast_nonneg r), layC E c s h, if_pos rfl, putC_ E c s h]
  rfl
theorem agR {a n : Nat} (h : CE E a 100 n) {x : Int} {k : Int → Option MRes} : (aget X 100 (mk E c s (hh g)) (a : Int) x).bind k = if 0 ≤ x ∧ x < n then k (g a x.toNat) else none := by
  unfold aget
  rw [if_pos (Int.natCast_nonneg a), layC E c s h, if_pos rfl]
  show (if inb x n = true then some (hh g (Int.toNat (a : Int)) x.toNat) else none).bind k = _
  rw [inb_is, Int.toNat_natCast, hh_nil (ptrs_nil h.2)]
  split <;> rfl
theorem apR {a n : Nat} (h : CE E a 100 n) {x v : Int} {k : Mem → Option MRes} : (aput 100 (mk E c s (hh g)) (a : Int) x v).bind k = if 0 ≤ x ∧ x < n then k (mk E c s (hh (up g a x.toNat v))) else none := by
  unfold aput
  rw [if_pos (Int.natCast_nonneg a), layC E c s h, if_pos rfl, inb_is, putC_ E c s h]
  split <;> rfl
theorem alR {a n : Nat} (h : CE E a 100 n) {k : Int → Option MRes} : (alen X (mk E c s (hh g)) (a : Int)).bind k = k n := by
  unfold alen
  rw [if_pos (Int.natCast_nonneg a), layC E c s h, if_pos (show (100 : Nat) ≤ 100 ∧ (100 : Nat) < 106 by decide)]
  rfl
theorem rvR {r n : Nat} (h : CE E r 7 n) {α : Type} {a b : α} : (if (2 : Nat) = 2 ∧ rcv (mk E c s (hh g)) (r : Int) 8 = true then a else b) = a := by
  refine if_pos ⟨rfl, ?_⟩
  unfold rcv
  rw [if_pos (Int.natCast_nonneg r), layC E c s h]
  rfl
end CELLS
/-- a rules object and its four arrays -/
def RO (E : List (Nat × Nat)) (r cap : Nat) : Prop := CE E r 7 8 ∧ CE E (r + 1) 100 6 ∧ CE E (r + 2) 100 11 ∧ CE E (r + 3) 100 11 ∧ CE E (r + 4) 100 cap
def RP (g : Nat → Nat → Int) (r : Nat) : Prop := g r 3 = ((r + 1 : Nat) : Int) ∧ g r 4 = ((r + 2 : Nat) : Int) ∧ g r 5 = ((r + 3 : Nat) : Int) ∧ g r 6 = ((r + 4 : Nat) : Int)
def seg (f : Nat → Int) (a : Nat) : Nat → List Int
  | 0 => []
  | n + 1 => f a :: seg f (a + 1) n
theorem seg_len (f : Nat → Int) : ∀ n a, (seg f a n).length = n
  | 0, _ => rfl
  | n + 1, a => by show (seg f (a + 1) n).length + 1 = n + 1; rw [seg_len f n (a + 1)]
theorem seg_app (f : Nat → Int) : ∀ m a n, seg f a (m + n) = seg f a m ++ seg f (a + m) n
  | 0, a, n => by rw [Nat.zero_add]; rfl
  | m + 1, a, n => by
    rw [show m + 1 + n = (m + n) + 1 by omega]
    show f a :: seg f (a + 1) (m + n) = f a :: (seg f (a + 1) m ++ seg f (a + (m + 1)) n)
    rw [seg_app f m (a + 1) n, show a + 1 + m = a + (m + 1) by omega]
theorem seg_congr {f h : Nat → Int} : ∀ n a, (∀ i, a ≤ i → i < a + n → f i = h i) → seg f a n = seg h a n
  | 0, _, _ => rfl
  | n + 1, a, e => by
    show f a :: seg f (a + 1) n = h a :: seg h (a + 1) n
    rw [e a (Nat.le_refl _) (by omega), seg_congr n (a + 1) (fun i h1 h2 => e i (by omega) (by omega))]
def lst (g : Nat → Nat → Int) (r : Nat) : List Int := seg (g (r + 4)) 0 (g r 7).toNat
theorem lst_add {g : Nat → Nat → Int} {r : Nat} {x : Int} (h0 : 0 ≤ g r 7) : lst (up (up g (r + 4) (g r 7).toNat x) r 7 (g r 7 + 1)) r = lst g r ++ [x] := by
  unfold lst
  rw [up_same, show (g r 7 + 1).toNat = (g r 7).toNat + 1 by omega, seg_app]
  congr 1
  · refine seg_congr _ _ (fun i h1 h2 => ?_)
    rw [up_cell (by omega), up_place (by omega)]
  · show [up (up g (r + 4) (g r 7).toNat x) r 7 (g r 7 + 1) (r + 4) (0 + (g r 7).toNat)] = [x]
    rw [up_cell (by omega), Nat.zero_add, up_same]
/-- what reading an expression may change (class) -/
def zE (r x i : Nat) : Prop := (x = 9 ∧ 3 ≤ i ∧ i ≤ 7) ∨ (x = r ∧ i = 7) ∨ x = r + 4
def frE (r : Nat) (g g' : Nat → Nat → Int) : Prop := ∀ x i, ¬ zE r x i → g' x i = g x i
theorem frE_refl (r : Nat) (g : Nat → Nat → Int) : frE r g g := fun _ _ _ => rfl
theorem frE_tr {r : Nat} {g g1 g2 : Nat → Nat → Int} (h : frE r g g1) (h2 : frE r g1 g2) : frE r g g2 := fun x i a => (h2 x i a).trans (h x i a)
theorem frE_C {r : Nat} {g g' : Nat → Nat → Int} (h : ∀ x i, ¬ zC x i → g' x i = g x i) : frE r g g' := fun x i a => h x i (fun q => a (Or.inl ⟨q.1, by have := q.2; omega, q.2.2⟩))
def DR (E : List (Nat × Nat)) (L r : Nat) (g : Nat → Nat → Int) : Prop := RO E r L ∧ RP g r ∧ g 9 2 = r ∧ 159 ≤ r ∧ 0 ≤ g r 7 ∧ g r 7 ≤ L ∧ L ≤ 1000
theorem RP_fr {r : Nat} {g g' : Nat → Nat → Int} (h : RP g r) (h1 : 159 ≤ r) (e : frE r g g') : RP g' r := by
  unfold RP at h ⊢
  rw [e r 3 (by unfold zE; omega), e r 4 (by unfold zE; omega), e r 5 (by unfold zE; omega), e r 6 (by unfold zE; omega)]
  exact h
theorem DR_fr {E : List (Nat × Nat)} {L r : Nat} {g g' : Nat → Nat → Int} (h : DR E L r g) (e : frE r g g') (h1 : 0 ≤ g' r 7) (h2 : g' r 7 ≤ L) : DR E L r g' := by
  obtain ⟨a1, a2, a3, a4, a5, a6, a7⟩ := h
  exact ⟨a1, RP_fr a2 a4 e, by rw [e 9 2 (by unfold zE; omega)]; exact a3, a4, h1, h2, a7⟩
def FA (g : Nat → Nat → Int) (F : Int) : Prop := F ≠ 0 ∧ g 9 3 = F ∧ g 9 6 = 4
section RULES
variable (X : MExt) (E : List (Nat × Nat)) (c s : Nat) {g : Nat → Nat → Int} {r cap : Nat}
/-- Rules.hasLine -/
theorem c66 (hr : RO E r cap) (hp : RP g r) (d l : Nat) (hl : l < 11) : Call prog clsT X (d + 1) 66 [(2, (r : Int)), (0, (l : Int))] (mk E c s (hh g)) = some ((0, bI (g (r + 2) l ≠ -1)), mk E c s (hh g)) := by
  rw [rc66_, cmp_lt, if_neg (by omega), cmp_ge, if_neg (by omega), fgR E c s (by decide) hr.1]
  show (aget X 100 (mk E c s (hh g)) (g r 4) (l : Int)).bind _ = _
  rw [hp.2.1, agR X E c s hr.2.2.1, if_pos (by omega), Int.toNat_natCast, cmp_eq]
  by_cases q : g (r + 2) l = -1
  · rw [if_pos q, bI_f (fun z => z q)]
  · rw [if_neg q, bI_t q]
/-- Rules.begin, Rules.end -/
theorem c67 (hr : RO E r cap) (hp : RP g r) (d l : Nat) (hl : l < 11) : Call prog clsT X (d + 1) 67 [(2, (r : Int)), (0, (l : Int))] (mk E c s (hh g)) = some ((3, 0), mk E c s (hh (up g (r + 2) l (g r 7)))) := by
  rw [rc67_, cmp_lt, if_neg (by omega), cmp_ge, if_neg (by omega), fgR E c s (by decide) hr.1, fgR E c s (by decide) hr.1]
  show (aput 100 (mk E c s (hh g)) (g r 4) (l : Int) (g r 7)).bind _ = _
  rw [hp.2.1, apR E c s hr.2.2.1, if_pos (by omega), Int.toNat_natCast]
theorem c69 (hr : RO E r cap) (hp : RP g r) (d l : Nat) (hl : l < 11) : Call prog clsT X (d + 1) 69 [(2, (r : Int)), (0, (l : Int))] (mk E c s (hh g)) = some ((3, 0), mk E c s (hh (up g (r + 3) l (g r 7)))) := by
  rw [rc69_, cmp_lt, if_neg (by omega), cmp_ge, if_neg (by omega), fgR E c s (by decide) hr.1, fgR E c s (by decide) hr.1]
  show (aput 100 (mk E c s (hh g)) (g r 5) (l : Int) (g r 7)).bind _ = _
  rw [hp.2.2.1, apR E c s hr.2.2.2.1, if_pos (by omega), Int.toNat_natCast]
theorem c67n (d : Nat) : Call prog clsT X (d + 1) 67 [(2, (r : Int)), (0, -1)] (mk E c s (hh g)) = some ((3, 0), mk E c s (hh g)) := by
  rw [rc67_, cmp_lt, if_pos (by decide)]
theorem c69n (d : Nat) : Call prog clsT X (d + 1) 69 [(2, (r : Int)), (0, -1)] (mk E c s (hh g)) = some ((3, 0), mk E c s (hh g)) := by
  rw [rc69_, cmp_lt, if_pos (by decide)]
def adR (g : Nat → Nat → Int) (r cap : Nat) (x : Int) : Nat → Nat → Int := if g r 7 < cap then up (up g (r + 4) (g r 7).toNat x) r 7 (g r 7 + 1) else g
/-- Rules.add -/
theorem c68 (hr : RO E r cap) (hp : RP g r) (h0 : 0 ≤ g r 7) (hc : cap ≤ 1000) (d : Nat) (x : Int) : Call prog clsT X (d + 1) 68 [(2, (r : Int)), (0, x)] (mk E c s (hh g)) = some ((3, 0), mk E c s (hh (adR g r cap x))) := by
  rw [rc68_, fgR E c s (by decide) hr.1, fgR E c s (by decide) hr.1]
  show (alen X (mk E c s (hh g)) (g r 6)).bind _ = _
  rw [hp.2.2.2, alR X E c s hr.2.2.2.2, cmp_ge]
  unfold adR
  show (if (cap : Int) ≤ g r 7 then _ else _) = _
  by_cases q : g r 7 < cap
  · rw [if_neg (by omega), if_pos q, fgR E c s (by decide) hr.1, fgR E c s (by decide) hr.1]
    show (aput 100 (mk E c s (hh g)) (g r 6) (g r 7) x).bind _ = _
    rw [hp.2.2.2, apR E c s hr.2.2.2.2, if_pos ⟨h0, q⟩, fgR E c s (by decide) hr.1]
    have e : up g (r + 4) (g r 7).toNat x r (fPl 3612) = g r 7 := up_cell (by omega)
    rw [e, fpR E c s hr.1, w32_of (by omega) (by omega)]
    rfl
  · rw [if_pos (by omega), if_neg q]
theorem adR_fr (g : Nat → Nat → Int) (r cap : Nat) (x : Int) : frE r g (adR g r cap x) := by
  intro y j h
  unfold adR
  split
  · rw [up_ne (fun q => h (Or.inr (Or.inl q))), up_ne (fun q => h (Or.inr (Or.inr q.1)))]
  · rfl
theorem adR_7 (g : Nat → Nat → Int) (r cap : Nat) (x : Int) (h0 : 0 ≤ g r 7) (h1 : g r 7 ≤ cap) : 0 ≤ adR g r cap x r 7 ∧ adR g r cap x r 7 ≤ cap := by
  unfold adR
  split
  · rw [up_same]; omega
  · omega
theorem adR_DR {L : Nat} (h : DR E L r g) (x : Int) : DR E L r (adR g r L x) := by
  have := adR_7 g r L x h.2.2.2.2.1 h.2.2.2.2.2.1
  exact DR_fr h (adR_fr g r L x) this.1 this.2
theorem adR_FA {L : Nat} {F : Int} (h : DR E L r g) (hf : FA g F) (x : Int) : FA (adR g r L x) F := by
  have h1 := h.2.2.2.1
  refine ⟨hf.1, ?_, ?_⟩
  · unfold adR; split
    · rw [up_ne (by omega), up_ne (by omega)]; exact hf.2.1
    · exact hf.2.1
  · unfold adR; split
    · rw [up_ne (by omega), up_ne (by omega)]; exact hf.2.2
    · exact hf.2.2
/-- behind a fault nothing is found and nothing changes -/
theorem c58f {F : Int} (h : FA g F) (d : Nat) (x : Int) : Call prog clsT X (d + 1) 58 [(2, 9), (0, x)] (mk E c s (hh g)) = some ((0, 0), mk E c s (hh g)) := by
  rw [rc58_, cmp_ne, h.2.2, if_pos (by decide)]
theorem c50f {F : Int} (h : FA g F) (d : Nat) (x : Int) : Call prog clsT X (d + 1) 50 [(2, 9), (2, x)] (mk E c s (hh g)) = some ((0, 0), mk E c s (hh g)) := by
  rw [rc50_, cmp_ne, h.2.2, if_pos (by decide)]
theorem c44f {F : Int} (h : FA g F) (d : Nat) (x : Int) : Call prog clsT X (d + 1) 44 [(2, 9), (2, x)] (mk E c s (hh g)) = some ((0, -1), mk E c s (hh g)) := by
  rw [rc44_, cmp_eq, h.2.2, if_neg (by decide)]
theorem c46f {F : Int} (h : FA g F) (d : Nat) (k : Int) : Call prog clsT X (d + 1) 46 [(2, 9), (0, k)] (mk E c s (hh g)) = some ((3, 0), mk E c s (hh g)) := by
  rw [c46 X E c s d k]
  unfold flt
  rw [if_pos (by rw [h.2.1]; exact h.1), up_eta h.2.2.symm]
theorem c40g {F : Int} (h : FA g F) (d : Nat) : Call prog clsT X (d + 1) 40 [(2, 9)] (mk E c s (hh g)) = some ((3, 0), mk E c s (hh g)) := c40f X E c s d (by rw [h.2.1]; exact h.1)
theorem c59f {F : Int} (h : FA g F) (d : Nat) (x : Int) : Call prog clsT X (d + 2) 59 [(2, 9), (0, x)] (mk E c s (hh g)) = some ((3, 0), mk E c s (hh g)) := by
  rw [rc59_, call0 (c58f X E c s h d x), push0, r59_3, cmp_ne, if_neg (fun q => q rfl), call3 (c46f X E c s h d 1), push3, r59_7, call3 (c40g X E c s h d), push3, r59_9]
theorem c49f {F : Int} (h : FA g F) (d : Nat) (x : Int) : Call prog clsT X (d + 2) 49 [(2, 9), (2, x)] (mk E c s (hh g)) = some ((3, 0), mk E c s (hh g)) := by
  rw [rc49_, call0 (c50f X E c s h d x), push0, r49_3, cmp_ne, if_neg (fun q => q rfl), call3 (c46f X E c s h d 1), push3, r49_7, call3 (c40g X E c s h d), push3, r49_9]
theorem c48f {F : Int} (h : FA g F) (d : Nat) (x y : Int) : Call prog clsT X (d + 2) 48 [(2, 9), (0, x), (0, y)] (mk E c s (hh g)) = some ((0, g 9 7), mk E c s (hh g)) := by
  rw [rc48_, cmp_eq, h.2.2, if_neg (by decide), call3 (c46f X E c s h d 1), push3, r48_10, r48_19, call3 (c40g X E c s h d), push3, r48_21]
theorem c57f {F : Int} (h : FA g F) (d : Nat) (x : Int) : Call prog clsT X (d + 2) 57 [(2, 9), (0, x)] (mk E c s (hh g)) = some ((3, 0), mk E c s (hh g)) := by
  rw [rc57_, call0 (c44f X E c s h d _), push0, r57_4, cmp_eq, h.2.2, if_neg (by decide), cmp_ne, if_neg (fun q => q rfl), call0 (c50f X E c s h d _), push0, r57_15, cmp_ne, if_neg (fun q => q rfl), call0 (c58f X E c s h d _), push0, r57_19, cmp_ne, if_neg (fun q => q rfl), call3 (c46f X E c s h d 1), push3, r57_23, r57_81]
theorem c56f {F : Int} (h : FA g F) (d : Nat) (x : Int) : Call prog clsT X (d + 3) 56 [(2, 9), (0, x)] (mk E c s (hh g)) = some ((3, 0), mk E c s (hh g)) := by
  rw [rc56_, call3 (c57f X E c s h d x), push3, r56_3, r56_5, cmp_ge, if_neg (by decide), call0 (c58f X E c s h (d + 1) _), push0, r56_11, cmp_eq, if_pos rfl]
theorem c56fl {F : Int} (h : FA g F) (d : Nat) (x i : Int) : Ev prog clsT X (d + 1) mc56 5 [(2, 9), (0, x), (0, i)] [] (mk E c s (hh g)) = some ((3, 0), mk E c s (hh g)) := by
  rw [r56_5, cmp_ge]
  by_cases q : 1000 ≤ i
  · rw [if_pos q]
  · rw [if_neg q, call0 (c58f X E c s h d _), push0, r56_11, cmp_eq, if_pos rfl]
theorem c55fl {F : Int} (h : FA g F) (d : Nat) (x i : Int) (w : MV) : Ev prog clsT X (d + 1) mc55 5 [(2, 9), (0, x), (0, i), w] [] (mk E c s (hh g)) = some ((3, 0), mk E c s (hh g)) := by
  rw [r55_5, cmp_ge]
  by_cases q : 1000 ≤ i
  · rw [if_pos q]
  · rw [if_neg q, call0 (c58f X E c s h d _), push0, r55_11, cmp_ne, if_neg (fun z => z rfl), call0 (c58f X E c s h d _), push0, r55_15, cmp_eq, if_pos rfl]
theorem c55f {F : Int} (h : FA g F) (d : Nat) (x : Int) : Call prog clsT X (d + 4) 55 [(2, 9), (0, x)] (mk E c s (hh g)) = some ((3, 0), mk E c s (hh g)) := by
  rw [rc55_, call3 (c56f X E c s h d x), push3, r55_3]
  exact c55fl X E c s h (d + 2) x 0 _
theorem c54ft {F : Int} (h : FA g F) (d : Nat) (x : Int) : Ev prog clsT X (d + 1) mc54 3 [(2, 9), (0, x), (3, 0)] [] (mk E c s (hh g)) = some ((3, 0), mk E c s (hh g)) := by
  rw [r54_3, call0 (c58f X E c s h d _), push0, r54_6, cmp_ne, if_neg (fun z => z rfl), call0 (c58f X E c s h d _), push0, r54_10, cmp_eq, if_pos rfl, r54_28]
theorem c54f {F : Int} (h : FA g F) (d : Nat) (x : Int) : Call prog clsT X (d + 5) 54 [(2, 9), (0, x)] (mk E c s (hh g)) = some ((3, 0), mk E c s (hh g)) := by
  rw [rc54_, call3 (c55f X E c s h d x), push3]
  exact c54ft X E c s h (d + 3) x
theorem c53fl {F : Int} (h : FA g F) (d : Nat) (x i : Int) (w : MV) : Ev prog clsT X (d + 1) mc53 5 [(2, 9), (0, x), (0, i), w] [] (mk E c s (hh g)) = some ((3, 0), mk E c s (hh g)) := by
  rw [r53_5, cmp_ge]
  by_cases q : 1000 ≤ i
  · rw [if_pos q]
  · rw [if_neg q, call0 (c50f X E c s h d _), push0, r53_11, cmp_ne, if_neg (fun z => z rfl), call0 (c50f X E c s h d _), push0, r53_15, cmp_eq, if_pos rfl]
theorem c53f {F : Int} (h : FA g F) (d : Nat) (x : Int) : Call prog clsT X (d + 6) 53 [(2, 9), (0, x)] (mk E c s (hh g)) = some ((3, 0), mk E c s (hh g)) := by
  rw [rc53_, call3 (c54f X E c s h d x), push3, r53_3]
  exact c53fl X E c s h (d + 4) x 0 _
end RULES
