/-! Part 9s: the facts of an entry: the reference; the state under scratch. -/
/-- scratch but for the reader's own -/
def scq (x i : Nat) : Bool := if x = 9 then false else scr x i
theorem scq_of {x i : Nat} (h : scr x i = false) : scq x i = false := by
  unfold scq; split
  · rfl
  · exact h
/-- what is scratch may change -/
def onQ (g u : Gm) : Prop := ∀ x i, scq x i = false → u x i = g x i
theorem onQ_refl (g : Gm) : onQ g g := fun _ _ _ => rfl
theorem onQ_tr {g u v : Gm} (h : onQ g u) (h2 : onQ u v) : onQ g v := fun x i a => (h2 x i a).trans (h x i a)
theorem onQ_up {g u : Gm} {x i : Nat} {v : Int} (h : onQ g u) (hs : scq x i = true) : onQ g (up u x i v) := fun y j a => by
  rw [up_ne (fun q => by rw [q.1, q.2, hs] at a; cases a)]; exact h y j a
theorem onQ_cell {g u u' : Gm} {a : Nat} (h : onQ g u) (ha : ∀ i, scq a i = true) (e : ∀ x i, x ≠ a → u' x i = u x i) : onQ g u' := fun y j q => by
  rw [e y j (fun z => by rw [z, ha j] at q; cases q)]; exact h y j q
theorem scr_fr {S : Nat → Nat → Bool} {g u : Gm} (h : onQ g u) (hS : ∀ x i, S x i = true → scq x i = false) : fr S g u := fun x i hs => h x i (hS x i hs)
theorem scr_RE (x i : Nat) (h : sRE x i = true) : scr x i = false := by
  unfold sRE at h
  split at h
  all_goals first | rfl | (simp at h; done) | (simp at h; subst h; rfl)
theorem scr_RV (x i : Nat) (h : sRV x i = true) : scr x i = false := by
  unfold sRV at h
  split at h
  all_goals first | rfl | (simp at h; done)
theorem scr_RJ (x i : Nat) (h : sRJ x i = true) : scr x i = false := by
  unfold sRJ at h
  split at h
  all_goals first | rfl | (simp at h; done) | (simp at h; subst h; rfl)
theorem scr_RH (x i : Nat) (h : sRH x i = true) : scr x i = false := by
  unfold sRH at h
  split at h
  all_goals first | rfl | (simp at h; done)
theorem scr_RC (x i : Nat) (h : sRC x i = true) : scr x i = false := by
  unfold sRC at h
  split at h
  all_goals first | rfl | (simp at h; done) | (simp at h; rcases h with h | h <;> subst h <;> rfl)
theorem scr_RQ (x i : Nat) (h : sRQ x i = true) : scr x i = false := by
  unfold sRQ at h
  split at h
  all_goals first | rfl | (simp at h; done) | (simp at h; subst h; rfl)
theorem scr_RX (x i : Nat) (h : sRX x i = true) : scq x i = false := by
  by_cases h9 : x = 9
  · unfold scq; rw [if_pos h9]
  refine scq_of ?_
  by_cases hx : 159 ≤ x
  · unfold scr
    split
    all_goals first | rfl | omega
  · unfold sRX at h
    rw [decide_eq_false hx, Bool.false_or] at h
    split at h
    all_goals first | rfl | exact absurd rfl h9 | (simp at h; done) | (simp at h; subst h; rfl) | (simp at h; rcases h with h | h <;> subst h <;> rfl)
/-- pieces told have a size; an entry has pieces, told ones -/
def RP2 (g : Gm) : Prop := (∀ p : Nat, p < 40 → g 94 p ≠ 0 → 1 ≤ g 97 p) ∧ (∀ e : Nat, e < nE g → (∃ p : Nat, p < 40 ∧ tb (g 101 e) p = true) ∧ ∀ p : Nat, p < 40 → tb (g 101 e) p = true → g 94 p ≠ 0) ∧ (∀ k : Nat, k < 10 → 0 ≤ g 130 k → g 127 (g 130 k).toNat ≠ 0) ∧ ∀ m : Nat, m < 4 → 0 < g 153 m → ∀ k : Nat, k < 10 → 0 ≤ g 157 (10 * m + k) → g 127 (g 157 (10 * m + k)).toNat ≠ 0
theorem RP2_fr {g g' : Gm} (h : RP2 g) (e94 : ∀ i, g' 94 i = g 94 i) (e97 : ∀ i, g' 97 i = g 97 i) (e101 : ∀ i, g' 101 i = g 101 i) (e10 : g' 89 10 = g 89 10) (e127 : ∀ i, g' 127 i = g 127 i) (e130 : ∀ i, g' 130 i = g 130 i) (e153 : ∀ i, g' 153 i = g 153 i) (e157 : ∀ i, g' 157 i = g 157 i) : RP2 g' := by
  have hn : nE g' = nE g := by unfold nE; rw [e10]
  refine ⟨fun p hp q => by rw [e97]; rw [e94] at q; exact h.1 p hp q, fun e he => ?_, fun k hk q => by rw [e127, e130]; rw [e130] at q; exact h.2.2.1 k hk q, fun m hm hp k hk q => by rw [e127, e157]; rw [e157] at q; rw [e153] at hp; exact h.2.2.2 m hm hp k hk q⟩
  rw [hn] at he
  obtain ⟨⟨p, h1, h2⟩, h3⟩ := h.2.1 e he
  refine ⟨⟨p, h1, by rw [e101]; exact h2⟩, fun q hq hb => ?_⟩
  rw [e101] at hb
  rw [e94]
  exact h3 q hq hb
def ST (N : Int) (E : List (Nat × Nat)) (g : Gm) : Prop := INV N E g ∧ RP2 g
theorem I0_Q {g u : Gm} (h : I0 g) (e : onQ g u) : I0 u := ⟨h.1.fr (scr_fr e (fun x i h => scq_of (scr_RE x i h))), h.2.1.fr (scr_fr e (fun x i h => scq_of (scr_RV x i h))), h.2.2.1.fr (scr_fr e (fun x i h => scq_of (scr_RJ x i h))), h.2.2.2.1.fr (scr_fr e (fun x i h => scq_of (scr_RH x i h))), h.2.2.2.2.1.fr (scr_fr e (fun x i h => scq_of (scr_RC x i h))), h.2.2.2.2.2.fr (scr_fr e (fun x i h => scq_of (scr_RQ x i h)))⟩
theorem ST_Q {N : Int} {E : List (Nat × Nat)} {g u : Gm} (h : ST N E g) (e : onQ g u) : ST N E u := by
  obtain ⟨⟨i0, ib, it, is, iu⟩, ip⟩ := h
  have eX := scr_fr e scr_RX
  have hn : u 89 10 = g 89 10 := e 89 10 rfl
  refine ⟨⟨I0_Q i0 e, RB_frX ib eX, ?_, RS_fr is (fun x i hx => ?_) (by rw [hn]; exact Int.le_refl _), RU_X iu eX⟩, RP2_fr ip (fun i => e 94 i rfl) (fun i => e 97 i rfl) (fun i => e 101 i rfl) hn (fun i => e 127 i rfl) (fun i => e 130 i rfl) (fun i => e 153 i rfl) (fun i => e 157 i rfl)⟩
  · obtain ⟨t1, t2, t3, t4⟩ := it
    have e17 : u 89 17 = g 89 17 := e 89 17 rfl
    refine ⟨by rw [e 9 1 rfl, e17]; exact t1, by rw [e17]; exact t2, by rw [e17]; exact t3, fun i hi => ?_⟩
    rw [e17] at hi
    rw [e 10 i rfl, e 105 i rfl]
    exact t4 i hi
  · have hs : scq x i = false := by
      refine scq_of ?_
      rcases hx with q | q | q
      · have : x = 72 ∨ x = 73 ∨ x = 74 ∨ x = 75 ∨ x = 76 ∨ x = 77 ∨ x = 78 ∨ x = 79 ∨ x = 80 ∨ x = 81 ∨ x = 82 ∨ x = 83 ∨ x = 84 ∨ x = 85 := by omega
        rcases this with z | z | z | z | z | z | z | z | z | z | z | z | z | z <;> subst z <;> rfl
      · have : x = 153 ∨ x = 154 ∨ x = 155 ∨ x = 156 ∨ x = 157 := by omega
        rcases this with z | z | z | z | z <;> subst z <;> rfl
      · rw [q.1, q.2]; rfl
    exact e x i hs
theorem sameR_Q {g u : Gm} (h : onQ g u) : sameR g u := scr_fr h scr_RX
section LAYS
variable (X : MExt) (E : List (Nat × Nat)) (c s : Nat) {g : Gm}
theorem w126 {l : List Int} {j : Nat} {v : Int} (hl : l.length = 11) (h1 : 1 ≤ j) (h2 : j < 12) : up (wr 126 1 11 g l) 126 j v = wr 126 1 11 g (l.set (j - 1) v) := by
  have := wr_up (a := 126) (b := 1) (g := g) (v := v) (i := j - 1) hl (by omega)
  rw [show 1 + (j - 1) = j by omega] at this
  exact this
theorem w126_at {l : List Int} {j : Nat} (h1 : 1 ≤ j) (h2 : j < 12) : wr 126 1 11 g l 126 j = l.getD (j - 1) 0 := by
  have := wr_at (a := 126) (b := 1) (n := 11) (g := g) (l := l) (i := j - 1) (by omega)
  rw [show 1 + (j - 1) = j by omega] at this
  exact this
/-- Model.standing -/
theorem m190 (h : RN g) (d : Nat) (k x : Int) (hx : 0 ≤ x) : Call prog clsT X (d + 1) 190 [(2, 89), (0, k), (0, x)] (mk E c s (hh g)) = some ((0, stOf g x k), mk E c s (hh g)) := by
  rw [rc190_]
  have hle := h.le
  have loop : ∀ (m i : Nat), i + m = nE g → Ev prog clsT X d mc190 4 [(2, 89), (0, k), (0, x), (0, sm (fun e => bI (g 104 e = 0 ∧ g 99 e = k ∧ g 100 e = x)) i), (0, (i : Int))] [] (mk E c s (hh g)) = some ((0, stOf g x k), mk E c s (hh g)) := by
    intro m
    induction m with
    | zero => intro i hi; rw [r190_4, cmp_ge, h.n2, if_pos (by omega), show i = nE g by omega]; rfl
    | succ m ih =>
      intro i hi
      have hst : ∀ v, v = bI (g 104 i = 0 ∧ g 99 i = k ∧ g 100 i = x) → w32 (sm (fun e => bI (g 104 e = 0 ∧ g 99 e = k ∧ g 100 e = x)) i + v) = sm (fun e => bI (g 104 e = 0 ∧ g 99 e = k ∧ g 100 e = x)) (i + 1) := fun v hv => sm_step 1 hv (fun j _ => bI_b _) (by omega) (by omega)
      rw [r190_4, cmp_ge, h.n2, if_neg (by omega), inb_is, if_pos (by omega), Int.toNat_natCast, cmp_ne, w32_succ (by omega)]
      by_cases q1 : g 104 i = 0
      · rw [if_neg (fun z => z q1), inb_is, if_pos (by omega), cmp_ne]
        by_cases q2 : g 99 i = k
        · rw [if_neg (fun z => z q2), cmp_eq, if_neg (by omega), inb_is, if_pos (by omega), cmp_ne]
          by_cases q3 : g 100 i = x
          · rw [if_neg (fun z => z q3), hst 1 (bI_t ⟨q1, q2, q3⟩).symm]; exact ih (i + 1) (by omega)
          · rw [if_pos q3, hst 0 (bI_f (fun z => q3 z.2.2)).symm]; exact ih (i + 1) (by omega)
        · rw [if_pos q2, hst 0 (bI_f (fun z => q2 z.2.1)).symm]; exact ih (i + 1) (by omega)
      · rw [if_pos q1, hst 0 (bI_f (fun z => q1 z.1)).symm]; exact ih (i + 1) (by omega)
  exact loop (nE g) 0 (by omega)
theorem m190n (h : RN g) (d : Nat) (k : Int) : Call prog clsT X (d + 1) 190 [(2, 89), (0, k), (0, -1)] (mk E c s (hh g)) = some ((0, stIn g k), mk E c s (hh g)) := by
  rw [rc190_]
  have hle := h.le
  have loop : ∀ (m i : Nat), i + m = nE g → Ev prog clsT X d mc190 4 [(2, 89), (0, k), (0, -1), (0, sm (fun e => bI (g 104 e = 0 ∧ g 99 e = k)) i), (0, (i : Int))] [] (mk E c s (hh g)) = some ((0, stIn g k), mk E c s (hh g)) := by
    intro m
    induction m with
    | zero => intro i hi; rw [r190_4, cmp_ge, h.n2, if_pos (by omega), show i = nE g by omega]; rfl
    | succ m ih =>
      intro i hi
      have hst : ∀ v, v = bI (g 104 i = 0 ∧ g 99 i = k) → w32 (sm (fun e => bI (g 104 e = 0 ∧ g 99 e = k)) i + v) = sm (fun e => bI (g 104 e = 0 ∧ g 99 e = k)) (i + 1) := fun v hv => sm_step 1 hv (fun j _ => bI_b _) (by omega) (by omega)
      rw [r190_4, cmp_ge, h.n2, if_neg (by omega), inb_is, if_pos (by omega), Int.toNat_natCast, cmp_ne, w32_succ (by omega)]
      by_cases q1 : g 104 i = 0
      · rw [if_neg (fun z => z q1), inb_is, if_pos (by omega), cmp_ne]
        by_cases q2 : g 99 i = k
        · rw [if_neg (fun z => z q2), cmp_eq, if_pos rfl, hst 1 (bI_t ⟨q1, q2⟩).symm]; exact ih (i + 1) (by omega)
        · rw [if_pos q2, hst 0 (bI_f (fun z => q2 z.2)).symm]; exact ih (i + 1) (by omega)
      · rw [if_pos q1, hst 0 (bI_f (fun z => q1 z.1)).symm]; exact ih (i + 1) (by omega)
  exact loop (nE g) 0 (by omega)
/-- the facts as the reference lays them -/
def rowX (g : Gm) (k x : Nat) (P am : Int) : List Int := rowP (stM g P (g 108 k) 40) (bits40 (stM g P (g 108 k) 40).2.1) [g 92 x, g 91 x, if g 93 x = 0 then 0 else 1, am]
def clM (g : Gm) (n : Nat) : Gm := fun x i => if x = 126 ∧ 1 ≤ i ∧ i < 1 + n then 0 else g x i
/-- Model.lays -/
theorem m191 {k x : Nat} (hk : k < 13) (hx : x < 10) (hw : (g 107 k ≤ 0 → g 108 k = 10) ∧ (0 < g 107 k → g 108 k ≠ 10)) (d : Nat) (P am : Int) : Call prog clsT X (d + 2) 191 [(2, 89), (0, (k : Int)), (0, (x : Int)), (1, P), (0, am)] (mk E c s (hh g)) = some ((3, 0), mk E c s (hh (wr 126 1 11 g (rowX g k x P am)))) := by
  have l0 : ∀ (m i : Nat) (w4 : MV), i + m = 8 → 1 ≤ i → Ev prog clsT X (d + 1) mc191 8 [(2, 89), (0, (k : Int)), (0, (x : Int)), (1, P), w4, (0, am), (0, 0), (0, 100), (0, 0), (0, (i : Int))] [] (mk E c s (hh (clM g (i - 1)))) = Ev prog clsT X (d + 1) mc191 25 [(2, 89), (0, (k : Int)), (0, (x : Int)), (1, P), (3, 0), (0, am), (0, 0), (0, 100), (0, 0), (0, 0)] [] (mk E c s (hh (up (clM g 7) 126 7 9))) := by
    intro m
    induction m with
    | zero => intro i w4 hi h1; rw [r191_8, cmp_ge, if_pos (by omega), show i = 8 by omega]
    | succ m ih =>
      intro i w4 hi h1
      have e : up (clM g (i - 1)) 126 i 0 = clM g (i + 1 - 1) := by
        funext y j
        unfold up clM
        by_cases q : y = 126 ∧ j = i
        · rw [if_pos q, if_pos ⟨q.1, by omega, by omega⟩]
        · rw [if_neg q]
          by_cases q2 : y = 126 ∧ 1 ≤ j ∧ j < 1 + (i - 1)
          · rw [if_pos q2, if_pos ⟨q2.1, q2.2.1, by omega⟩]
          · rw [if_neg q2, if_neg (by omega)]
      rw [r191_8, cmp_ge, if_neg (by omega), inb_is, if_pos (by omega), Int.toNat_natCast, e, w32_succ (by omega)]
      exact ih (i + 1) _ (by omega) (by omega)
  have e0 : clM g (1 - 1) = g := by funext y j; exact if_neg (by omega)
  have h8 := l0 7 1 (3, 0) (by omega) (by omega)
  rw [e0] at h8
  have e7 : up (clM g 7) 126 7 9 = wr 126 1 11 g (rowL (0, 0, 0, 0, 0, 9, 100, 0) [g 126 8, g 126 9, g 126 10, g 126 11]) := by
    funext y j
    unfold up clM wr
    by_cases q : y = 126 ∧ 1 ≤ j ∧ j < 1 + 11
    · rw [if_pos q]
      obtain ⟨rfl, q1, q2⟩ := q
      have : j = 1 ∨ j = 2 ∨ j = 3 ∨ j = 4 ∨ j = 5 ∨ j = 6 ∨ j = 7 ∨ j = 8 ∨ j = 9 ∨ j = 10 ∨ j = 11 := by omega
      rcases this with z | z | z | z | z | z | z | z | z | z | z <;> subst z <;> rfl
    · rw [if_neg q, if_neg (by omega), if_neg (by omega)]
  have h8 : Ev prog clsT X (d + 1) mc191 8 [(2, 89), (0, (k : Int)), (0, (x : Int)), (1, P), (3, 0), (0, am), (0, 0), (0, 100), (0, 0), (0, 1)] [] (mk E c s (hh g)) = _ := h8
  rw [rc191_, h8, e7]
  generalize ht : [g 126 8, g 126 9, g 126 10, g 126 11] = t0
  have ht4 : ∀ a : St, (rowL a t0).length = 11 := fun a => by rw [← ht]; rfl
  unfold rowX
  generalize hwv : g 108 k = w at hw ⊢
  have loop : ∀ (m i : Nat) (w4 : MV), i + m = 40 → Ev prog clsT X (d + 1) mc191 25 [(2, 89), (0, (k : Int)), (0, (x : Int)), (1, P), w4, (0, am), (0, (stM g P w i).2.1), (0, (stM g P w i).2.2.2.2.2.2.1), (0, (stM g P w i).2.2.2.2.2.2.2), (0, (i : Int))] [] (mk E c s (hh (wr 126 1 11 g (rowL (stM g P w i) t0)))) = some ((3, 0), mk E c s (hh (wr 126 1 11 g (rowP (stM g P w 40) (bits40 (stM g P w 40).2.1) [g 92 x, g 91 x, if g 93 x = 0 then 0 else 1, am])))) := by
    intro m
    induction m with
    | zero =>
      intro i w4 hi
      have hi : i = 40 := by omega
      subst hi
      rw [r191_25, cmp_ge, if_pos (by decide), call0 (m158 X E c s d _), push0, r191_135, inb_is, if_pos (by decide), inb_is, if_pos (by omega), inb_is, if_pos (by omega), inb_is, if_pos (by omega), Int.toNat_natCast, wr_ne (by decide), wr_ne (by decide), wr_ne (by decide), cmp_eq]
      rw [← ht]
      by_cases q : g 93 x = 0
      · rw [if_pos q, if_pos q]
        show some (((3 : Nat), (0 : Int)), mk E c s (hh (up (up (up (up (up (up (wr 126 1 11 g _) 126 2 _) 126 5 _) 126 8 _) 126 9 _) 126 10 0) 126 11 am))) = _
        rw [w126 rfl (by decide) (by decide), w126 rfl (by decide) (by decide), w126 rfl (by decide) (by decide), w126 rfl (by decide) (by decide), w126 rfl (by decide) (by decide), w126 rfl (by decide) (by decide)]
        rfl
      · rw [if_neg q, if_neg q]
        show some (((3 : Nat), (0 : Int)), mk E c s (hh (up (up (up (up (up (up (wr 126 1 11 g _) 126 2 _) 126 5 _) 126 8 _) 126 9 _) 126 10 1) 126 11 am))) = _
        rw [w126 rfl (by decide) (by decide), w126 rfl (by decide) (by decide), w126 rfl (by decide) (by decide), w126 rfl (by decide) (by decide), w126 rfl (by decide) (by decide), w126 rfl (by decide) (by decide)]
        rfl
    | succ m ih =>
      intro i w4 hi
      have e : stM g P w (i + 1) = pst g P w i (stM g P w i) := rfl
      have hnx := ih (i + 1)
      rw [e] at hnx
      rw [r191_25, cmp_ge, if_neg (by omega), bit_at _ _ (by omega), cmp_ne, lcn0]
      by_cases q : tb P i = true
      · unfold pst at hnx
        rw [if_pos q] at hnx
        generalize stM g P w i = a at hnx ⊢
        obtain ⟨a1, a2, a3, a4, a5, a6, a7, a8⟩ := a
        dsimp only at hnx ⊢
        rw [if_pos q, inb_is, if_pos (by omega), Int.toNat_natCast, w126_at (by decide) (by decide), w126 (ht4 _) (by decide) (by decide)]
        rw [← ht] at hnx ⊢
        show Ev prog clsT X (d + 1) mc191 54 [(2, 89), (0, (k : Int)), (0, (x : Int)), (1, P), (3, 0), (0, am), (0, ior32 a2 (ishl32 1 (wr 126 1 11 g _ 96 i))), (0, a7), (0, a8), (0, (i : Int))] [] (mk E c s (hh (wr 126 1 11 g [w32 (a1 + 1), 0, a3, a4, 0, a5, a6, g 126 8, g 126 9, g 126 10, g 126 11]))) = _
        rw [wr_ne (by decide)]
        have go89 : ∀ (o : Int), Ev prog clsT X (d + 1) mc191 89 [(2, 89), (0, (k : Int)), (0, (x : Int)), (1, P), (3, 0), (0, am), (0, ior32 a2 (ishl32 1 (g 96 i))), (0, a7), (0, a8), (0, (i : Int))] [] (mk E c s (hh (wr 126 1 11 g [w32 (a1 + 1), 0, o, w32 (a4 + g 97 i), 0, a5, a6, g 126 8, g 126 9, g 126 10, g 126 11]))) = Ev prog clsT X (d + 1) mc191 25 [(2, 89), (0, (k : Int)), (0, (x : Int)), (1, P), (3, 0), (0, am), (0, ior32 a2 (ishl32 1 (g 96 i))), (0, if g 97 i < a7 then g 97 i else a7), (0, if a8 < g 97 i then g 97 i else a8), (0, ((i + 1 : Nat) : Int))] [] (mk E c s (hh (wr 126 1 11 g [w32 (a1 + 1), 0, o, w32 (a4 + g 97 i), 0, w32 (a5 + g 98 i), if g 98 i < a6 then g 98 i else a6, g 126 8, g 126 9, g 126 10, g 126 11]))) := fun o => by
          rw [r191_89, inb_is, if_pos (by omega), inb_is, if_pos (by omega), inb_is, if_pos (by omega), inb_is, if_pos (by omega), Int.toNat_natCast, w32_succ (by omega), w126_at (by decide) (by decide), w126_at (by decide) (by decide), wr_ne (by decide), wr_ne (by decide), w126 rfl (by decide) (by decide), w126 rfl (by decide) (by decide)]
          rfl
        have fin2 : ∀ (o : Int), o = w32 (a3 + if w ≠ 10 ∧ g 96 i ≠ w then 1 else 0) → Ev prog clsT X (d + 1) mc191 89 [(2, 89), (0, (k : Int)), (0, (x : Int)), (1, P), (3, 0), (0, am), (0, ior32 a2 (ishl32 1 (g 96 i))), (0, a7), (0, a8), (0, (i : Int))] [] (mk E c s (hh (wr 126 1 11 g [w32 (a1 + 1), 0, o, w32 (a4 + g 97 i), 0, a5, a6, g 126 8, g 126 9, g 126 10, g 126 11]))) = some ((3, 0), mk E c s (hh (wr 126 1 11 g (rowP (stM g P w 40) (bits40 (stM g P w 40).2.1) [g 92 x, g 91 x, if g 93 x = 0 then 0 else 1, am])))) := fun o ho => by
          rw [go89 o, ho]
          exact hnx (3, 0) (by omega)
        rw [r191_54, inb_is, if_pos (by omega), Int.toNat_natCast, wr_ne (by decide), cmp_le]
        by_cases q2 : g 107 k ≤ 0
        · have hw10 := hw.1 q2
          rw [if_pos q2, inb_is, if_pos (by omega), Int.toNat_natCast, w126_at (by decide) (by decide), w126_at (by decide) (by decide), wr_ne (by decide), w126 rfl (by decide) (by decide), w126 rfl (by decide) (by decide)]
          exact fin2 _ (by rw [if_neg (fun z => z.1 hw10)]; rfl)
        · have hw10 := hw.2 (by omega)
          rw [if_neg q2, inb_is, if_pos (by omega), inb_is, if_pos (by omega), Int.toNat_natCast, wr_ne (by decide), wr_ne (by decide), hwv, cmp_eq]
          by_cases q3 : g 96 i = w
          · rw [if_pos q3, inb_is, if_pos (by omega), w126_at (by decide) (by decide), w126_at (by decide) (by decide), wr_ne (by decide), w126 rfl (by decide) (by decide), w126 rfl (by decide) (by decide)]
            exact fin2 _ (by rw [if_neg (fun z => z.2 q3)]; rfl)
          · rw [if_neg q3, inb_is, if_pos (by omega), w126_at (by decide) (by decide), w126_at (by decide) (by decide), wr_ne (by decide), w126 rfl (by decide) (by decide), w126 rfl (by decide) (by decide)]
            exact fin2 _ (by rw [if_pos ⟨hw10, q3⟩]; rfl)
      · unfold pst at hnx
        rw [if_neg q] at hnx
        rw [if_neg q, w32_succ (by omega)]
        exact hnx _ (by omega)
  exact loop 40 0 (3, 0) (by omega)
end LAYS
