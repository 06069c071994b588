/-! Part 9sa: the class's state alone, the reference's state alone: which entries stand is told apart. -/
def scC (x i : Nat) : Bool := if x = 104 then true else scq x i
def scM (x i : Nat) : Bool := if x = 30 then true else scq x i
/-- the class's side: but for what stands on the reference's -/
def onC (g u : Gm) : Prop := ∀ x i, scC x i = false → u x i = g x i
/-- the reference's side: but for what stands on the class's -/
def onM (g u : Gm) : Prop := ∀ x i, scM x i = false → u x i = g x i
theorem onC_refl (g : Gm) : onC g g := fun _ _ _ => rfl
theorem onM_refl (g : Gm) : onM g g := fun _ _ _ => rfl
theorem C_of {g u : Gm} (h : onQ g u) : onC g u := fun x i hs => h x i (by
  unfold scC at hs
  split at hs
  · cases hs
  · exact hs)
theorem M_of {g u : Gm} (h : onQ g u) : onM g u := fun x i hs => h x i (by
  unfold scM at hs
  split at hs
  · cases hs
  · exact hs)
/-- what the class's and the reference's own asking may change -/
def clQ (g u : Gm) : Prop := ∀ x i, ¬ (x = 28 ∨ x = 29 ∨ x = 56 ∨ x = 58 ∨ x = 59) → u x i = g x i
def rfQ (g u : Gm) : Prop := ∀ x i, ¬ (117 ≤ x ∧ x ≤ 126) → u x i = g x i
theorem clQ_refl (g : Gm) : clQ g g := fun _ _ _ => rfl
theorem rfQ_refl (g : Gm) : rfQ g g := fun _ _ _ => rfl
theorem clQ_tr {g u v : Gm} (h : clQ g u) (h2 : clQ u v) : clQ g v := fun x i a => (h2 x i a).trans (h x i a)
theorem rfQ_tr {g u v : Gm} (h : rfQ g u) (h2 : rfQ u v) : rfQ g v := fun x i a => (h2 x i a).trans (h x i a)
theorem clQ_28 {g : Gm} {l : List Int} : clQ g (wr 28 0 11 g l) := fun x i hs => wr_ne (fun q => hs (Or.inl q))
theorem rfQ_126 {g : Gm} {l : List Int} : rfQ g (wr 126 1 11 g l) := fun x i hs => wr_ne (fun q => hs (by omega))
theorem clQ_29 {g u : Gm} (h : off29 g u) : clQ g u := fun x i hs => h x i (fun q => hs (Or.inr (Or.inl q)))
theorem rfQ_R {g u : Gm} (h : offR g u) : rfQ g u := fun x i hs => h x i (fun q => hs (by omega))
/-- the cells that places are given in stay -/
def off2 (g u : Gm) : Prop := ∀ x i, x ≠ 28 → x ≠ 29 → u x i = g x i
theorem off2_refl (g : Gm) : off2 g g := fun _ _ _ _ => rfl
theorem off2_tr {g u v : Gm} (h : off2 g u) (h2 : off2 u v) : off2 g v := fun x i a b => (h2 x i a b).trans (h x i a b)
theorem off2_28 {g : Gm} {l : List Int} : off2 g (wr 28 0 11 g l) := fun x i hs _ => wr_ne hs
theorem off2_29 {g u : Gm} (h : off29 g u) : off2 g u := fun x i _ b => h x i b
theorem off2_cl {g u : Gm} (h : off2 g u) : clQ g u := fun x i hs => h x i (fun q => hs (by omega)) (fun q => hs (by omega))
theorem sq_cl {x i : Nat} (h : scq x i = false) : ¬ (x = 28 ∨ x = 29 ∨ x = 56 ∨ x = 58 ∨ x = 59) := fun q => by
  rcases q with z | z | z | z | z <;> rw [z] at h <;> cases h
theorem sq_rf {x i : Nat} (h : scq x i = false) : ¬ (117 ≤ x ∧ x ≤ 126) := fun q => by
  have : x = 117 ∨ x = 118 ∨ x = 119 ∨ x = 120 ∨ x = 121 ∨ x = 122 ∨ x = 123 ∨ x = 124 ∨ x = 125 ∨ x = 126 := by omega
  rcases this with z | z | z | z | z | z | z | z | z | z <;> rw [z] at h <;> cases h
theorem sC_q {x i : Nat} (h : scC x i = false) : scq x i = false := by
  unfold scC at h
  split at h
  · cases h
  · exact h
theorem sM_q {x i : Nat} (h : scM x i = false) : scq x i = false := by
  unfold scM at h
  split at h
  · cases h
  · exact h
theorem onC_cl {g u v : Gm} (h : onC g u) (h2 : clQ u v) : onC g v := fun x i hs => (h2 x i (sq_cl (sC_q hs))).trans (h x i hs)
theorem onM_rf {g u v : Gm} (h : onM g u) (h2 : rfQ u v) : onM g v := fun x i hs => (h2 x i (sq_rf (sM_q hs))).trans (h x i hs)
theorem onQ_cl {g u v : Gm} (h : onQ g u) (h2 : clQ u v) : onQ g v := fun x i hs => (h2 x i (sq_cl hs)).trans (h x i hs)
theorem onQ_rf {g u v : Gm} (h : onQ g u) (h2 : rfQ u v) : onQ g v := fun x i hs => (h2 x i (sq_rf hs)).trans (h x i hs)
theorem onC_2 {g u v : Gm} (h : onC g u) (h2 : off2 u v) : onC g v := onC_cl h (off2_cl h2)
theorem onQ_2 {g u v : Gm} (h : onQ g u) (h2 : off2 u v) : onQ g v := onQ_cl h (off2_cl h2)
theorem onC_up {g u : Gm} {x i : Nat} {v : Int} (h : onC g u) (hs : scC x i = true) : onC g (up u x i v) := fun y j a => by
  rw [up_ne (fun q => by rw [q.1, q.2, hs] at a; cases a)]; exact h y j a
theorem onM_up {g u : Gm} {x i : Nat} {v : Int} (h : onM g u) (hs : scM x i = true) : onM g (up u x i v) := fun y j a => by
  rw [up_ne (fun q => by rw [q.1, q.2, hs] at a; cases a)]; exact h y j a
theorem onC_cell {g u u' : Gm} {a : Nat} (h : onC g u) (ha : ∀ i, scC a i = true) (e : ∀ x i, x ≠ a → u' x i = u x i) : onC g u' := fun y j q => by
  rw [e y j (fun z => by rw [z, ha j] at q; cases q)]; exact h y j q
theorem RX_C (x i : Nat) (h : sRX x i = true) : scC x i = false := by
  unfold scC
  rw [if_neg (fun z => by rw [z] at h; cases h)]
  exact scr_RX x i h
theorem RX_M (x i : Nat) (h : sRX x i = true) : scM x i = false := by
  unfold scM
  rw [if_neg (fun z => by rw [z] at h; cases h)]
  exact scr_RX x i h
theorem sameR_C {g u : Gm} (h : onC g u) : sameR g u := fun x i hs => h x i (RX_C x i hs)
theorem sameR_M {g u : Gm} (h : onM g u) : sameR g u := fun x i hs => h x i (RX_M x i hs)
theorem RV_C (x i : Nat) (h : sRV x i = true) : scC x i = false := by
  unfold scC
  rw [if_neg (fun z => by rw [z] at h; cases h)]
  exact scq_of (scr_RV x i h)
theorem nE_M {g u : Gm} (h : onM g u) : nE u = nE g := by unfold nE; rw [h 89 10 rfl]
theorem stOf_M {g u : Gm} (h : onM g u) (x k : Int) : stOf u x k = stOf g x k := by
  unfold stOf
  rw [nE_M h]
  exact sm_congr (fun i _ => by rw [h 104 i rfl, h 99 i rfl, h 100 i rfl])
section CLASS
variable (X : MExt) {E : List (Nat × Nat)} (c s : Nat) {g : Gm}
theorem c20x (h : RE g) {u : Gm} (hu : onC g u) (d : Nat) (x : Int) : Call prog clsT X (d + 1) 20 [(2, 30), (0, x)] (mk E c s (hh u)) = some ((0, bI (0 ≤ x ∧ x < nE g)), mk E c s (hh u)) := by
  have hn : u 30 0 = nE g := (hu 30 0 rfl).trans h.n
  rw [rc20_]
  simp only [cmp_lt, cmp_ge, hn]
  have := h.le
  split
  · rw [bI_f (by omega)]
  · split
    · rw [bI_f (by omega)]
    · split
      · omega
      · rw [bI_t (by omega)]
theorem c19x (h : RE g) {u : Gm} (hu : onC g u) (d : Nat) (x : Int) : Call prog clsT X (d + 2) 19 [(2, 30), (0, x)] (mk E c s (hh u)) = some ((0, bI (0 ≤ x ∧ x < nE g ∧ g 104 x.toNat = 0)), mk E c s (hh u)) := by
  rw [rc19_, call0 (c20x X c s h hu d x), push0, r19_3]
  simp only [cmp_eq, bI_eq0, hu 30 1 rfl]
  by_cases h1 : 0 ≤ x ∧ x < nE g
  · rw [if_neg (fun q => q h1)]
    obtain ⟨k, rfl⟩ := Int.eq_ofNat_of_zero_le h1.1
    have hk : k < nE g := by omega
    have := h.le
    rw [bit_at _ _ (by omega), lc0, h.2.2.2.2.1 k (by omega), dec_not]
    by_cases h2 : g 104 k = 0
    · rw [if_neg (fun q => q ⟨hk, h2⟩), bI_t ⟨h1.1, h1.2, h2⟩]
    · rw [if_pos (fun q => h2 q.2), bI_f (fun q => h2 q.2.2)]
  · rw [if_pos h1, bI_f (fun q => h1 ⟨q.1, q.2.1⟩)]
theorem c22x (h : RE g) {u : Gm} (hu : onC g u) (d : Nat) (x k : Int) : Call prog clsT X (d + 2) 22 [(2, 30), (0, x), (0, k)] (mk E c s (hh u)) = some ((0, bI (0 ≤ x ∧ x < nE g ∧ g 104 x.toNat = 0 ∧ g 99 x.toNat = k)), mk E c s (hh u)) := by
  rw [rc22_, call0 (c20x X c s h hu d x), push0, r22_3]
  simp only [cmp_eq, cmp_ne, bI_eq0, inb_is, hu 30 1 rfl]
  by_cases h1 : 0 ≤ x ∧ x < nE g
  · rw [if_neg (fun q => q h1)]
    obtain ⟨j, rfl⟩ := Int.eq_ofNat_of_zero_le h1.1
    have hk : j < nE g := by omega
    have := h.le
    rw [bit_at _ _ (by omega), lc0, h.2.2.2.2.1 j (by omega), dec_not, hu 31 _ rfl, h.2.2.2.2.2.1, Int.toNat_natCast]
    by_cases h2 : g 104 j = 0
    · rw [if_neg (fun q => q ⟨hk, h2⟩), if_pos (by omega)]
      by_cases h3 : g 99 j = k
      · rw [if_neg (fun q => q h3), bI_t ⟨h1.1, h1.2, h2, h3⟩]
      · rw [if_pos h3, bI_f (fun q => h3 q.2.2.2)]
    · rw [if_pos (fun q => h2 q.2), bI_f (fun q => h2 q.2.2.1)]
  · rw [if_pos h1, bI_f (fun q => h1 ⟨q.1, q.2.1⟩)]
theorem c23x (h : RE g) {u : Gm} (hu : onC g u) (d : Nat) (x k : Int) : Call prog clsT X (d + 3) 23 [(2, 30), (0, x), (0, k)] (mk E c s (hh u)) = some ((0, stOf g x k), mk E c s (hh u)) := by
  rw [rc23_]
  have hle := h.le
  have hn : u 30 0 = nE g := (hu 30 0 rfl).trans h.n
  have loop : ∀ (m i : Nat), i + m = nE g → Ev prog clsT X (d + 2) mc23 4 [(2, 30), (0, x), (0, k), (0, sm (fun e => bI (g 104 e = 0 ∧ g 99 e = k ∧ g 100 e = x)) i), (0, (i : Int))] [] (mk E c s (hh u)) = some ((0, stOf g x k), mk E c s (hh u)) := by
    intro m
    induction m with
    | zero =>
      intro i hi
      rw [r23_4, cmp_ge, hn, if_pos (by omega), show i = nE g by omega]
      rfl
    | succ m ih =>
      intro i hi
      rw [r23_4, cmp_ge, hn, if_neg (by omega), call0 (c22x X c s h hu d i k), push0, r23_13, cmp_eq, bI_eq0, w32_succ (by omega), Int.toNat_natCast, inb_is, if_pos (show 0 ≤ (i : Int) ∧ (i : Int) < (40 : Nat) by omega), cmp_ne, hu 32 _ rfl, h.2.2.2.2.2.2.1]
      have hst : ∀ v, v = bI (g 104 i = 0 ∧ g 99 i = k ∧ g 100 i = x) → w32 (sm (fun e => bI (g 104 e = 0 ∧ g 99 e = k ∧ g 100 e = x)) i + v) = sm (fun e => bI (g 104 e = 0 ∧ g 99 e = k ∧ g 100 e = x)) (i + 1) := fun v hv => sm_step 1 hv (fun j _ => bI_b _) (by omega) (by omega)
      by_cases h1 : g 104 i = 0 ∧ g 99 i = k
      · rw [if_neg (fun q => q ⟨by omega, by omega, h1.1, h1.2⟩)]
        by_cases h2 : g 100 i = x
        · rw [if_neg (fun q => q h2), hst 1 (bI_t ⟨h1.1, h1.2, h2⟩).symm]
          exact ih (i + 1) (by omega)
        · rw [if_pos h2, hst 0 (bI_f (fun q => h2 q.2.2)).symm]
          exact ih (i + 1) (by omega)
      · rw [if_pos (fun q => h1 ⟨q.2.2.1, q.2.2.2⟩), hst 0 (bI_f (fun q => h1 ⟨q.1, q.2.1⟩)).symm]
        exact ih (i + 1) (by omega)
  exact loop (nE g) 0 (by omega)
end CLASS
