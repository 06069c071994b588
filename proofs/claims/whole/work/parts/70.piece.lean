/-! Part 70: schedules asked for; piece; kin. -/
theorem lc1 {p : Prop} [Decidable p] {α : Type} {a b : α} : (if ¬ (lcmpI (bI p) 1 = 0) then a else b) = if ¬ p then a else b := by
  unfold lcmpI bI
  split <;> simp_all
section PIECE
variable (X : MExt) (E : List (Nat × Nat)) (c s : Nat) {g : Nat → Nat → Int}
/-- VillageShow.scheduleOf -/
theorem c97 (d : Nat) (x : Int) : Call prog clsT X (d + 2) 97 [(2, 0), (0, x)] (mk E c s (hh g)) = some ((2, if 0 ≤ x ∧ x ≤ 9 then g 16 x.toNat else -1), mk E c s (hh g)) := by
  rw [rc97_, call0 (c90 X E c s d x 0 9), push0, r97_4]
  by_cases h : 0 ≤ x ∧ x ≤ 9
  · rw [cmp_eq, bI_eq0, if_neg (fun q => q h), inb_is, if_pos (by omega), if_pos h]
  · rw [cmp_eq, bI_eq0, if_pos h, if_neg h]
theorem c91 (h : RE g) (hv : RV g) (d : Nat) (x1 x2 x3 x4 x5 : Int) : Call prog clsT X (d + 5) 91 [(2, 0), (0, x1), (0, x2), (0, x3), (0, x4), (0, x5)] (mk E c s (hh g)) = if (0 ≤ x1 ∧ x1 ≤ 39) ∧ (0 ≤ x2 ∧ x2 ≤ 9 ∧ g 90 x2.toNat ≠ 0) ∧ (0 ≤ x3 ∧ x3 ≤ 9) ∧ (1 ≤ x4 ∧ x4 ≤ 99) ∧ (0 ≤ x5 ∧ x5 ≤ 9) ∧ ¬ (tb (laid g) x1.toNat = true) then some ((0, 1), mk E c s (hh (up (up (up (up g 5 x1.toNat x2) 6 x1.toNat x3) 7 x1.toNat x4) 8 x1.toNat x5))) else some ((0, 0), mk E c s (hh g)) := by
  rw [rc91_, call0 (c90 X E c s (d + 3) x1 0 39), push0, r91_4]
  by_cases h0 : 0 ≤ x1 ∧ x1 ≤ 39
  case neg => rw [cmp_eq, bI_eq0, if_pos h0, if_neg (fun q => h0 q.1)]
  rw [cmp_eq, bI_eq0, if_neg (fun q => q h0), call0 (c84 X E c s hv (d + 2) x2), push0, r91_9]
  by_cases h1 : 0 ≤ x2 ∧ x2 ≤ 9 ∧ g 90 x2.toNat ≠ 0
  case neg => rw [cmp_eq, bI_eq0, if_pos h1, if_neg (fun q => h1 q.2.1)]
  rw [cmp_eq, bI_eq0, if_neg (fun q => q h1), call0 (c90 X E c s (d + 3) x3 0 9), push0, r91_14]
  by_cases h2 : 0 ≤ x3 ∧ x3 ≤ 9
  case neg => rw [cmp_ne, bI_ne0, if_neg (fun q => q h2), if_neg (fun q => h2 q.2.2.1)]
  rw [cmp_ne, bI_ne0, if_pos (fun q => q h2), call0 (c90 X E c s (d + 3) x4 1 99), push0, r91_21]
  by_cases h3 : 1 ≤ x4 ∧ x4 ≤ 99
  case neg => rw [cmp_eq, bI_eq0, if_pos h3, if_neg (fun q => h3 q.2.2.2.1)]
  rw [cmp_eq, bI_eq0, if_neg (fun q => q h3), call0 (c90 X E c s (d + 3) x5 0 9), push0, r91_26]
  by_cases h4 : 0 ≤ x5 ∧ x5 ≤ 9
  case neg => rw [cmp_eq, bI_eq0, if_pos h4, if_neg (fun q => h4 q.2.2.2.2.1)]
  rw [cmp_eq, bI_eq0, if_neg (fun q => q h4), call1 (c18 X E c s h d), push1, r91_30]
  obtain ⟨k, rfl⟩ := Int.eq_ofNat_of_zero_le h0.1
  rw [bit_at _ _ (by omega), cmp_eq, lc0, Int.toNat_natCast]
  by_cases h5 : tb (laid g) k = true
  · rw [if_neg (fun q => q h5), if_neg (fun q => q.2.2.2.2.2 h5)]
  · rw [if_pos h5, inb_is, if_pos (by omega), inb_is, if_pos (by omega), inb_is, if_pos (by omega), inb_is, if_pos (by omega), if_pos ⟨h0, h1, h2, h3, h4, h5⟩]
theorem m153 (h : RN g) (d : Nat) (x1 x2 x3 x4 x5 : Int) : Call prog clsT X (d + 5) 153 [(2, 89), (0, x1), (0, x2), (0, x3), (0, x4), (0, x5)] (mk E c s (hh g)) = if (0 ≤ x1 ∧ x1 ≤ 39) ∧ (0 ≤ x2 ∧ x2 ≤ 9 ∧ g 90 x2.toNat ≠ 0) ∧ (0 ≤ x3 ∧ x3 ≤ 9) ∧ (1 ≤ x4 ∧ x4 ≤ 99) ∧ (0 ≤ x5 ∧ x5 ≤ 9) ∧ ¬ (tb (laid g) x1.toNat = true) then some ((0, 1), mk E c s (hh (up (up (up (up (up (up g 89 0 0) 94 x1.toNat (bit1 1)) 95 x1.toNat x2) 96 x1.toNat x3) 97 x1.toNat x4) 98 x1.toNat x5))) else some ((0, 0), mk E c s (hh (up g 89 0 0))) := by
  rw [rc153_, call0 (m152 X E c s (d + 3) x1 0 39), push0, r153_7]
  by_cases h0 : 0 ≤ x1 ∧ x1 ≤ 39
  case neg => rw [cmp_eq, bI_eq0, if_pos h0, if_neg (fun q => h0 q.1)]
  rw [cmp_eq, bI_eq0, if_neg (fun q => q h0), call0 (show Call prog clsT X (d + 4) 154 [(2, 89), (0, x2)] (mk E c s (hh (up g 89 0 0))) = some ((0, bI (0 ≤ x2 ∧ x2 ≤ 9 ∧ g 90 x2.toNat ≠ 0)), mk E c s (hh (up g 89 0 0))) from m154 X E c s (g := up g 89 0 0) (d + 2) x2), push0, r153_11]
  by_cases h1 : 0 ≤ x2 ∧ x2 ≤ 9 ∧ g 90 x2.toNat ≠ 0
  case neg => rw [cmp_eq, bI_eq0, if_pos h1, if_neg (fun q => h1 q.2.1)]
  rw [cmp_eq, bI_eq0, if_neg (fun q => q h1), call0 (m152 X E c s (d + 3) x3 0 9), push0, r153_16]
  by_cases h2 : 0 ≤ x3 ∧ x3 ≤ 9
  case neg => rw [cmp_eq, bI_eq0, if_pos h2, if_neg (fun q => h2 q.2.2.1)]
  rw [cmp_eq, bI_eq0, if_neg (fun q => q h2), call0 (m152 X E c s (d + 3) x4 1 99), push0, r153_21]
  by_cases h3 : 1 ≤ x4 ∧ x4 ≤ 99
  case neg => rw [cmp_eq, bI_eq0, if_pos h3, if_neg (fun q => h3 q.2.2.2.1)]
  rw [cmp_eq, bI_eq0, if_neg (fun q => q h3), call0 (m152 X E c s (d + 3) x5 0 9), push0, r153_26]
  by_cases h4 : 0 ≤ x5 ∧ x5 ≤ 9
  case neg => rw [cmp_ne, bI_ne0, if_neg (fun q => q h4), if_neg (fun q => h4 q.2.2.2.2.1)]
  rw [cmp_ne, bI_ne0, if_pos (fun q => q h4), call1 (show Call prog clsT X (d + 4) 155 [(2, 89)] (mk E c s (hh (up g 89 0 0))) = some ((1, laid (up g 89 0 0)), mk E c s (hh (up g 89 0 0))) from m155 X E c s (g := up g 89 0 0) h (d + 3)), push1, r153_31]
  obtain ⟨k, rfl⟩ := Int.eq_ofNat_of_zero_le h0.1
  have el : laid (up g 89 0 0) = laid g := by
    show laidTo (up g 89 0 0) (nE g) = laidTo g (nE g)
    have key : ∀ m, laidTo (up g 89 0 0) m = laidTo g m := by
      intro m
      induction m with
      | zero => rfl
      | succ m ih => show lor64 _ _ = lor64 _ _; rw [ih]; rfl
    exact key _
  rw [el, bit_at _ _ (by omega), cmp_ne, lc1, Int.toNat_natCast]
  by_cases h5 : tb (laid g) k = true
  · rw [if_neg (fun q => q h5), if_neg (fun q => q.2.2.2.2.2 h5)]
  · rw [if_pos h5, inb_is, if_pos (by omega), inb_is, if_pos (by omega), inb_is, if_pos (by omega), inb_is, if_pos (by omega), inb_is, if_pos (by omega), if_pos ⟨h0, h1, h2, h3, h4, h5⟩]
end PIECE
theorem laid_up {g : Nat → Nat → Int} {x i : Nat} {v : Int} (h : x ≠ 89 ∧ x ≠ 101 ∧ x ≠ 104) : laid (up g x i v) = laid g := by
  have hn : nE (up g x i v) = nE g := by unfold nE; rw [up_cell (fun q => h.1 q.symm)]
  unfold laid
  rw [hn]
  have key : ∀ m, laidTo (up g x i v) m = laidTo g m := by
    intro m
    induction m with
    | zero => rfl
    | succ m ih => show lor64 _ (if up g x i v 104 m = 0 then up g x i v 101 m else 0) = lor64 _ (if g 104 m = 0 then g 101 m else 0); rw [ih, up_cell (fun q => h.2.2 q.symm), up_cell (fun q => h.2.1 q.symm)]
  exact key _
theorem op_piece (X : MExt) (x1 x2 x3 x4 x5 : Int) : Op X 91 153 5 [(0, x1), (0, x2), (0, x3), (0, x4), (0, x5)] := by
  intro E c s d g h hb
  have el : laid (up (up (up (up g 5 x1.toNat x2) 6 x1.toNat x3) 7 x1.toNat x4) 8 x1.toNat x5) = laid g := by
    rw [laid_up (by decide), laid_up (by decide), laid_up (by decide), laid_up (by decide)]
  by_cases hc : (0 ≤ x1 ∧ x1 ≤ 39) ∧ (0 ≤ x2 ∧ x2 ≤ 9 ∧ g 90 x2.toNat ≠ 0) ∧ (0 ≤ x3 ∧ x3 ≤ 9) ∧ (1 ≤ x4 ∧ x4 ≤ 99) ∧ (0 ≤ x5 ∧ x5 ≤ 9) ∧ ¬ (tb (laid g) x1.toNat = true)
  case neg => exact ⟨0, _, _, (c91 X E c s h.1 h.2.1 d x1 x2 x3 x4 x5).trans (if_neg hc), (m153 X E c s h.1.rn d x1 x2 x3 x4 x5).trans (if_neg hc), I0_z h, fr_z⟩
  refine ⟨1, _, _, (c91 X E c s h.1 h.2.1 d x1 x2 x3 x4 x5).trans (if_pos hc), (m153 X E c s (g := up (up (up (up g 5 x1.toNat x2) 6 x1.toNat x3) 7 x1.toNat x4) 8 x1.toNat x5) h.1.rn d x1 x2 x3 x4 x5).trans (if_pos (by rw [el]; exact hc)), ⟨h.1.fr ?_, ?_, h.2.2.1.fr ?_, h.2.2.2.1.fr ?_, h.2.2.2.2.1.fr ?_, ?_⟩, ?_⟩
  case refine_2 =>
    obtain ⟨a1, a2, a3, a4, a5, a6, a7, a8, a9, a10, a11, a12, a13, a14, a15, a16, a17, a18⟩ := h.2.1
    refine ⟨a1, a2, a3, a4, a5, a6, a7, a8, fun i hi => ?_, fun i => ?_, fun i hi => ?_, fun i => ?_, fun i => ?_, fun i => ?_, fun i => ?_, fun i => ?_, fun i => ?_, fun i => ?_⟩
    all_goals
      have b9 := a9 i; have b10 := a10 i; have b11 := a11 i; have b12 := a12 i; have b13 := a13 i; have b14 := a14 i; have b15 := a15 i; have b16 := a16 i; have b17 := a17 i; have b18 := a18 i
      generalize x1.toNat = kk
      simp [up_at, up_cell, b1_1]
      by_cases q : i = kk
      · simp [q] <;> omega
      · simp [q] <;> omega
  case refine_6 =>
    obtain ⟨q1, q2, q3⟩ := h.2.2.2.2.2
    refine ⟨q1, fun p hp => ?_, q3⟩
    by_cases q : p = x1.toNat
    · subst q
      show g 90 (up g 95 x1.toNat x2 95 x1.toNat).toNat ≠ 0
      rw [up_at, if_pos rfl]
      exact hc.2.1.2.2
    · have e1 : up g 94 x1.toNat (bit1 1) 94 p = g 94 p := by rw [up_at, if_neg q]
      have e2 : up g 95 x1.toNat x2 95 p = g 95 p := by rw [up_at, if_neg q]
      show g 90 (up g 95 x1.toNat x2 95 p).toNat ≠ 0
      rw [e2]
      refine q2 p ?_
      rw [← e1]
      exact hp
  all_goals repeat (first | exact fr_refl _ _ | refine fr_up rfl ?_)
