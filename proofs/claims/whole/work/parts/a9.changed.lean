/-! Part a9: rankIfJudged, keepPlaces, changedBut. -/
section CHANGED
variable (X : MExt) {E : List (Nat × Nat)} {g : Gm}
theorem c130 {N : Int} (h : ST N E g) {pl : Nat → Int} (pc : ∀ k : Nat, k < 10 → 0 ≤ g 130 k → ∀ d c s u, onC g u → ∃ u', Call prog clsT X (d + 6) 107 [(2, 0), (0, (k : Int)), (0, g 130 k)] (mk E c s (hh u)) = some ((3, 0), mk E c s (hh u')) ∧ onC g u' ∧ clQ u u' ∧ ∀ e, e < 40 → u' 56 e = if g 99 e = k then pl e else 0) (pn : ∀ e, g 130 (g 99 e).toNat < 0 → pl e = 0) (d c s : Nat) {k : Nat} (hk : k < 10) {u : Gm} (hu : onC g u) : ∃ u', Call prog clsT X (d + 7) 130 [(2, 0), (0, (k : Int))] (mk E c s (hh u)) = some ((3, 0), mk E c s (hh u')) ∧ onC g u' ∧ clQ u u' ∧ ∀ e, e < 40 → u' 56 e = if g 99 e = k then pl e else 0 := by
  have i10 : 0 ≤ (k : Int) ∧ (k : Int) < ((10 : Nat) : Int) := by omega
  have e39 : ∀ k : Nat, g 39 k = g 130 k := h.1.1.2.2.1.2.2.2.2.2.2.1
  have b130 := h.1.1.2.2.1.2.2.2.2.2.2.2.1 k hk
  rw [rc130_, inb_is, if_pos i10, Int.toNat_natCast, cmp_ne, hu 39 k rfl, e39]
  by_cases z : g 130 k = -1
  case neg =>
    obtain ⟨u', a1, a2, a3, a4⟩ := pc k hk (by omega) d c s u hu
    rw [if_pos z, inb_is, if_pos i10, call3 a1, push3, r130_19]
    exact ⟨u', rfl, a2, a3, a4⟩
  have c1 : Call prog clsT X (d + 6) 1 [(2, 55)] (mk E c s (hh u)) = some ((3, 0), mk E c s (hh (fil u 56 40 0))) := by
    rw [show d + 6 = (d + 5) + 1 from rfl, rc1_, call3 (show Call prog clsT X (d + 5) 248 [(2, 56), (0, 0)] (mk E c s (hh u)) = _ from m248 X E c s CA56 (by decide) (d + 4) 0), push3, r1_4]
  have f56 : clQ u (fil u 56 40 0) := fun x i a => if_neg (fun q => a (by omega))
  rw [if_neg (fun w => w z), call3 c1, push3, r130_10, r130_19]
  refine ⟨_, rfl, onC_cl hu f56, f56, fun e he => ?_⟩
  have e0 : fil u 56 40 0 56 e = 0 := if_pos ⟨rfl, he⟩
  rw [e0]
  by_cases y : g 99 e = k
  · rw [if_pos y, pn e (by rw [y, Int.toNat_natCast, z]; decide)]
  · rw [if_neg y]
theorem c7 (c s d : Nat) (u : Gm) : Call prog clsT X (d + 1) 7 [(2, 55)] (mk E c s (hh u)) = some ((3, 0), mk E c s (hh (cpy u 56 57 40))) := by
  rw [rc7_]
theorem c8 (c s d : Nat) (x : Nat) (u : Gm) : Call prog clsT X (d + 1) 8 [(2, 55), (0, (x : Int))] (mk E c s (hh u)) = some ((0, sm (fun i => bI (i ≠ x ∧ u 56 i ≠ u 57 i)) 40), mk E c s (hh u)) := by
  have loop : ∀ (m i : Nat), i + m = 40 → Ev prog clsT X d mc8 4 [(2, 55), (0, (x : Int)), (0, sm (fun i => bI (i ≠ x ∧ u 56 i ≠ u 57 i)) i), (0, (i : Int))] [] (mk E c s (hh u)) = some ((0, sm (fun i => bI (i ≠ x ∧ u 56 i ≠ u 57 i)) 40), mk E c s (hh u)) := by
    intro m
    induction m with
    | zero =>
      intro i hi
      have hi : i = 40 := by omega
      subst hi
      rw [r8_4, cmp_ge, if_pos (by decide)]
    | succ m ih =>
      intro i hi
      have i40 : 0 ≤ (i : Int) ∧ (i : Int) < ((40 : Nat) : Int) := by omega
      have hst : ∀ v, v = bI (i ≠ x ∧ u 56 i ≠ u 57 i) → w32 (sm (fun i => bI (i ≠ x ∧ u 56 i ≠ u 57 i)) i + v) = sm (fun i => bI (i ≠ x ∧ u 56 i ≠ u 57 i)) (i + 1) := fun v hv => sm_step 1 hv (fun j _ => bI_b _) (by omega) (by omega)
      rw [r8_4, cmp_ge, if_neg (by omega), cmp_eq, w32_succ (by omega)]
      by_cases z : (i : Int) = (x : Int)
      · rw [if_pos z, hst 0 (bI_f (fun w => w.1 (by omega))).symm]
        exact ih (i + 1) (by omega)
      · rw [if_neg z, inb_is, if_pos i40, inb_is, if_pos i40, Int.toNat_natCast, cmp_eq]
        by_cases y : u 56 i = u 57 i
        · rw [if_pos y, hst 0 (bI_f (fun w => w.2 y)).symm]
          exact ih (i + 1) (by omega)
        · rw [if_neg y, hst 1 (bI_t ⟨fun w => z (by omega), y⟩).symm]
          exact ih (i + 1) (by omega)
  rw [rc8_]
  exact loop 40 0 (by omega)
end CHANGED
