/-! Part a8: the struck state, for protest. -/
def stk (g : Gm) (e : Nat) : Gm := up (up g 30 1 (land64 (g 30 1) (lxor64 (lshl64 1 (e : Int)) (-1)))) 104 e 1
theorem ST_stk {N : Int} {E : List (Nat × Nat)} {g : Gm} (h : ST N E g) {e : Nat} (he : e < nE g) : ST N E (stk g e) := by
  have i0 := h.1.1
  have hle := i0.1.rn.le
  refine ⟨INV_X h.1 ⟨?_, i0.2.1.fr ?_, i0.2.2.1.fr ?_, i0.2.2.2.1.fr ?_, i0.2.2.2.2.1.fr ?_, i0.2.2.2.2.2.fr ?_⟩ ?_ (Int.le_refl _), h.2.fr ?_⟩
  case refine_1 =>
    obtain ⟨a1, a2, a3, a4, a5, a6, a7, a8, a9, a10, a11, a12, a13, a14, a15, a16, a17⟩ := i0.1
    refine ⟨a1, a2, a3, in64_and _ _, fun k hk => ?_, a6, a7, a8, a9, a10, a11, a12, a13, a14, a15, fun k => ?_, a17⟩
    · have b := a5 k hk
      show tb (land64 (g 30 1) (lxor64 (lshl64 1 (e : Int)) (-1))) k = decide (k < nE g ∧ up g 104 e 1 104 k = 0)
      rw [tb_out _ _ _ (by omega) hk, b, up_at]
      by_cases q : k = e
      · subst q; simp
      · simp [q]
    · have b := a16 k
      show up g 104 e 1 104 k = 0 ∨ up g 104 e 1 104 k = 1
      rw [up_at]
      split <;> omega
  all_goals unfold stk
  all_goals repeat (first | exact fr_refl _ _ | refine fr_up rfl ?_)
/-- the class's state while it tries: onC of the struck one; the reference's: onM -/
theorem stk_C {g u : Gm} {e : Nat} (h : onQ g u) : onC (stk g e) (up u 30 1 (land64 (g 30 1) (lxor64 (lshl64 1 (e : Int)) (-1)))) := fun x i hs => by
  have h104 : x ≠ 104 := fun z => by rw [z] at hs; cases hs
  show _ = up (up g 30 1 _) 104 e 1 x i
  rw [up_cell h104]
  by_cases q : x = 30 ∧ i = 1
  · obtain ⟨rfl, rfl⟩ := q
    rw [up_at, if_pos rfl, up_at, if_pos rfl]
  · rw [up_ne q, up_ne q]
    exact h x i (sC_q hs)
theorem stk_M {g u : Gm} {e : Nat} (h : onQ g u) : onM (stk g e) (up u 104 e 1) := fun x i hs => by
  have h30 : x ≠ 30 := fun z => by rw [z] at hs; cases hs
  show _ = up (up g 30 1 _) 104 e 1 x i
  by_cases q : x = 104 ∧ i = e
  · obtain ⟨rfl, rfl⟩ := q
    rw [up_at, if_pos rfl, up_at, if_pos rfl]
  · rw [up_ne q, up_ne q, up_cell h30]
    exact h x i (sM_q hs)
