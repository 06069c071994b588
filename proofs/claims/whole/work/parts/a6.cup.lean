/-! Part a6: the cup. -/
section CUP
variable (X : MExt) {E : List (Nat × Nat)} {g : Gm}
theorem c263 (c s d : Nat) (x y : Int) (u : Gm) : Call prog clsT X (d + 1) 263 [(0, x), (0, y)] (mk E c s (hh u)) = some ((0, if y ≤ x then (if x ≠ y then 1 else 0) else -1), mk E c s (hh u)) := by
  rw [rc263_, cmp_ge, cmp_ne]
  by_cases z : y ≤ x
  · rw [if_pos z, if_pos z]
    by_cases w : x ≠ y
    · rw [if_pos w, if_pos w]
    · rw [if_neg w, if_neg w]
  · rw [if_neg z, if_neg z]
theorem c125 {N : Int} (h : ST N E g) {P F : Nat → Int} (c s d : Nat) {u : Gm} (hu : onC g u) (hP : ∀ x : Nat, x < 10 → u 62 x = P x ∧ u 63 x = F x) : Call prog clsT X (d + 3) 125 [(2, 0)] (mk E c s (hh u)) = some ((0, (ldA g P F 10).1), mk E c s (hh u)) := by
  have hrv : RV u := h.1.1.2.1.fr (fun x i hs => hu x i (RV_C x i hs))
  have e4 : ∀ i : Nat, g 4 i = g 93 i := h.1.1.2.1.2.2.2.2.1
  have loop : ∀ (m i : Nat) (w5 : MV), i + m = 10 → Ev prog clsT X (d + 2) mc125 8 [(2, 0), (0, (ldA g P F i).1), (0, (ldA g P F i).2.1), (0, (ldA g P F i).2.2), (0, (i : Int)), w5] [] (mk E c s (hh u)) = some ((0, (ldA g P F 10).1), mk E c s (hh u)) := by
    intro m
    induction m with
    | zero =>
      intro i w5 hi
      have hi : i = 10 := by omega
      subst hi
      rw [r125_8, cmp_ge, if_pos (by decide)]
    | succ m ih =>
      intro i w5 hi
      have i10 : 0 ≤ (i : Int) ∧ (i : Int) < ((10 : Nat) : Int) := by omega
      obtain ⟨n, hn1, hn2⟩ := ldA_b g P F i (by omega)
      have hor : ior32 (ldA g P F i).1 0 = (ldA g P F i).1 := by rw [hn2]; exact ior0 n hn1
      have nx : ∀ w5, Ev prog clsT X (d + 2) mc125 8 [(2, 0), (0, (ldS g P F i (ldA g P F i)).1), (0, (ldS g P F i (ldA g P F i)).2.1), (0, (ldS g P F i (ldA g P F i)).2.2), (0, ((i + 1 : Nat) : Int)), w5] [] (mk E c s (hh u)) = some ((0, (ldA g P F 10).1), mk E c s (hh u)) := fun w5 => ih (i + 1) w5 (by omega)
      generalize ldA g P F i = a at hor nx ⊢
      obtain ⟨a1, a2, a3⟩ := a
      dsimp only at hor nx ⊢
      unfold ldS at nx
      obtain ⟨p1, p2⟩ := hP i (by omega)
      rw [r125_8, cmp_ge, if_neg (by omega), call0 (show Call prog clsT X (d + 2) 84 _ _ = _ from c84 X E c s hrv d (i : Int)), push0, Int.toNat_natCast, hu 90 i rfl, r125_15, cmp_eq, bI_eq0, w32_succ (by omega)]
      by_cases z1 : g 90 i ≠ 0
      case neg =>
        rw [if_neg (fun w => z1 w.1)] at nx
        rw [if_pos (fun w => z1 w.2.2)]
        exact nx _
      rw [if_neg (fun w => w ⟨by omega, by omega, z1⟩), inb_is, if_pos i10, Int.toNat_natCast, cmp_ne, hu 4 i rfl, e4]
      by_cases z2 : g 93 i = 0
      case neg =>
        rw [if_neg (fun w => z2 w.2.1)] at nx
        rw [if_pos z2]
        exact nx _
      rw [if_neg (fun w => w z2), inb_is, if_pos i10, cmp_gt, p1]
      by_cases z3 : 0 < P i
      case neg =>
        rw [if_neg (fun w => z3 w.2.2)] at nx
        rw [if_neg z3]
        exact nx _
      rw [if_pos ⟨z1, z2, z3⟩] at nx
      dsimp only at nx
      rw [if_pos z3, inb_is, if_pos i10, call0 (show Call prog clsT X (d + 2) 263 _ _ = _ from c263 X c s (d + 1) (P i) a2 u), push0, r125_36, cmp_ne]
      have more : ∀ x5 : Int, 0 < x5 → (a2 < P i ∨ (P i = a2 ∧ a3 < F i)) → Ev prog clsT X (d + 2) mc125 47 [(2, 0), (0, a1), (0, a2), (0, a3), (0, (i : Int)), (0, x5)] [] (mk E c s (hh u)) = some ((0, (ldA g P F 10).1), mk E c s (hh u)) := fun x5 hx hc => by
        rw [if_pos hc] at nx
        rw [r125_47, cmp_le, if_neg (by omega), inb_is, if_pos i10, inb_is, if_pos i10, Int.toNat_natCast, cmp_lt, if_neg (by omega), p1, p2, w32_succ (by omega)]
        exact nx _
      have less : ∀ x5 : Int, x5 < 0 → ¬ (a2 < P i ∨ (P i = a2 ∧ a3 < F i)) → ¬ (P i = a2 ∧ F i = a3) → Ev prog clsT X (d + 2) mc125 47 [(2, 0), (0, a1), (0, a2), (0, a3), (0, (i : Int)), (0, x5)] [] (mk E c s (hh u)) = some ((0, (ldA g P F 10).1), mk E c s (hh u)) := fun x5 hx hc hc2 => by
        rw [if_neg hc, if_neg hc2] at nx
        rw [r125_47, cmp_le, if_pos (by omega), cmp_lt, if_pos hx, hor, w32_succ (by omega)]
        exact nx _
      by_cases y1 : a2 ≤ P i
      case neg =>
        rw [if_neg y1, if_pos (by decide)]
        exact less (-1) (by decide) (fun w => by omega) (fun w => by omega)
      rw [if_pos y1]
      by_cases y2 : P i ≠ a2
      · rw [if_pos y2, if_pos (by decide)]
        exact more 1 (by decide) (Or.inl (by omega))
      rw [if_neg y2, if_neg (by decide), inb_is, if_pos i10, Int.toNat_natCast, p2, call0 (show Call prog clsT X (d + 2) 263 _ _ = _ from c263 X c s (d + 1) (F i) a3 u), push0, r125_46]
      have y2 : P i = a2 := Decidable.of_not_not y2
      by_cases y3 : a3 ≤ F i
      case neg =>
        rw [if_neg y3]
        exact less (-1) (by decide) (fun w => by omega) (fun w => by omega)
      rw [if_pos y3]
      by_cases y4 : F i ≠ a3
      · rw [if_pos y4]
        exact more 1 (by decide) (Or.inr ⟨y2, by omega⟩)
      · rw [if_neg y4]
        have y4 : F i = a3 := Decidable.of_not_not y4
        rw [if_neg (fun w => by omega), if_pos ⟨y2, y4⟩] at nx
        rw [r125_47, cmp_le, if_pos (by decide), cmp_lt, if_neg (by decide), w32_succ (by omega)]
        exact nx _
  rw [rc125_]
  exact loop 10 0 (3, 0) (by omega)
theorem m231 {N : Int} (h : ST N E g) {P F : Nat → Int} (p0 : ∀ x, 0 ≤ P x) (c s d : Nat) {u : Gm} (hu : onM g u) (hP : ∀ x : Nat, x < 10 → u 144 x = P x ∧ u 145 x = F x) : Call prog clsT X (d + 1) 231 [(2, 89)] (mk E c s (hh u)) = some ((0, (ldA g P F 10).1), mk E c s (hh u)) := by
  have loop : ∀ (m i : Nat), i + m = 10 → Ev prog clsT X d mc231 8 [(2, 89), (0, (ldA g P F i).1), (0, (ldA g P F i).2.1), (0, (ldA g P F i).2.2), (0, (i : Int))] [] (mk E c s (hh u)) = some ((0, (ldA g P F 10).1), mk E c s (hh u)) := by
    intro m
    induction m with
    | zero =>
      intro i hi
      have hi : i = 10 := by omega
      subst hi
      rw [r231_8, cmp_ge, if_pos (by decide)]
    | succ m ih =>
      intro i hi
      have i10 : 0 ≤ (i : Int) ∧ (i : Int) < ((10 : Nat) : Int) := by omega
      have nx : Ev prog clsT X d mc231 8 [(2, 89), (0, (ldS g P F i (ldA g P F i)).1), (0, (ldS g P F i (ldA g P F i)).2.1), (0, (ldS g P F i (ldA g P F i)).2.2), (0, ((i + 1 : Nat) : Int))] [] (mk E c s (hh u)) = some ((0, (ldA g P F 10).1), mk E c s (hh u)) := ih (i + 1) (by omega)
      generalize ldA g P F i = a at nx ⊢
      obtain ⟨a1, a2, a3⟩ := a
      dsimp only at nx ⊢
      unfold ldS at nx
      have p0i := p0 i
      obtain ⟨p1, p2⟩ := hP i (by omega)
      have keep : Ev prog clsT X d mc231 75 [(2, 89), (0, a1), (0, a2), (0, a3), (0, (i : Int))] [] (mk E c s (hh u)) = Ev prog clsT X d mc231 8 [(2, 89), (0, a1), (0, a2), (0, a3), (0, ((i + 1 : Nat) : Int))] [] (mk E c s (hh u)) := by rw [r231_75, w32_succ (by omega)]
      have put : ∀ b : Int, Ev prog clsT X d mc231 59 [(2, 89), (0, b), (0, a2), (0, a3), (0, (i : Int))] [] (mk E c s (hh u)) = Ev prog clsT X d mc231 8 [(2, 89), (0, ior32 b (ishl32 1 (i : Int))), (0, P i), (0, F i), (0, ((i + 1 : Nat) : Int))] [] (mk E c s (hh u)) := fun b => by
        rw [r231_59, inb_is, if_pos i10, inb_is, if_pos i10, Int.toNat_natCast, p1, p2, r231_75, w32_succ (by omega)]
      rw [r231_8, cmp_ge, if_neg (by omega), inb_is, if_pos i10, Int.toNat_natCast, cmp_eq, hu 90 i rfl]
      by_cases z1 : g 90 i = 0
      · rw [if_neg (fun w => w.1 z1)] at nx
        rw [if_pos z1, keep]
        exact nx
      rw [if_neg z1, inb_is, if_pos i10, cmp_ne, hu 93 i rfl]
      by_cases z2 : g 93 i = 0
      case neg =>
        rw [if_neg (fun w => z2 w.2.1)] at nx
        rw [if_pos z2, keep]
        exact nx
      rw [if_neg (fun w => w z2), r231_24, inb_is, if_pos i10, Int.toNat_natCast, cmp_eq, p1]
      by_cases z3 : P i = 0
      · rw [if_neg (fun w => by omega)] at nx
        rw [if_pos z3, keep]
        exact nx
      rw [if_pos ⟨z1, z2, by omega⟩] at nx
      dsimp only at nx
      rw [if_neg z3, inb_is, if_pos i10, cmp_lt]
      by_cases y1 : P i < a2
      · rw [if_neg (fun w => by omega), if_neg (fun w => by omega)] at nx
        rw [if_pos y1, keep]
        exact nx
      rw [if_neg y1, inb_is, if_pos i10, cmp_ne]
      by_cases y2 : P i = a2
      case neg =>
        rw [if_pos (Or.inl (by omega))] at nx
        rw [if_pos y2, inb_is, if_pos i10, cmp_gt, if_pos (by omega), put]
        exact nx
      rw [if_neg (fun w => w y2), inb_is, if_pos i10, cmp_ge, p2]
      by_cases y3 : a3 ≤ F i
      · rw [if_pos y3, inb_is, if_pos i10, cmp_gt, if_neg (by omega), inb_is, if_pos i10, cmp_le]
        by_cases y4 : F i ≤ a3
        · rw [if_neg (fun w => by omega), if_pos ⟨y2, by omega⟩] at nx
          rw [if_pos y4, put, y2, show F i = a3 by omega]
          exact nx
        · rw [if_pos (Or.inr ⟨y2, by omega⟩)] at nx
          rw [if_neg y4, put]
          exact nx
      · rw [if_neg (fun w => by omega), if_neg (fun w => by omega)] at nx
        rw [if_neg y3, keep]
        exact nx
  rw [rc231_]
  exact loop 10 0 (by omega)
theorem op_cup : OpV X 124 230 12 [] := by
  intro N E c s d g h
  have hle := h.1.1.1.rn.le
  have hC := C_b h.1.1.2.2.2.2.1
  obtain ⟨pl, p0, _, pc, pn, pm⟩ := PL X h
  obtain ⟨g1, a1, a2, a3⟩ := c123 X h ⟨p0, pc, pn⟩ (d + 4) c s g (onC_refl g)
  have a1 : Call prog clsT X (d + 11) 123 [(2, 0)] (mk E c s (hh g)) = some ((3, 0), mk E c s (hh g1)) := a1
  have q1 : onQ g g1 := onQ_su (onQ_refl g) a2
  have u0 := onQ_0 q1 0
  obtain ⟨g2, b1, b2, b3⟩ := m228 X h ⟨p0, pm⟩ d c s (up g1 89 0 0) (M_of u0)
  have q2 : onQ g g2 := onQ_rs u0 b2
  have l1 := c125 X h (P := fun x => sT g pl (cP g) x (nE g)) (F := fun x => sT g pl cF x (nE g)) c s (d + 8) (C_of q1) (fun x hx => ⟨(a3 x hx).1, (a3 x hx).2.1⟩)
  have l1 : Call prog clsT X (d + 11) 125 [(2, 0)] (mk E c s (hh g1)) = _ := l1
  have l2 := m231 X h (P := fun x => sT g pl (cP g) x (nE g)) (F := fun x => sT g pl cF x (nE g)) (fun x => (sT_b hle hC.1).1) c s (d + 10) (M_of q2) (fun x hx => b3 x hx)
  have l2 : Call prog clsT X (d + 11) 231 [(2, 89)] (mk E c s (hh g2)) = _ := l2
  refine ⟨(ldA g (fun x => sT g pl (cP g) x (nE g)) (fun x => sT g pl cF x (nE g)) 10).1, g1, g2, q2, ?_, ?_⟩
  · rw [rc124_, call3 a1, push3, r124_2, call0 l1, push0, r124_4]
  · rw [rc230_, call3 b1, push3, r230_5, call0 l2, push0, r230_7]
end CUP
