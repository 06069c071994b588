/-! Part 73: kin. -/
abbrev kinAt (g : Nat → Nat → Int) (j k : Int) (e : Nat) : Prop := g 104 e = 0 ∧ g 99 e = k ∧ g 91 (g 100 e).toNat = g 128 j.toNat
abbrev kinP (g : Nat → Nat → Int) (j k : Int) : Prop := ∃ e, e < nE g ∧ kinAt g j k e
section KIN
variable (X : MExt) (E : List (Nat × Nat)) (c s : Nat) {g : Nat → Nat → Int}
/-- VillageShow.isKin -/
theorem c104 (h : RE g) (hv : RV g) (hj : RJ g) (hq : RQ g) (d : Nat) (j k : Int) (hjj : 0 ≤ j ∧ j ≤ 3 ∧ g 127 j.toNat ≠ 0) : Call prog clsT X (d + 3) 104 [(2, 0), (0, j), (0, k)] (mk E c s (hh g)) = some ((0, bI (kinP g j k)), mk E c s (hh g)) := by
  rw [rc104_]
  have hle := h.le
  have loop : ∀ (m i : Nat), i + m = nE g → (∀ e, e < i → ¬ kinAt g j k e) → Ev prog clsT X (d + 2) mc104 2 [(2, 0), (0, j), (0, k), (0, (i : Int))] [] (mk E c s (hh g)) = some ((0, bI (kinP g j k)), mk E c s (hh g)) := by
    intro m
    induction m with
    | zero =>
      intro i hi hn
      rw [r104_2, cmp_ge, h.n, if_pos (by omega), bI_f (show ¬ kinP g j k from fun ⟨e, h1, h2⟩ => hn e (by omega) h2)]
    | succ m ih =>
      intro i hi hn
      have next : ¬ kinAt g j k i → Ev prog clsT X (d + 2) mc104 2 [(2, 0), (0, j), (0, k), (0, ((i + 1 : Nat) : Int))] [] (mk E c s (hh g)) = some ((0, bI (kinP g j k)), mk E c s (hh g)) := by
        intro hk
        refine ih (i + 1) (by omega) (fun e he => ?_)
        by_cases he2 : e = i
        · subst he2; exact hk
        · exact hn e (by omega)
      rw [r104_2, cmp_ge, h.n, if_neg (by omega), call0 (c22 X E c s h d i k), push0, r104_12, cmp_eq, bI_eq0, w32_succ (by omega), Int.toNat_natCast]
      by_cases h1 : g 104 i = 0 ∧ g 99 i = k
      case neg =>
        rw [if_pos (fun q => h1 q.2.2)]
        exact next (fun q => h1 ⟨q.1, q.2.1⟩)
      have a7 : g 32 i = g 100 i := h.2.2.2.2.2.2.1 i
      have a15 := h.2.2.2.2.2.2.2.2.2.2.2.2.2.2.1 i
      have b1 := hq.1 i (by omega)
      have b2 : g 2 (g 100 i).toNat = g 91 (g 100 i).toNat := hv.2.2.1 (g 100 i).toNat (by omega) b1
      have b3 : g 37 j.toNat = g 128 j.toNat := hj.2.2.1 j.toNat (by omega) hjj.2.2
      rw [if_neg (fun q => q ⟨by omega, by omega, h1⟩), inb_is, if_pos (show 0 ≤ (i : Int) ∧ (i : Int) < (40 : Nat) by omega), a7, inb_is, if_pos (show 0 ≤ g 100 i ∧ g 100 i < (10 : Nat) by omega), inb_is, if_pos (show 0 ≤ j ∧ j < (4 : Nat) by omega), cmp_ne, b2, b3]
      by_cases h2 : g 91 (g 100 i).toNat = g 128 j.toNat
      · rw [if_neg (fun q => q h2), bI_t (show kinP g j k from ⟨i, by omega, h1.1, h1.2, h2⟩)]
      · rw [if_pos h2]
        exact next (fun q => h2 q.2.2)
  exact loop (nE g) 0 (by omega) (fun e he => by omega)
/-- Model.isKin -/
theorem m204 (h : RE g) (d : Nat) (j k : Int) (hjj : 0 ≤ j ∧ j ≤ 3) : Call prog clsT X (d + 1) 204 [(2, 89), (0, j), (0, k)] (mk E c s (hh g)) = some ((0, bI (kinP g j k)), mk E c s (hh g)) := by
  rw [rc204_]
  have hle := h.le
  have loop : ∀ (m i : Nat), i + m = nE g → (∀ e, e < i → ¬ kinAt g j k e) → Ev prog clsT X d mc204 2 [(2, 89), (0, j), (0, k), (0, (i : Int))] [] (mk E c s (hh g)) = some ((0, bI (kinP g j k)), mk E c s (hh g)) := by
    intro m
    induction m with
    | zero =>
      intro i hi hn
      rw [r204_2, cmp_ge, h.n2, if_pos (by omega), bI_f (show ¬ kinP g j k from fun ⟨e, h1, h2⟩ => hn e (by omega) h2)]
    | succ m ih =>
      intro i hi hn
      have next : ¬ kinAt g j k i → Ev prog clsT X d mc204 2 [(2, 89), (0, j), (0, k), (0, ((i + 1 : Nat) : Int))] [] (mk E c s (hh g)) = some ((0, bI (kinP g j k)), mk E c s (hh g)) := by
        intro hk
        refine ih (i + 1) (by omega) (fun e he => ?_)
        by_cases he2 : e = i
        · subst he2; exact hk
        · exact hn e (by omega)
      have a15 := h.2.2.2.2.2.2.2.2.2.2.2.2.2.2.1 i
      rw [r204_2, cmp_ge, h.n2, if_neg (by omega), w32_succ (by omega), Int.toNat_natCast, inb_is, if_pos (show 0 ≤ (i : Int) ∧ (i : Int) < (40 : Nat) by omega), cmp_ne]
      by_cases h1 : g 104 i = 0
      case neg =>
        rw [if_pos h1]
        exact next (fun q => h1 q.1)
      rw [if_neg (fun q => q h1), inb_is, if_pos (show 0 ≤ (i : Int) ∧ (i : Int) < (40 : Nat) by omega), cmp_ne]
      by_cases h2 : g 99 i = k
      case neg =>
        rw [if_pos h2]
        exact next (fun q => h2 q.2.1)
      rw [if_neg (fun q => q h2), inb_is, if_pos (show 0 ≤ (i : Int) ∧ (i : Int) < (40 : Nat) by omega), inb_is, if_pos (show 0 ≤ g 100 i ∧ g 100 i < (10 : Nat) by omega), inb_is, if_pos (show 0 ≤ j ∧ j < (4 : Nat) by omega), cmp_ne]
      by_cases h3 : g 91 (g 100 i).toNat = g 128 j.toNat
      · rw [if_neg (fun q => q h3), bI_t (show kinP g j k from ⟨i, by omega, h1, h2, h3⟩)]
      · rw [if_pos h3]
        exact next (fun q => h3 q.2.2)
  exact loop (nE g) 0 (by omega) (fun e he => by omega)
end KIN
theorem op_kin (X : MExt) (x1 x2 : Int) : Op X 103 203 4 [(0, x1), (0, x2)] := by
  intro E c s d g h hb
  have cl : Call prog clsT X (d + 4) 103 [(2, 0), (0, x1), (0, x2)] (mk E c s (hh g)) = some ((0, if (0 ≤ x1 ∧ x1 ≤ 3 ∧ g 127 x1.toNat ≠ 0) ∧ (0 ≤ x2 ∧ x2 ≤ 9 ∧ g 106 x2.toNat ≠ 0) then bI (kinP g x1 x2) else -1), mk E c s (hh g)) := by
    rw [rc103_, call0 (c34 X E c s h.2.2.1 (d + 1) x1), push0, r103_4, cmp_eq, bI_eq0]
    by_cases h1 : 0 ≤ x1 ∧ x1 ≤ 3 ∧ g 127 x1.toNat ≠ 0
    case neg => rw [if_pos h1, if_neg (fun q => h1 q.1)]
    rw [if_neg (fun q => q h1), call2 (c97 X E c s (d + 1) x2), push2, r103_8, nun (hb.of x2)]
    by_cases h2 : 0 ≤ x2 ∧ x2 ≤ 9 ∧ g 106 x2.toNat ≠ 0
    case neg => rw [if_neg h2, if_neg (fun q => h2 q.2)]
    rw [if_pos h2, call0 (c104 X E c s h.1 h.2.1 h.2.2.1 h.2.2.2.2.2 d x1 x2 h1), push0, r103_15, cmp_eq, bI_eq0]
    by_cases h3 : kinP g x1 x2
    · rw [if_neg (fun q => q h3), if_pos ⟨h1, h2⟩, bI_t h3]
    · rw [if_pos h3, if_pos ⟨h1, h2⟩, bI_f h3]
  have ml : Call prog clsT X (d + 4) 203 [(2, 89), (0, x1), (0, x2)] (mk E c s (hh g)) = some ((0, if (0 ≤ x1 ∧ x1 ≤ 3 ∧ g 127 x1.toNat ≠ 0) ∧ (0 ≤ x2 ∧ x2 ≤ 9 ∧ g 106 x2.toNat ≠ 0) then bI (kinP g x1 x2) else -1), mk E c s (hh (up g 89 0 0))) := by
    rw [rc203_, call0 (show Call prog clsT X (d + 3) 202 [(2, 89), (0, x1)] (mk E c s (hh (up g 89 0 0))) = some ((0, bI (0 ≤ x1 ∧ x1 ≤ 3 ∧ g 127 x1.toNat ≠ 0)), mk E c s (hh (up g 89 0 0))) from m202 X E c s (g := up g 89 0 0) (d + 1) x1), push0, r203_6, cmp_eq, bI_eq0]
    by_cases h1 : 0 ≤ x1 ∧ x1 ≤ 3 ∧ g 127 x1.toNat ≠ 0
    case neg => rw [if_pos h1, if_neg (fun q => h1 q.1)]
    rw [if_neg (fun q => q h1), call0 (show Call prog clsT X (d + 3) 157 [(2, 89), (0, x2)] (mk E c s (hh (up g 89 0 0))) = some ((0, bI (0 ≤ x2 ∧ x2 ≤ 9 ∧ g 106 x2.toNat ≠ 0)), mk E c s (hh (up g 89 0 0))) from m157 X E c s (g := up g 89 0 0) (d + 1) x2), push0, r203_10, cmp_ne, bI_ne0]
    by_cases h2 : 0 ≤ x2 ∧ x2 ≤ 9 ∧ g 106 x2.toNat ≠ 0
    case neg => rw [if_neg (fun q => q h2), if_neg (fun q => h2 q.2)]
    have hz : kinP (up g 89 0 0) x1 x2 ↔ kinP g x1 x2 := Iff.rfl
    rw [if_pos (fun q => q h2), call0 (m204 X E c s (g := up g 89 0 0) (I0_z h).1 (d + 2) x1 x2 ⟨h1.1, h1.2.1⟩), push0, r203_17, cmp_eq, bI_eq0]
    by_cases h3 : kinP g x1 x2
    · rw [if_neg (fun q => q (hz.mpr h3)), if_pos ⟨h1, h2⟩, bI_t h3]
    · rw [if_pos (fun q => h3 (hz.mp q)), if_pos ⟨h1, h2⟩, bI_f h3]
  exact ⟨_, _, _, cl, ml, I0_z h, fr_z⟩
