/-! Part 9z: what holds, kept by every telling. -/
def sRP (x i : Nat) : Bool := match x with
  | 94 => true | 97 => true | 101 => true | 127 => true | 130 => true | 153 => true | 157 => true | 89 => decide (i = 10) | _ => false
theorem RP2.fr {g u : Gm} (h : RP2 g) (e : fr sRP g u) : RP2 u := RP2_fr h (fun i => e 94 i rfl) (fun i => e 97 i rfl) (fun i => e 101 i rfl) (e 89 10 rfl) (fun i => e 127 i rfl) (fun i => e 130 i rfl) (fun i => e 153 i rfl) (fun i => e 157 i rfl)
theorem hh_dat {g : Gm} {x i : Nat} (h : dat x i = true) : hh g x i = g x i := by
  unfold dat at h
  unfold hh
  split
  · rename_i v hv; rw [hv] at h; cases h
  · rfl
theorem dat_P {x i : Nat} (h : sRP x i = true) : dat x i = true := by
  unfold sRP at h
  split at h
  all_goals first | rfl | (simp at h; done) | (simp at h; subst h; rfl)
theorem fr_hh {A u : Gm} (h : hh u = hh A) : fr sRP A u := fun x i hs => by
  have := congrFun (congrFun h x) i
  rw [hh_dat (dat_P hs), hh_dat (dat_P hs)] at this
  exact this
theorem two {P : Prop} [Decidable P] {o : Option MRes} {v a b : Int} {E : List (Nat × Nat)} {c s : Nat} {g g1 A B : Gm} (h : o = some ((0, v), mk E c s (hh g1))) (h2 : o = if P then some ((0, a), mk E c s (hh A)) else some ((0, b), mk E c s (hh B))) : (P ∧ hh g1 = hh A) ∨ (¬ P ∧ hh g1 = hh B) := by
  rw [h] at h2
  by_cases z : P
  · rw [if_pos z] at h2
    injection h2 with h2
    injection h2 with _ h2
    injection h2 with _ h2
    injection h2 with h2 _
    exact Or.inl ⟨z, h2⟩
  · rw [if_neg z] at h2
    injection h2 with h2
    injection h2 with _ h2
    injection h2 with _ h2
    injection h2 with h2 _
    exact Or.inr ⟨z, h2⟩
theorem twoF {P : Prop} [Decidable P] {o : Option MRes} {v a b : Int} {E : List (Nat × Nat)} {c s : Nat} {g g1 A B : Gm} (fA : fr sRP g A) (fB : fr sRP g B) (h : o = some ((0, v), mk E c s (hh g1))) (h2 : o = if P then some ((0, a), mk E c s (hh A)) else some ((0, b), mk E c s (hh B))) : fr sRP g g1 := by
  rcases two (g := g) h h2 with z | z
  · exact fr_trans fA (fr_hh z.2)
  · exact fr_trans fB (fr_hh z.2)
theorem oneF {o : Option MRes} {v a : Int} {E : List (Nat × Nat)} {c s : Nat} {g g1 A : Gm} (fA : fr sRP g A) (h : o = some ((0, v), mk E c s (hh g1))) (h2 : o = some ((0, a), mk E c s (hh A))) : fr sRP g g1 := by
  rw [h] at h2
  injection h2 with h2
  injection h2 with _ h2
  injection h2 with _ h2
  injection h2 with h2 _
  exact fr_trans fA (fr_hh h2)
def sXX (x i : Nat) : Bool := match x with
  | 72 => !decide (i = 5) | 76 => true | 81 => true | _ => false
theorem RS_frX {N : Int} {g u : Gm} (h : RS N g) (e : fr sRX g u) (e10 : g 89 10 ≤ u 89 10) : RS N u := by
  have h1 : RS N (fun x i => if sXX x i = true then g x i else u x i) := RS_fr h (fun x i hx => by
    show (if sXX x i = true then g x i else u x i) = g x i
    by_cases z : sXX x i = true
    · rw [if_pos z]
    · rw [if_neg z]
      refine e x i ?_
      rcases hx with q | q | q
      · have : x = 72 ∨ x = 73 ∨ x = 74 ∨ x = 75 ∨ x = 76 ∨ x = 77 ∨ x = 78 ∨ x = 79 ∨ x = 80 ∨ x = 81 ∨ x = 82 ∨ x = 83 ∨ x = 84 ∨ x = 85 := by omega
        rcases this with y | y | y | y | y | y | y | y | y | y | y | y | y | y <;> subst y <;> first | rfl | exact absurd rfl z | skip
        have : i = 5 := by
          by_cases w : i = 5
          · exact w
          · exact absurd (show (!decide (i = 5)) = true by rw [decide_eq_false w]; rfl) z
        subst this; rfl
      · have : x = 153 ∨ x = 154 ∨ x = 155 ∨ x = 156 ∨ x = 157 := by omega
        rcases this with y | y | y | y | y <;> subst y <;> rfl
      · rw [q.1, q.2]; rfl) e10
  refine ⟨h1.1, h1.2.1, h1.2.2.1, fun k hk => ?_, h1.2.2.2.2⟩
  obtain ⟨y1, y2, y3, y4⟩ := h1.2.2.2.1 k hk
  refine ⟨y1, y2, y3, fun hp => ?_⟩
  have y5 := y4 hp
  have : k = 0 ∨ k = 1 ∨ k = 2 ∨ k = 3 := by omega
  rcases this with z | z | z | z <;> subst z <;> exact y5
theorem INV_X {N : Int} {E : List (Nat × Nat)} {g u : Gm} (h : INV N E g) (i0 : I0 u) (e : fr sRX g u) (e10 : g 89 10 ≤ u 89 10) : INV N E u := by
  obtain ⟨_, ib, it, is, iu⟩ := h
  refine ⟨i0, RB_frX ib e, ?_, RS_frX is e e10, RU_X iu e⟩
  obtain ⟨t1, t2, t3, t4⟩ := it
  have e17 : u 89 17 = g 89 17 := e 89 17 rfl
  refine ⟨by rw [e 9 1 rfl, e17]; exact t1, by rw [e17]; exact t2, by rw [e17]; exact t3, fun i hi => ?_⟩
  rw [e17] at hi
  rw [e 10 i rfl, e 105 i rfl]
  exact t4 i hi
/-- class and reference alike, and what holds goes on -/
def OpS (X : MExt) (cj mj k : Nat) (A : List MV) : Prop := ∀ (N : Int) (E : List (Nat × Nat)) (c s d : Nat) (g : Gm), ST N E g → ∃ v g1 g2, Call prog clsT X (d + k) cj ((2, 0) :: A) (mk E c s (hh g)) = some ((0, v), mk E c s (hh g1)) ∧ Call prog clsT X (d + k) mj ((2, 89) :: A) (mk E c s (hh g1)) = some ((0, v), mk E c s (hh g2)) ∧ ST N E g2
theorem S_of {X : MExt} {cj mj k : Nat} {A : List MV} (hop : Op X cj mj k A) (hf : ∀ (E : List (Nat × Nat)) (c s d : Nat) (g : Gm), I0 g → RB g → RP2 g → ∀ v g1 g2, Call prog clsT X (d + k) cj ((2, 0) :: A) (mk E c s (hh g)) = some ((0, v), mk E c s (hh g1)) → Call prog clsT X (d + k) mj ((2, 89) :: A) (mk E c s (hh g1)) = some ((0, v), mk E c s (hh g2)) → RP2 g2 ∧ g 89 10 ≤ g2 89 10) : OpS X cj mj k A := by
  intro N E c s d g h
  obtain ⟨v, g1, g2, a1, a2, a3, a4⟩ := hop E c s d g h.1.1 h.1.2.1
  have := hf E c s d g h.1.1 h.1.2.1 h.2 v g1 g2 a1 a2
  exact ⟨v, g1, g2, a1, a2, INV_X h.1 a3 a4 this.2, this.1⟩
theorem fin_P {g u w : Gm} (h : RP2 g) (e : fr sRP g u) (e2 : fr sRP u w) : RP2 w ∧ g 89 10 ≤ w 89 10 := ⟨h.fr (fr_trans e e2), by rw [e2 89 10 rfl, e 89 10 rfl]; exact Int.le_refl _⟩
section KEPT
variable (X : MExt) (E : List (Nat × Nat)) (c s : Nat) {g : Nat → Nat → Int}
theorem c113 (hb : RB g) (d : Nat) (x1 x2 x3 : Int) : Call prog clsT X (d + 3) 113 [(2, 0), (0, x1), (0, x2), (0, x3)] (mk E c s (hh g)) = if (0 ≤ x1 ∧ x1 ≤ 9 ∧ g 106 x1.toNat ≠ 0) ∧ (0 ≤ x2 ∧ x2 ≤ 2) ∧ (0 ≤ x3 ∧ x3 ≤ 9) then some ((0, 1), mk E c s (hh (up (up g 42 x1.toNat x2) 43 x1.toNat x3))) else some ((0, 0), mk E c s (hh g)) := by
  rw [rc113_, call2 (c97 X E c s d x1), push2, r113_3, nul (hb.of x1)]
  by_cases h0 : 0 ≤ x1 ∧ x1 ≤ 9 ∧ g 106 x1.toNat ≠ 0
  case neg => rw [if_neg h0, if_neg (fun q => h0 q.1)]
  rw [if_pos h0, call0 (c90 X E c s (d + 1) x2 0 2), push0, r113_8, cmp_eq, bI_eq0]
  by_cases h1 : 0 ≤ x2 ∧ x2 ≤ 2
  case neg => rw [if_pos h1, if_neg (fun q => h1 q.2.1)]
  rw [if_neg (fun q => q h1), call0 (c90 X E c s (d + 1) x3 0 9), push0, r113_13, cmp_ne, bI_ne0]
  by_cases h2 : 0 ≤ x3 ∧ x3 ≤ 9
  case neg => rw [if_neg (fun q => q h2), if_neg (fun q => h2 q.2.2)]
  rw [if_pos (fun q => q h2), inb_is, if_pos (by omega), inb_is, if_pos (by omega), if_pos ⟨h0, h1, h2⟩]
theorem m216 (d : Nat) (x1 x2 x3 : Int) : ∀ g : Nat → Nat → Int, Call prog clsT X (d + 3) 216 [(2, 89), (0, x1), (0, x2), (0, x3)] (mk E c s (hh g)) = if (0 ≤ x1 ∧ x1 ≤ 9 ∧ g 106 x1.toNat ≠ 0) ∧ (0 ≤ x2 ∧ x2 ≤ 2) ∧ (0 ≤ x3 ∧ x3 ≤ 9) then some ((0, 1), mk E c s (hh (up (up (up g 89 0 0) 132 x1.toNat x2) 133 x1.toNat x3))) else some ((0, 0), mk E c s (hh (up g 89 0 0))) := by
  intro g
  rw [rc216_, call0 (show Call prog clsT X (d + 2) 157 [(2, 89), (0, x1)] (mk E c s (hh (up g 89 0 0))) = some ((0, bI (0 ≤ x1 ∧ x1 ≤ 9 ∧ g 106 x1.toNat ≠ 0)), mk E c s (hh (up g 89 0 0))) from m157 X E c s (g := up g 89 0 0) d x1), push0, r216_6, cmp_eq, bI_eq0]
  by_cases h0 : 0 ≤ x1 ∧ x1 ≤ 9 ∧ g 106 x1.toNat ≠ 0
  case neg => rw [if_pos h0, if_neg (fun q => h0 q.1)]
  rw [if_neg (fun q => q h0), call0 (m152 X E c s (d + 1) x2 0 2), push0, r216_11, cmp_eq, bI_eq0]
  by_cases h1 : 0 ≤ x2 ∧ x2 ≤ 2
  case neg => rw [if_pos h1, if_neg (fun q => h1 q.2.1)]
  rw [if_neg (fun q => q h1), call0 (m152 X E c s (d + 1) x3 0 9), push0, r216_16, cmp_ne, bI_ne0]
  by_cases h2 : 0 ≤ x3 ∧ x3 ≤ 9
  case neg => rw [if_neg (fun q => q h2), if_neg (fun q => h2 q.2.2)]
  rw [if_pos (fun q => q h2), inb_is, if_pos (by omega), inb_is, if_pos (by omega), if_pos ⟨h0, h1, h2⟩]
theorem c103 (h : I0 g) (hb : RB g) (d : Nat) (x1 x2 : Int) : Call prog clsT X (d + 4) 103 [(2, 0), (0, x1), (0, x2)] (mk E c s (hh g)) = some ((0, if (0 ≤ x1 ∧ x1 ≤ 3 ∧ g 127 x1.toNat ≠ 0) ∧ (0 ≤ x2 ∧ x2 ≤ 9 ∧ g 106 x2.toNat ≠ 0) then bI (kinP g x1 x2) else -1), mk E c s (hh g)) := by
  rw [rc103_, call0 (c34 X E c s h.2.2.1 (d + 1) x1), push0, r103_4, cmp_eq, bI_eq0]
  by_cases h1 : 0 ≤ x1 ∧ x1 ≤ 3 ∧ g 127 x1.toNat ≠ 0
  case neg => rw [if_pos h1, if_neg (fun q => h1 q.1)]
  rw [if_neg (fun q => q h1), call2 (c97 X E c s (d + 1) x2), push2, r103_8, nun (hb.of x2)]
  by_cases h2 : 0 ≤ x2 ∧ x2 ≤ 9 ∧ g 106 x2.toNat ≠ 0
  case neg => rw [if_neg h2, if_neg (fun q => h2 q.2)]
  rw [if_pos h2, call0 (c104 X E c s h.1 h.2.1 h.2.2.1 h.2.2.2.2.2 d x1 x2 h1), push0, r103_15, cmp_eq, bI_eq0]
  by_cases h3 : kinP g x1 x2
  · rw [if_neg (fun q => q h3), if_pos ⟨h1, h2⟩, bI_t h3]
  · rw [if_pos h3, if_pos ⟨h1, h2⟩, bI_f h3]
theorem m203 (h : I0 g) (d : Nat) (x1 x2 : Int) : Call prog clsT X (d + 4) 203 [(2, 89), (0, x1), (0, x2)] (mk E c s (hh g)) = some ((0, if (0 ≤ x1 ∧ x1 ≤ 3 ∧ g 127 x1.toNat ≠ 0) ∧ (0 ≤ x2 ∧ x2 ≤ 9 ∧ g 106 x2.toNat ≠ 0) then bI (kinP g x1 x2) else -1), mk E c s (hh (up g 89 0 0))) := by
  rw [rc203_, call0 (show Call prog clsT X (d + 3) 202 [(2, 89), (0, x1)] (mk E c s (hh (up g 89 0 0))) = some ((0, bI (0 ≤ x1 ∧ x1 ≤ 3 ∧ g 127 x1.toNat ≠ 0)), mk E c s (hh (up g 89 0 0))) from m202 X E c s (g := up g 89 0 0) (d + 1) x1), push0, r203_6, cmp_eq, bI_eq0]
  by_cases h1 : 0 ≤ x1 ∧ x1 ≤ 3 ∧ g 127 x1.toNat ≠ 0
  case neg => rw [if_pos h1, if_neg (fun q => h1 q.1)]
  rw [if_neg (fun q => q h1), call0 (show Call prog clsT X (d + 3) 157 [(2, 89), (0, x2)] (mk E c s (hh (up g 89 0 0))) = some ((0, bI (0 ≤ x2 ∧ x2 ≤ 9 ∧ g 106 x2.toNat ≠ 0)), mk E c s (hh (up g 89 0 0))) from m157 X E c s (g := up g 89 0 0) (d + 1) x2), push0, r203_10, cmp_ne, bI_ne0]
  by_cases h2 : 0 ≤ x2 ∧ x2 ≤ 9 ∧ g 106 x2.toNat ≠ 0
  case neg => rw [if_neg (fun q => q h2), if_neg (fun q => h2 q.2)]
  have hz : kinP (up g 89 0 0) x1 x2 ↔ kinP g x1 x2 := Iff.rfl
  rw [if_pos (fun q => q h2), call0 (m204 X E c s (g := up g 89 0 0) (I0_z h).1 (d + 2) x1 x2 ⟨h1.1, h1.2.1⟩), push0, r203_17, cmp_eq, bI_eq0]
  by_cases h3 : kinP g x1 x2
  · rw [if_neg (fun q => q (hz.mpr h3)), if_pos ⟨h1, h2⟩, bI_t h3]
  · rw [if_pos (fun q => h3 (hz.mp q)), if_pos ⟨h1, h2⟩, bI_f h3]
end KEPT
section TELL
variable (X : MExt)
theorem s_exhibitor (x1 x2 x3 x4 : Int) : OpS X 89 151 3 [(0, x1), (0, x2), (0, x3), (0, x4)] := S_of (op_exhibitor X x1 x2 x3 x4) (fun E c s d g h hb hp v g1 g2 q1 q2 => fin_P hp (twoF (fr_up rfl (fr_up rfl (fr_up rfl (fr_refl _ _)))) (fr_refl _ _) q1 (c89 X E c s d x1 x2 x3 x4)) (twoF (fr_up rfl (fr_up rfl (fr_up rfl (fr_up rfl (fr_up rfl (fr_refl _ _)))))) (fr_up rfl (fr_refl _ _)) q2 (m151 X E c s d x1 x2 x3 x4)))
theorem s_lean (x1 x2 x3 : Int) : OpS X 102 201 3 [(0, x1), (0, x2), (0, x3)] := S_of (op_lean X x1 x2 x3) (fun E c s d g h hb hp v g1 g2 q1 q2 => fin_P hp (twoF (fr_up rfl (fr_refl _ _)) (fr_refl _ _) q1 (c102 X E c s h.2.2.1 d x1 x2 x3)) (twoF (fr_up rfl (fr_up rfl (fr_refl _ _))) (fr_up rfl (fr_refl _ _)) q2 (m201 X E c s d x1 x2 x3)))
theorem s_table (x1 x2 : Int) : OpS X 112 215 3 [(0, x1), (0, x2)] := S_of (op_table X x1 x2) (fun E c s d g h hb hp v g1 g2 q1 q2 => fin_P hp (twoF (fr_up rfl (fr_refl _ _)) (fr_refl _ _) q1 (c112 X E c s d x1 x2)) (twoF (fr_up rfl (fr_up rfl (fr_refl _ _))) (fr_up rfl (fr_refl _ _)) q2 (m215 X E c s d x1 x2)))
theorem s_year (x1 x2 x3 : Int) : OpS X 131 242 3 [(0, x1), (0, x2), (0, x3)] := S_of (op_year X x1 x2 x3) (fun E c s d g h hb hp v g1 g2 q1 q2 => fin_P hp (twoF (fr_up rfl (fr_refl _ _)) (fr_refl _ _) q1 (c131 X E c s d x1 x2 x3)) (twoF (fr_up rfl (fr_up rfl (fr_refl _ _))) (fr_up rfl (fr_refl _ _)) q2 (m242 X E c s d x1 x2 x3)))
theorem s_prize (x1 x2 x3 : Int) : OpS X 120 225 3 [(0, x1), (0, x2), (0, x3)] := S_of (op_prize X x1 x2 x3) (fun E c s d g h hb hp v g1 g2 q1 q2 => fin_P hp (twoF (fr_up rfl (fr_up rfl (fr_refl _ _))) (fr_refl _ _) q1 (c120 X E c s d x1 x2 x3)) (twoF (fr_up rfl (fr_up rfl (fr_up rfl (fr_refl _ _)))) (fr_up rfl (fr_refl _ _)) q2 (m225 X E c s d x1 x2 x3)))
theorem s_fees (x1 x2 : Int) : OpS X 121 226 3 [(0, x1), (0, x2)] := S_of (op_fees X x1 x2) (fun E c s d g h hb hp v g1 g2 q1 q2 => fin_P hp (twoF (fr_up rfl (fr_up rfl (fr_refl _ _))) (fr_refl _ _) q1 (c121 X E c s d x1 x2)) (twoF (fr_up rfl (fr_up rfl (fr_up rfl (fr_refl _ _)))) (fr_up rfl (fr_refl _ _)) q2 (m226 X E c s d x1 x2)))
theorem s_cap (x1 : Int) : OpS X 117 221 3 [(0, x1)] := S_of (op_cap X x1) (fun E c s d g h hb hp v g1 g2 q1 q2 => fin_P hp (twoF (fr_up rfl (fr_refl _ _)) (fr_refl _ _) q1 (c117 X E c s d x1)) (twoF (fr_up rfl (fr_up rfl (fr_refl _ _))) (fr_up rfl (fr_refl _ _)) q2 (m221 X E c s d x1)))
theorem s_lay (x1 x2 x3 : Int) : OpS X 113 216 3 [(0, x1), (0, x2), (0, x3)] := S_of (op_lay X x1 x2 x3) (fun E c s d g h hb hp v g1 g2 q1 q2 => fin_P hp (twoF (fr_up rfl (fr_up rfl (fr_refl _ _))) (fr_refl _ _) q1 (c113 X E c s hb d x1 x2 x3)) (twoF (fr_up rfl (fr_up rfl (fr_up rfl (fr_refl _ _)))) (fr_up rfl (fr_refl _ _)) q2 (m216 X E c s d x1 x2 x3 g1)))
theorem s_strike (x1 : Int) : OpS X 99 160 3 [(0, x1)] := S_of (op_strike X x1) (fun E c s d g h hb hp v g1 g2 q1 q2 => by
  have f1 : fr sRP g g1 := twoF (fr_up rfl (fr_refl _ _)) (fr_refl _ _) q1 (c99 X E c s h.1 d x1)
  have hr : RN g1 := by unfold RN; rw [f1 89 10 rfl]; exact h.1.rn
  exact fin_P hp f1 (twoF (fr_up rfl (fr_up rfl (fr_refl _ _))) (fr_up rfl (fr_refl _ _)) q2 (m160 X E c s hr d x1)))
theorem s_lost (x1 x2 : Int) : OpS X 100 163 3 [(0, x1), (0, x2)] := S_of (op_lost X x1 x2) (fun E c s d g h hb hp v g1 g2 q1 q2 => by
  have f1 : fr sRP g g1 := twoF (fr_up rfl (fr_refl _ _)) (fr_refl _ _) q1 (c100 X E c s h.1 d x1 x2)
  have hr : RN g1 := by unfold RN; rw [f1 89 10 rfl]; exact h.1.rn
  exact fin_P hp f1 (twoF (fr_up rfl (fr_up rfl (fr_refl _ _))) (fr_up rfl (fr_refl _ _)) q2 (m163 X E c s hr d x1 x2)))
theorem s_kin (x1 x2 : Int) : OpS X 103 203 4 [(0, x1), (0, x2)] := fun N E c s d g h => ⟨_, g, up g 89 0 0, c103 X E c s h.1.1 h.1.2.1 d x1 x2, m203 X E c s h.1.1 d x1 x2, ST_Q h (onQ_0 (onQ_refl g) 0)⟩
theorem RP2_judge {g : Gm} (h : RP2 g) (i : Nat) : RP2 (up g 127 i (bit1 1)) := by
  have e : ∀ j, g 127 j ≠ 0 → up g 127 i (bit1 1) 127 j ≠ 0 := fun j hj => by
    rw [up_at]; split
    · decide
    · exact hj
  exact ⟨h.1, h.2.1, fun k hk q => e _ (h.2.2.1 k hk q), fun m hm hp k hk q => e _ (h.2.2.2 m hm hp k hk q)⟩
theorem s_judge (x1 x2 : Int) : OpS X 101 200 3 [(0, x1), (0, x2)] := S_of (op_judge X x1 x2) (fun E c s d g h hb hp v g1 g2 q1 q2 => by
  have f1 : fr sRP g g1 := twoF (fr_up rfl (fr_refl _ _)) (fr_refl _ _) q1 (c101 X E c s d x1 x2)
  have e10 : g1 89 10 = g 89 10 := f1 89 10 rfl
  rcases two (g := g1) q2 (m200 X E c s d x1 x2) with z | z
  · have f2 := fr_hh z.2
    have hA : RP2 (up (up (up g1 89 0 0) 127 x1.toNat (bit1 1)) 128 x1.toNat x2) := (RP2_judge ((hp.fr f1).fr (fr_up rfl (fr_refl _ _))) _).fr (fr_up rfl (fr_refl _ _))
    exact ⟨hA.fr f2, by rw [f2 89 10 rfl]; exact Int.le_of_eq e10.symm⟩
  · exact fin_P hp f1 (fr_trans (fr_up rfl (fr_refl _ _)) (fr_hh z.2)))
end TELL
