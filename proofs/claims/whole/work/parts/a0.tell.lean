/-! Part a0: piece, entry, judged, feed, mark, and the readers. -/
theorem RP2_piece {g u : Gm} (h : RP2 g) {i : Nat} {x4 : Int} (h4 : 1 ≤ x4) (e94 : ∀ p, u 94 p = if p = i then 1 else g 94 p) (e97 : ∀ p, u 97 p = if p = i then x4 else g 97 p) (e101 : ∀ i, u 101 i = g 101 i) (e10 : u 89 10 = g 89 10) (e127 : ∀ i, u 127 i = g 127 i) (e130 : ∀ i, u 130 i = g 130 i) (e153 : ∀ i, u 153 i = g 153 i) (e157 : ∀ i, u 157 i = g 157 i) : RP2 u := by
  have hn : nE u = nE g := by unfold nE; rw [e10]
  refine ⟨fun p hp q => ?_, fun e he => ?_, fun k hk q => by rw [e127, e130]; rw [e130] at q; exact h.2.2.1 k hk q, fun m hm hp k hk q => by rw [e127, e157]; rw [e157] at q; rw [e153] at hp; exact h.2.2.2 m hm hp k hk q⟩
  · rw [e97]
    rw [e94] at q
    by_cases z : p = i
    · rw [if_pos z]; exact h4
    · rw [if_neg z]; rw [if_neg z] at q; exact h.1 p hp q
  · rw [hn] at he
    obtain ⟨⟨p, h1, h2⟩, h3⟩ := h.2.1 e he
    refine ⟨⟨p, h1, by rw [e101]; exact h2⟩, fun q hq hb => ?_⟩
    rw [e101] at hb
    rw [e94]
    split
    · decide
    · exact h3 q hq hb
theorem RP2_entry {g u : Gm} (h : RP2 g) {x3 : Int} (hp : ∃ p : Nat, p < 40 ∧ tb x3 p = true) (hq : ∀ p : Nat, p < 40 → tb x3 p = true → g 94 p ≠ 0) (e94 : ∀ p, u 94 p = g 94 p) (e97 : ∀ p, u 97 p = g 97 p) (e101 : ∀ i, u 101 i = if i = nE g then x3 else g 101 i) (e10 : nE u = nE g + 1) (e127 : ∀ i, u 127 i = g 127 i) (e130 : ∀ i, u 130 i = g 130 i) (e153 : ∀ i, u 153 i = g 153 i) (e157 : ∀ i, u 157 i = g 157 i) : RP2 u := by
  refine ⟨fun p hp q => by rw [e97]; rw [e94] at q; exact h.1 p hp q, fun e he => ?_, fun k hk q => by rw [e127, e130]; rw [e130] at q; exact h.2.2.1 k hk q, fun m hm hp k hk q => by rw [e127, e157]; rw [e157] at q; rw [e153] at hp; exact h.2.2.2 m hm hp k hk q⟩
  rw [e101]
  by_cases z : e = nE g
  · rw [if_pos z]
    exact ⟨hp, fun p h1 h2 => by rw [e94]; exact hq p h1 h2⟩
  · rw [if_neg z]
    obtain ⟨h1, h2⟩ := h.2.1 e (by omega)
    exact ⟨h1, fun p h3 h4 => by rw [e94]; exact h2 p h3 h4⟩
theorem RB_RU {E : List (Nat × Nat)} {g u : Gm} (hb : RB g) (hu : RU E g) (e : ∀ x i, (x = 0 ∨ (11 ≤ x ∧ x ≤ 26) ∨ (106 ≤ x ∧ x ≤ 114) ∨ 159 ≤ x) → u x i = g x i) : RB u ∧ RU E u := by
  have keep : ∀ tx r k, RG tx E r k g → RG tx E r k u := fun tx r k hg => by
    have hl := RG_lt hg
    have := RG_keep (E2 := []) (g' := u) hg (fun x i _ _ => e x i (by omega)) (fun x _ _ => e x k (by omega)) (fun x i _ _ _ _ => e x i (by omega)) (fun i _ _ => e 114 i (by omega))
    rw [List.append_nil] at this
    exact this
  refine ⟨⟨fun k hk => by rw [e 16 k (by omega), e 106 k (by omega)]; exact hb.1 k hk, fun k hk => by rw [e 16 k (by omega)]; exact hb.2.1 k hk, fun k => by rw [e 106 k (by omega)]; exact hb.2.2 k⟩, ?_⟩
  obtain ⟨u1, ⟨r1, u2, u3⟩, r2, u4, u5⟩ := hu
  refine ⟨fun k hk => ?_, ⟨r1, by rw [e 0 3 (by omega)]; exact u2, keep _ _ _ u3⟩, r2, by rw [e 0 4 (by omega)]; exact u4, keep _ _ _ u5⟩
  rw [e 16 k (by omega)]
  rcases u1 k hk with q | ⟨r, q1, q2⟩
  · exact Or.inl q
  · exact Or.inr ⟨r, q1, keep _ _ _ q2⟩
section TELL2
variable (X : MExt)
theorem s_piece (x1 x2 x3 x4 x5 : Int) : OpS X 91 153 5 [(0, x1), (0, x2), (0, x3), (0, x4), (0, x5)] := S_of (op_piece X x1 x2 x3 x4 x5) (fun E c s d g h hb hp v g1 g2 q1 q2 => by
  have f1 : fr sRP g g1 := twoF (fr_up rfl (fr_up rfl (fr_up rfl (fr_up rfl (fr_refl _ _))))) (fr_refl _ _) q1 (c91 X E c s h.1 h.2.1 d x1 x2 x3 x4 x5)
  have hr : RN g1 := by unfold RN; rw [f1 89 10 rfl]; exact h.1.rn
  have e10 : g1 89 10 = g 89 10 := f1 89 10 rfl
  rcases two (g := g1) q2 (m153 X E c s hr d x1 x2 x3 x4 x5) with z | z
  · have f2 := fr_hh z.2
    have e2 : g2 89 10 = g1 89 10 := f2 89 10 rfl
    refine ⟨RP2_piece (hp.fr f1) (i := x1.toNat) (x4 := x4) z.1.2.2.2.1.1 (fun p => ?_) (fun p => ?_) (fun i => f2 101 i rfl) e2 (fun i => f2 127 i rfl) (fun i => f2 130 i rfl) (fun i => f2 153 i rfl) (fun i => f2 157 i rfl), by rw [e2, e10]; exact Int.le_refl _⟩
    · rw [f2 94 p rfl, up_cell (by decide), up_cell (by decide), up_cell (by decide), up_cell (by decide), up_at]; rfl
    · rw [f2 97 p rfl, up_cell (by decide), up_at]; rfl
  · exact fin_P hp f1 (fr_trans (fr_up rfl (fr_refl _ _)) (fr_hh z.2)))
theorem s_entry (x1 x2 x3 x5 : Int) (h3 : in64 x3) : OpS X 96 156 5 [(0, x1), (0, x2), (1, x3), (0, x5)] := S_of (op_entry X x1 x2 x3 x5 h3) (fun E c s d g h hb hp v g1 g2 q1 q2 => by
  have f1 : fr sRP g g1 := twoF (by unfold addC; exact fr_up rfl (fr_up rfl (fr_up rfl (fr_up rfl (fr_up rfl (fr_up rfl (fr_up rfl (fr_refl _ _)))))))) (fr_refl _ _) q1 (c96 X E c s h.1 h.2.1 hb d x1 x2 x3 x5 h3)
  have hr : RN g1 := by unfold RN; rw [f1 89 10 rfl]; exact h.1.rn
  have e10 : g1 89 10 = g 89 10 := f1 89 10 rfl
  have hn1 := hr.n2
  rcases two (g := g1) q2 (m156 hr (d + 2) x1 x2 x3 x5) with z | z
  · have f2 := fr_hh z.2
    have e2 : g2 89 10 = ((nE g1 + 1 : Nat) : Int) := f2 89 10 rfl
    obtain ⟨⟨_, _, _, _, _, b1, t1, _⟩, _⟩ := z
    refine ⟨RP2_entry (hp.fr f1) (x3 := x3) ?_ (fun p hp hb => (t1 p hp hb).1) (fun i => f2 94 i rfl) (fun i => f2 97 i rfl) (fun i => ?_) (by unfold nE; rw [e2, Int.toNat_natCast]; rfl) (fun i => f2 127 i rfl) (fun i => f2 130 i rfl) (fun i => f2 153 i rfl) (fun i => f2 157 i rfl), by rw [e2]; omega⟩
    · apply Classical.byContradiction
      intro hno
      have := sm_bound (f := fun i => bI (tb x3 i = true)) (a := 0) (b := 0) (n := 40) (fun i hi => by rw [bI_f (fun y => hno ⟨i, hi, y⟩)]; exact ⟨Int.le_refl _, Int.le_refl _⟩)
      have hb1 := b1.1
      unfold bits40 at hb1
      omega
    · rw [f2 101 i rfl]
      show up _ 89 10 _ 101 i = _
      rw [up_cell (by decide), up_cell (by decide), up_cell (by decide), up_cell (by decide), up_at]
      rfl
  · exact fin_P hp f1 (fr_trans (fr_up rfl (fr_refl _ _)) (fr_hh z.2)))
abbrev judP (g : Gm) (x1 x2 : Int) : Prop := (0 ≤ x1 ∧ x1 ≤ 9 ∧ g 106 x1.toNat ≠ 0) ∧ (x2 = -1 ∨ ((0 ≤ x2 ∧ x2 ≤ 3 ∧ g 127 x2.toNat ≠ 0) ∧ ¬ kinP g x2 x1))
theorem s_judged (x1 x2 : Int) : OpS X 110 213 4 [(0, x1), (0, x2)] := by
  intro N E c s d g h
  have i0 := h.1.1
  have cl : Call prog clsT X (d + 4) 110 [(2, 0), (0, x1), (0, x2)] (mk E c s (hh g)) = if judP g x1 x2 then some ((0, 1), mk E c s (hh (up g 39 x1.toNat x2))) else some ((0, 0), mk E c s (hh g)) := by
    rw [rc110_, call2 (show Call prog clsT X (d + 3) 97 _ _ = _ from c97 X E c s (d + 1) x1), push2, r110_3, nun (h.1.2.1.of x1)]
    by_cases h0 : 0 ≤ x1 ∧ x1 ≤ 9 ∧ g 106 x1.toNat ≠ 0
    case neg => rw [if_neg h0, if_neg (fun q => h0 q.1)]
    rw [if_pos h0, cmp_eq]
    by_cases h1 : x2 = -1
    · rw [if_pos h1, inb_is, if_pos (by omega), if_pos ⟨h0, Or.inl h1⟩]
    rw [if_neg h1, call0 (show Call prog clsT X (d + 3) 34 _ _ = _ from c34 X E c s i0.2.2.1 (d + 1) x2), push0, r110_13, cmp_eq, bI_eq0]
    by_cases h2 : 0 ≤ x2 ∧ x2 ≤ 3 ∧ g 127 x2.toNat ≠ 0
    case neg => rw [if_pos h2, if_neg (fun q => by rcases q.2 with y | y; exact h1 y; exact h2 y.1)]
    rw [if_neg (fun q => q h2), call0 (show Call prog clsT X (d + 3) 104 _ _ = _ from c104 X E c s i0.1 i0.2.1 i0.2.2.1 i0.2.2.2.2.2 d x2 x1 h2), push0, r110_18, cmp_eq, bI_eq0]
    by_cases h3 : kinP g x2 x1
    · rw [if_neg (fun q => q h3), if_neg (fun q => by rcases q.2 with y | y; exact h1 y; exact y.2 h3)]
    · rw [if_pos h3, inb_is, if_pos (by omega), if_pos ⟨h0, Or.inr ⟨h2, h3⟩⟩]
  have ml : ∀ u : Gm, RE u → Call prog clsT X (d + 4) 213 [(2, 89), (0, x1), (0, x2)] (mk E c s (hh u)) = if judP u x1 x2 then some ((0, 1), mk E c s (hh (up (up u 89 0 0) 130 x1.toNat x2))) else some ((0, 0), mk E c s (hh (up u 89 0 0))) := fun u hu => by
    have hu0 : RE (up u 89 0 0) := hu.fr (fr_up rfl (fr_refl _ _))
    rw [rc213_, call0 (show Call prog clsT X (d + 3) 157 [(2, 89), (0, x1)] (mk E c s (hh (up u 89 0 0))) = some ((0, bI (0 ≤ x1 ∧ x1 ≤ 9 ∧ u 106 x1.toNat ≠ 0)), mk E c s (hh (up u 89 0 0))) from m157 X E c s (g := up u 89 0 0) (d + 1) x1), push0, r213_6, cmp_eq, bI_eq0]
    by_cases h0 : 0 ≤ x1 ∧ x1 ≤ 9 ∧ u 106 x1.toNat ≠ 0
    case neg => rw [if_pos h0, if_neg (fun q => h0 q.1)]
    rw [if_neg (fun q => q h0), cmp_eq]
    by_cases h1 : x2 = -1
    · rw [if_pos h1, inb_is, if_pos (by omega), if_pos ⟨h0, Or.inl h1⟩]
    rw [if_neg h1, call0 (show Call prog clsT X (d + 3) 202 [(2, 89), (0, x2)] (mk E c s (hh (up u 89 0 0))) = some ((0, bI (0 ≤ x2 ∧ x2 ≤ 3 ∧ u 127 x2.toNat ≠ 0)), mk E c s (hh (up u 89 0 0))) from m202 X E c s (g := up u 89 0 0) (d + 1) x2), push0, r213_13, cmp_eq, bI_eq0]
    by_cases h2 : 0 ≤ x2 ∧ x2 ≤ 3 ∧ u 127 x2.toNat ≠ 0
    case neg => rw [if_pos h2, if_neg (fun q => by rcases q.2 with y | y; exact h1 y; exact h2 y.1)]
    have hz : kinP (up u 89 0 0) x2 x1 ↔ kinP u x2 x1 := Iff.rfl
    rw [if_neg (fun q => q h2), call0 (show Call prog clsT X (d + 3) 204 _ _ = _ from m204 X E c s hu0 (d + 2) x2 x1 ⟨h2.1, h2.2.1⟩), push0, bI_iff hz, r213_18, cmp_eq, bI_eq0]
    by_cases h3 : kinP u x2 x1
    · rw [if_neg (fun q => q h3), if_neg (fun q => by rcases q.2 with y | y; exact h1 y; exact y.2 h3)]
    · rw [if_pos h3, inb_is, if_pos (by omega), if_pos ⟨h0, Or.inr ⟨h2, h3⟩⟩]
  by_cases hc : judP g x1 x2
  case neg => exact ⟨0, g, _, cl.trans (if_neg hc), (ml g i0.1).trans (if_neg hc), ST_Q h (onQ_0 (onQ_refl g) 0)⟩
  have hr1 : RE (up g 39 x1.toNat x2) := i0.1.fr (fr_up rfl (fr_refl _ _))
  have hc1 : judP (up g 39 x1.toNat x2) x1 x2 := hc
  refine ⟨1, _, _, cl.trans (if_pos hc), (ml _ hr1).trans (if_pos hc1), INV_X h.1 ⟨i0.1.fr ?_, i0.2.1.fr ?_, ?_, i0.2.2.2.1.fr ?_, i0.2.2.2.2.1.fr ?_, i0.2.2.2.2.2.fr ?_⟩ ?_ (Int.le_refl _), ?_⟩
  case refine_3 =>
    obtain ⟨a1, a2, a3, a4, a5, a6, a7, a8, a9, a10, a11⟩ := i0.2.2.1
    refine ⟨a1, a2, a3, a4, a5, a6, fun k => ?_, fun k hk => ?_, a9, a10, a11⟩
    · show up g 39 x1.toNat x2 39 k = up (up (up g 39 x1.toNat x2) 89 0 0) 130 x1.toNat x2 130 k
      rw [up_at, up_at, up_cell (by decide), up_cell (by decide), a7]
    · show -1 ≤ up (up (up g 39 x1.toNat x2) 89 0 0) 130 x1.toNat x2 130 k ∧ up (up (up g 39 x1.toNat x2) 89 0 0) 130 x1.toNat x2 130 k ≤ 3
      rw [up_at, up_cell (by decide), up_cell (by decide)]
      have := a8 k hk
      split
      · rcases hc.2 with y | y <;> omega
      · exact this
  case refine_8 =>
    refine ⟨h.2.1, h.2.2.1, fun k hk q => ?_, h.2.2.2.2⟩
    have e : up (up (up g 39 x1.toNat x2) 89 0 0) 130 x1.toNat x2 130 k = if k = x1.toNat then x2 else g 130 k := by rw [up_at]; rfl
    rw [e] at q
    show g 127 (up (up (up g 39 x1.toNat x2) 89 0 0) 130 x1.toNat x2 130 k).toNat ≠ 0
    rw [e]
    by_cases z : k = x1.toNat
    · rw [if_pos z]; rw [if_pos z] at q
      rcases hc.2 with y | y
      · omega
      · exact y.1.2.2
    · rw [if_neg z]; rw [if_neg z] at q
      exact h.2.2.2.1 k hk q
  all_goals repeat (first | exact fr_refl _ _ | refine fr_up rfl ?_)
theorem s_feed (x y z : Int) : OpS X 92 164 2 [(1, x), (1, y), (1, z)] := by
  intro N E c s d g h
  obtain ⟨⟨i0, ib, it, is, iu⟩, hp⟩ := h
  obtain ⟨v, g1, g2, a1, a2, a3, a4, a5⟩ := op_feed X x y z E c s d g i0 it
  have e : ∀ x i, (x = 0 ∨ (11 ≤ x ∧ x ≤ 26) ∨ (106 ≤ x ∧ x ≤ 114) ∨ 159 ≤ x) → g2 x i = g x i := fun x i hx => a5 x i (by
    unfold sNT
    split <;> first | rfl | omega)
  have hbu := RB_RU ib iu e
  have e10 : g2 89 10 = g 89 10 := a5 89 10 rfl
  refine ⟨v, g1, g2, a1, a2, ⟨a3, hbu.1, a4, RS_fr is (fun x i hx => a5 x i ?_) (Int.le_of_eq e10.symm), hbu.2⟩, hp.fr (fun x i hs => a5 x i ?_)⟩
  · unfold sNT
    split
    · omega
    · omega
    · omega
    · have : i = 81 := by omega
      subst this; rfl
    · rfl
  · unfold sRP at hs
    split at hs
    all_goals first | rfl | (simp at hs; done) | (simp at hs; subst hs; rfl)
end TELL2
