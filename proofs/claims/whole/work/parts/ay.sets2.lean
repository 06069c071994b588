/-! Part ay: the best two sets, on both sides. -/
theorem b1_0 : bit1 0 = 0 := rfl
theorem bits_min : ∀ S : Nat, S < 1024 → S ≠ 0 → 1 ≤ pcn S 10 := by decide +kernel
section SETS2
variable (X : MExt) {E : List (Nat × Nat)} {g : Gm}
/-- the class goes over the sets for the first class -/
theorem c144_loop {k x n r : Nat} {WA MA WB MB : Nat → Int} {B : Nat → Int} {K : Nat → Nat} (hn : n ≤ 10) (hA : SVP X E g k x n r WA MA) (hMB : ∀ S, S < 2 ^ n → in32 (mm MB S)) (hB : ∀ S, S < 2 ^ n → bw (gd WB) (mm MB) S (K S) (B S)) (x4 : Int) (d c s : Nat) : ∀ (m S ch : Nat) (best : Int) (w3 w6 w7 w10 w13 w14 : MV) (u : Gm), S + m = 2 ^ n → onQ g u → (∀ i, i < n → u 86 i = (fpX g x i : Int)) → (∀ S, S < 2 ^ n → u 87 S = B S ∧ u 88 S = (K S : Int)) → ((best = -4611686018427387904 ∧ ∀ s', s' < S → ¬ gd WA s') ∨ (ch < S ∧ gd WA ch ∧ best = mm MA ch + B (2 ^ n - 1 - ch) ∧ ∀ s', s' < S → gd WA s' → mm MA s' + B (2 ^ n - 1 - s') ≤ best ∧ (mm MA s' + B (2 ^ n - 1 - s') = best → ch ≤ s'))) → ∃ (a b : Nat) (v : Int) (u' : Gm), bst2 n (gd WA) (gd WB) (mm MA) (mm MB) a b v ∧ onQ g u' ∧ Ev prog clsT X (d + 7) mc144 60 [(2, 0), (0, (x : Int)), (0, (k : Int)), w3, (0, x4), (2, (r : Int)), w6, w7, (0, ((2 ^ n - 1 : Nat) : Int)), (1, best), w10, (0, (ch : Int)), (0, (S : Int)), w13, w14] [] (mk E c s (hh u)) = some ((1, if x4 = 0 then v else pB (fpX g x) (if x4 = 1 then a else b) n), mk E c s (hh u')) := by
  have hp := p2_le (show n < 11 by omega)
  have hKb : ∀ S, S < 2 ^ n → K S < 2 ^ n ∧ in32 (B S) := fun S hS => by
    obtain ⟨b1, b2, b3, b4, b5⟩ := hB S hS
    have b2 := sb_le b1 b2
    have hK : K S < 2 ^ n := by omega
    exact ⟨hK, by rw [b4]; exact hMB (K S) hK⟩
  intro m
  induction m with
  | zero =>
    intro S ch best w3 w6 w7 w10 w13 w14 u hS hu hc hBK hI
    have hS : S = 2 ^ n := by omega
    subst hS
    obtain ⟨i1, i2, i3, i4⟩ := hI.resolve_left (fun q => q.2 0 (by omega) (Or.inl rfl))
    have hb := bst2_of (show n < 11 by omega) hB i1 i2 (fun s' hs' hg => by rw [← i3]; exact i4 s' hs' hg)
    rw [← i3] at hb
    refine ⟨ch, K (2 ^ n - 1 - ch), best, u, hb, hu, ?_⟩
    have hV := cmp_ok n (by omega) ch i1
    have hL : 2 ^ n - 1 - ch < 2 ^ n := by omega
    have iV : 0 ≤ ((2 ^ n - 1 - ch : Nat) : Int) ∧ ((2 ^ n - 1 - ch : Nat) : Int) < ((1024 : Nat) : Int) := by omega
    have s1 := c148x X (E := E) hn i1 (d + 6) c s hc
    have s1 : Call prog clsT X (d + 7) 148 [(2, 0), (0, (ch : Int))] (mk E c s (hh u)) = _ := s1
    have s2 := c148x X (E := E) hn (hKb _ hL).1 (d + 6) c s hc
    have s2 : Call prog clsT X (d + 7) 148 [(2, 0), (0, (K (2 ^ n - 1 - ch) : Int))] (mk E c s (hh u)) = _ := s2
    rw [r144_60, cmp_gt, if_pos (by omega), cmp_ne]
    by_cases z0 : x4 = 0
    · rw [if_neg (fun q => q z0), if_pos z0]
    rw [if_pos z0, if_neg z0, cmp_ne]
    by_cases z1 : x4 = 1
    · rw [if_neg (fun q => q z1), if_pos z1, call1 s1, push1, r144_121]
    · rw [if_pos z1, if_neg z1, hV, inb_is, if_pos iV, Int.toNat_natCast, (hBK _ hL).2, call1 s2, push1, r144_121]
  | succ m ih =>
    intro S ch best w3 w6 w7 w10 w13 w14 u hS hu hc hBK hI
    have hS2 : S < 2 ^ n := by omega
    obtain ⟨u1, a1, a2⟩ := hA.2.1 S hS2 (d + 1) c s u hu hc
    have a1 : Call prog clsT X (d + 7) 147 [(2, 0), (0, (x : Int)), (0, (k : Int)), (2, (r : Int)), (0, (S : Int))] (mk E c s (hh u)) = _ := a1
    have hu1 := onQ_2 hu a2
    have hc1 : ∀ i, i < n → u1 86 i = (fpX g x i : Int) := fun i hi => by rw [a2 86 i (by decide) (by decide)]; exact hc i hi
    have hBK1 : ∀ S, S < 2 ^ n → u1 87 S = B S ∧ u1 88 S = (K S : Int) := fun S hS => by
      rw [a2 87 S (by decide) (by decide), a2 88 S (by decide) (by decide)]; exact hBK S hS
    have hV := cmp_ok n (by omega) S hS2
    have hL : 2 ^ n - 1 - S < 2 ^ n := by omega
    have iV : 0 ≤ ((2 ^ n - 1 - S : Nat) : Int) ∧ ((2 ^ n - 1 - S : Nat) : Int) < ((1024 : Nat) : Int) := by omega
    have mS := (hA.1 S hS2).1
    have bS := (hKb _ hL).2
    have mS2 : -2147483648 ≤ mm MA S ∧ mm MA S < 2147483648 := mS
    have bS2 : -2147483648 ≤ B (2 ^ n - 1 - S) ∧ B (2 ^ n - 1 - S) < 2147483648 := bS
    rw [r144_60, cmp_gt, if_neg (by omega), call1 a1, push1, r144_69, cmp_eq, lcmp0, w32_succ (i := S) (by omega)]
    by_cases z : gd WA S
    case neg =>
      have e : wo WA MA S = -4611686018427387904 := if_neg z
      rw [e, if_pos rfl]
      refine ih (S + 1) ch best _ _ _ _ _ _ u1 (by omega) hu1 hc1 hBK1 ?_
      rcases hI with ⟨i1, i2⟩ | ⟨i1, i2, i3, i4⟩
      · refine Or.inl ⟨i1, fun s' hs' => ?_⟩
        by_cases y : s' = S
        · rw [y]; exact z
        · exact i2 s' (by omega)
      · refine Or.inr ⟨by omega, i2, i3, fun s' hs' hg => ?_⟩
        by_cases y : s' = S
        · rw [y] at hg; exact absurd hg z
        · exact i4 s' (by omega) hg
    have e : wo WA MA S = mm MA S := if_pos z
    rw [e, if_neg (by omega), hV, inb_is, if_pos iV, Int.toNat_natCast, (hBK1 _ hL).1, w64_of (by omega) (by omega), cmp_le, lcmple]
    by_cases y : mm MA S + B (2 ^ n - 1 - S) ≤ best
    · rw [if_pos y]
      refine ih (S + 1) ch best _ _ _ _ _ _ u1 (by omega) hu1 hc1 hBK1 ?_
      rcases hI with ⟨i1, i2⟩ | ⟨i1, i2, i3, i4⟩
      · omega
      · refine Or.inr ⟨by omega, i2, i3, fun s' hs' hg => ?_⟩
        by_cases q : s' = S
        · rw [q]; exact ⟨y, fun _ => by omega⟩
        · exact i4 s' (by omega) hg
    · rw [if_neg y, inb_is, if_pos iV]
      refine ih (S + 1) S _ _ _ _ _ _ _ u1 (by omega) hu1 hc1 hBK1 (Or.inr ⟨by omega, z, rfl, fun s' hs' hg => ?_⟩)
      by_cases q : s' = S
      · rw [q]; exact ⟨Int.le_refl _, fun _ => Nat.le_refl _⟩
      · rcases hI with ⟨i1, i2⟩ | ⟨i1, i2, i3, i4⟩
        · exact absurd hg (i2 s' (by omega))
        · have := (i4 s' (by omega) hg).1
          omega
/-- the reference's worths stand in its cells from t0 on -/
def vaP (W M : Nat → Int) (n t0 : Nat) (u : Gm) : Prop := ∀ S, S < 2 ^ n → u 150 (t0 + S) = bI (gd W S) ∧ (gd W S → u 151 (t0 + S) = mm M S)
def vaF (t0 : Nat) (u v : Gm) : Prop := ∀ y i, ¬ (117 ≤ y ∧ y ≤ 126) → ¬ ((y = 150 ∨ y = 151) ∧ t0 ≤ i ∧ i < t0 + 1024) → v y i = u y i
theorem onQ_va {t0 : Nat} {u v : Gm} (h : onQ g u) (h2 : vaF t0 u v) : onQ g v := fun x i hs => (h2 x i (sq_rf hs) (fun z => by rcases z.1 with w | w <;> rw [w] at hs <;> cases hs)).trans (h x i hs)
/-- values -/
theorem m240x {N : Int} (h : ST N E g) {k x n r : Nat} {W M : Nat → Int} (hk : k < 10) (hx : x < 10) (hrg : RG 0 E r k g) (hn : n ≤ 10) (hV : SVP X E g k x n r W M) (t0 : Nat) (ht : t0 ≤ 1024) (d c s : Nat) {u : Gm} (hu : onQ g u) (h76 : u 89 76 = (n : Int)) (hf : ∀ i, i < n → u 149 i = (fpX g x i : Int)) : ∃ u', Call prog clsT X (d + 7) 240 [(2, 89), (0, (k : Int)), (0, (x : Int)), (0, (t0 : Int))] (mk E c s (hh u)) = some ((3, 0), mk E c s (hh u')) ∧ vaF t0 u u' ∧ vaP W M n t0 u' := by
  have hp := p2_le (show n < 11 by omega)
  have hwg : (g 107 k ≤ 0 → g 108 k = 10) ∧ (0 < g 107 k → g 108 k ≠ 10) := by
    obtain ⟨_, _, _, _, _, _, _, b1, _, b2, _⟩ := hrg
    have b2 := b2 rfl
    exact ⟨fun y => b2.1 (by omega), fun y z => by have := b2.2 (by omega); omega⟩
  have loop : ∀ (m S : Nat) (v : Gm), S + m = 2 ^ n → vaF t0 u v → (∀ S', S' < S → v 150 (t0 + S') = bI (gd W S') ∧ (gd W S' → v 151 (t0 + S') = mm M S')) → ∃ u', Ev prog clsT X (d + 6) mc240 9 [(2, 89), (0, (k : Int)), (0, (x : Int)), (0, (t0 : Int)), (0, w32 (stOf g x k + 1)), (0, (S : Int))] [] (mk E c s (hh v)) = some ((3, 0), mk E c s (hh u')) ∧ vaF t0 u u' ∧ vaP W M n t0 u' := by
    intro m
    induction m with
    | zero =>
      intro S v hS hv hb
      have hS : S = 2 ^ n := by omega
      subst hS
      have v76 : v 89 76 = (n : Int) := (hv 89 76 (by decide) (by omega)).trans h76
      refine ⟨v, ?_, hv, hb⟩
      rw [r240_9, v76, shl_ok n (by omega), cmp_ge, if_pos (Int.le_refl _)]
    | succ m ih =>
      intro S v hS hv hb
      have hS2 : S < 2 ^ n := by omega
      have hS10 : S < 1024 := by omega
      have v76 : v 89 76 = (n : Int) := (hv 89 76 (by decide) (by omega)).trans h76
      have e0 : w32 ((t0 : Int) + (S : Int)) = ((t0 + S : Nat) : Int) := by rw [w32_of (by omega) (by omega)]; omega
      have i2 : 0 ≤ ((t0 + S : Nat) : Int) ∧ ((t0 + S : Nat) : Int) < ((2048 : Nat) : Int) := by omega
      have fr1 : ∀ b : Int, vaF t0 u (up (up v 150 (t0 + S) b) 151 (t0 + S) 0) := fun b y i z1 z2 => by
        rw [up_ne (fun q => z2 (by omega)), up_ne (fun q => z2 (by omega))]
        exact hv y i z1 z2
      have old : ∀ v' : Gm, (∀ y i, ¬ (117 ≤ y ∧ y ≤ 126) → ¬ ((y = 150 ∨ y = 151) ∧ i = t0 + S) → v' y i = v y i) → ∀ S', S' < S → v' 150 (t0 + S') = bI (gd W S') ∧ (gd W S' → v' 151 (t0 + S') = mm M S') := fun v' he S' h' => by
        rw [he 150 _ (by decide) (by omega), he 151 _ (by decide) (by omega)]
        exact hb S' h'
      have s158 : ∀ v' : Gm, Call prog clsT X (d + 6) 158 [(1, (S : Int))] (mk E c s (hh v')) = some ((0, bits40 (S : Int)), mk E c s (hh v')) := fun v' => m158 X E c s (g := v') (d + 5) (S : Int)
      have s152 : ∀ v' : Gm, Call prog clsT X (d + 6) 152 [(0, bits40 (S : Int)), (0, 1), (0, 8)] (mk E c s (hh v')) = some ((0, bI (1 ≤ bits40 (S : Int) ∧ bits40 (S : Int) ≤ 8)), mk E c s (hh v')) := fun v' => m152 X E c s (g := v') (d + 5) _ 1 8
      rw [r240_9, v76, shl_ok n (by omega), cmp_ge, if_neg (by omega), e0, cmp_ne]
      by_cases z0 : S = 0
      · have hz : ¬ (1 ≤ bits40 (S : Int) ∧ bits40 (S : Int) ≤ 8) := fun q => by
          rw [z0, ← pcn_40 0 (by decide)] at q
          exact absurd q.1 (by decide)
        rw [if_neg (fun q => q (by omega)), inb_is, if_pos i2, inb_is, if_pos i2, Int.toNat_natCast, b1_1, call0 (s158 _), push0, r240_36, call0 (s152 _), push0, bI_f hz, r240_39, cmp_ne, if_neg (by decide), w32_succ (by omega)]
        refine ih (S + 1) _ (by omega) (fr1 1) (fun S' h' => ?_)
        by_cases y : S' = S
        · rw [y, up_cell (by decide), up_same, up_same, bI_t (Or.inl z0)]
          refine ⟨rfl, fun _ => ?_⟩
          unfold mm
          rw [if_pos z0]
        · exact old _ (fun y i z1 z2 => by rw [up_ne (fun q => z2 (by omega)), up_ne (fun q => z2 (by omega))]) S' (by omega)
      rw [if_pos (by omega), inb_is, if_pos i2, inb_is, if_pos i2, Int.toNat_natCast, b1_0, call0 (s158 _), push0, r240_36, call0 (s152 _), push0, r240_39, cmp_ne, bI_ne0, w32_succ (by omega)]
      have b1 : 1 ≤ bits40 (S : Int) := by
        have := bits_min S hS10 z0
        rw [← pcn_40 S hS10]
        omega
      by_cases z8 : bits40 (S : Int) ≤ 8
      case neg =>
        rw [if_neg (fun q => q (fun w => z8 w.2))]
        refine ih (S + 1) _ (by omega) (fr1 0) (fun S' h' => ?_)
        by_cases y : S' = S
        · have hng : ¬ gd W S := fun q => by
            rcases q with q | q
            · exact z0 q
            · exact z8 q.1
          rw [y, up_cell (by decide), up_same, bI_f hng]
          exact ⟨rfl, fun q => absurd q hng⟩
        · exact old _ (fun y i z1 z2 => by rw [up_ne (fun q => z2 (by omega)), up_ne (fun q => z2 (by omega))]) S' (by omega)
      rw [if_pos (fun q => q ⟨b1, z8⟩)]
      obtain ⟨v1, hv1⟩ : ∃ v1, v1 = up (up v 150 (t0 + S) 0) 151 (t0 + S) 0 := ⟨_, rfl⟩
      have f1 : vaF t0 u v1 := by rw [hv1]; exact fr1 0
      have q1 := onQ_va hu f1
      rw [← hv1]
      have s241 := m241x X (E := E) (fp := fpX g x) (S := S) hn (d + 5) c s ((f1 89 76 (by decide) (by omega)).trans h76) (fun i hi => (f1 149 i (by decide) (by omega)).trans (hf i hi))
      have s241 : Call prog clsT X (d + 6) 241 [(2, 89), (0, (S : Int))] (mk E c s (hh v1)) = _ := s241
      have s191 := m191 X E c s (g := v1) (k := k) (x := x) (by omega) hx (by rw [q1 107 k rfl, q1 108 k rfl]; exact hwg) (d + 4) (pB (fpX g x) S n) (w32 (stOf g x k + 1))
      rw [rowX_Q q1] at s191
      have s191 : Call prog clsT X (d + 6) 191 [(2, 89), (0, (k : Int)), (0, (x : Int)), (1, pB (fpX g x) S n), (0, w32 (stOf g x k + 1))] (mk E c s (hh v1)) = some ((3, 0), mk E c s (hh (wr 126 1 11 v1 (rowS g k x n S)))) := s191
      obtain ⟨p192, p207⟩ := hV.2.2 S hS2 z0
      have m2 : onM g (wr 126 1 11 v1 (rowS g k x n S)) := onM_rf (M_of q1) rfQ_126
      obtain ⟨u2, c1, c2, c3⟩ := p192 d c s (wr 126 1 11 v1 (rowS g k x n S)) m2 (fun f hf => by rw [w126_at (by omega) (by omega), Nat.add_sub_cancel])
      have e150 : ∀ b : Int, vaF t0 u (up u2 150 (t0 + S) b) ∧ fits (fun f => (rowS g k x n S).getD f 0) (up u2 150 (t0 + S) b) := fun b => by
        refine ⟨fun y i z1 z2 => ?_, fun f hf => ?_⟩
        · rw [up_ne (fun q => z2 (by omega)), c3 y i z1, rfQ_126 y i z1]
          exact f1 y i z1 z2
        · rw [up_cell (by decide)]
          exact c2 f hf
      have mem : ∀ b : Int, ∃ u3, Call prog clsT X (d + 6) 207 [(2, 89), (0, (k : Int))] (mk E c s (hh (up u2 150 (t0 + S) b))) = some ((0, mm M S), mk E c s (hh u3)) ∧ rfQ (up u2 150 (t0 + S) b) u3 := fun b => p207 (d + 1) c s _ (M_of (onQ_va hu (e150 b).1)) (e150 b).2
      have nxt : ∀ b : Int, b = bI (gd W S) → ∃ u', ((Call prog clsT X (d + 6) 207 [(2, 89), (0, (k : Int))] (mk E c s (hh (up u2 150 (t0 + S) b)))).bind fun r1 => if r1.1.1 = 4 then none else Ev prog clsT X (d + 6) mc240 70 [(2, 89), (0, (k : Int)), (0, (x : Int)), (0, (t0 : Int)), (0, w32 (stOf g x k + 1)), (0, (S : Int))] (pushR r1.1 [(0, ((t0 + S : Nat) : Int)), (2, 151)]) r1.2) = some ((3, 0), mk E c s (hh u')) ∧ vaF t0 u u' ∧ vaP W M n t0 u' := fun b hbb => by
        obtain ⟨u3, d1, d2⟩ := mem b
        rw [call0 d1, push0, r240_70, inb_is, if_pos i2, Int.toNat_natCast, w32_succ (by omega)]
        refine ih (S + 1) _ (by omega) (fun y i z1 z2 => ?_) (fun S' h' => ?_)
        · rw [up_ne (fun q => z2 (by omega)), d2 y i z1]
          exact (e150 b).1 y i z1 z2
        · by_cases y : S' = S
          · rw [y, up_cell (by decide), up_same, d2 150 _ (by decide), up_same]
            exact ⟨hbb, fun _ => rfl⟩
          · refine old _ (fun y i z1 z2 => ?_) S' (by omega)
            rw [up_ne (fun q => z2 (by omega)), d2 y i z1, up_ne (fun q => z2 (by omega)), c3 y i z1, rfQ_126 y i z1, hv1, up_ne (fun q => z2 (by omega)), up_ne (fun q => z2 (by omega))]
      have w1 := (hV.1 S hS2).2
      rw [call1 s241, push1, r240_47, call3 s191, push3, r240_49, call0 c1, push0, e0, r240_57, cmp_ge, e0]
      by_cases zw : W S = -1
      · rw [if_neg (by omega), inb_is, if_pos i2, Int.toNat_natCast, b1_1]
        exact nxt 1 (bI_t (Or.inr ⟨z8, zw⟩)).symm
      · rw [if_pos (by omega), inb_is, if_pos i2, Int.toNat_natCast, b1_0]
        exact nxt 0 (bI_f (fun q => by
          rcases q with q | q
          · exact z0 q
          · exact zw q.2)).symm
  have s190 := m190 X E c s (g := u) (RN_Q h hu) (d + 5) (k : Int) (x : Int) (by omega)
  rw [stOf_Q hu] at s190
  have s190 : Call prog clsT X (d + 6) 190 [(2, 89), (0, (k : Int)), (0, (x : Int))] (mk E c s (hh u)) = _ := s190
  obtain ⟨u', a1, a2⟩ := loop (2 ^ n) 0 u (by omega) (fun _ _ _ _ => rfl) (fun S' h' => absurd h' (Nat.not_lt_zero _))
  have a1 : Ev prog clsT X (d + 6) mc240 9 [(2, 89), (0, (k : Int)), (0, (x : Int)), (0, (t0 : Int)), (0, w32 (stOf g x k + 1)), (0, 0)] [] (mk E c s (hh u)) = _ := a1
  refine ⟨u', ?_, a2⟩
  rw [show d + 7 = (d + 6) + 1 from rfl, rc240_, call0 s190, push0, r240_4]
  exact a1
end SETS2
