/-! Part 9v: clash: the words of every number. -/
def rowC (K n : Int) : List Int := [K, 1, 0, w32 (50 * K), 0, w32 (9 * K), 9, n, 0, 0, 1]
theorem f11 {f : Nat} (h : f < 11) : f = 0 ∨ f = 1 ∨ f = 2 ∨ f = 3 ∨ f = 4 ∨ f = 5 ∨ f = 6 ∨ f = 7 ∨ f = 8 ∨ f = 9 ∨ f = 10 := by omega
theorem rowC_7 {K n m : Int} {f : Nat} (hf : f < 11) : (rowC K n).getD f 0 = if f = 7 then n else (rowC K m).getD f 0 := by
  rcases f11 hf with z | z | z | z | z | z | z | z | z | z | z <;> subst z <;> rfl
theorem rowC_ok {K n : Int} (h : in32 K) (h2 : in32 n) : rowOK (fun f => (rowC K n).getD f 0) := by
  intro f
  rcases f with _ | _ | _ | _ | _ | _ | _ | _ | _ | _ | _ | f
  · exact h
  · exact (show in32 1 from in32_of (by decide) (by decide))
  · exact in32_0
  · exact in32_w _
  · exact in32_0
  · exact in32_w _
  · exact (show in32 9 from in32_of (by decide) (by decide))
  · exact h2
  · exact in32_0
  · exact in32_0
  · exact (show in32 1 from in32_of (by decide) (by decide))
  · exact in32_0
/-- how many numbers are spoken of, and the first word -/
def clS (v : Nat → Int) (p : Nat) (a : Int × Int) : Int × Int := if v p = -1 then a else (w32 (a.1 + 1), if a.1 ≠ 0 then a.2 else v p)
def clA (v : Nat → Int) : Nat → Int × Int := fo (fun p => clS v (p + 1)) (0, -1)
theorem clM_up {g : Gm} {i : Nat} (h1 : 1 ≤ i) : up (clM g (i - 1)) 126 i 0 = clM g (i + 1 - 1) := by
  funext y j
  unfold up clM
  by_cases q : y = 126 ∧ j = i
  · rw [if_pos q, if_pos ⟨q.1, by omega, by omega⟩]
  · rw [if_neg q]
    by_cases q2 : y = 126 ∧ 1 ≤ j ∧ j < 1 + (i - 1)
    · rw [if_pos q2, if_pos ⟨q2.1, q2.2.1, by omega⟩]
    · rw [if_neg q2, if_neg (by omega)]
theorem clM_0 {g : Gm} : clM g 0 = g := by funext y j; exact if_neg (by omega)
theorem clM_11 {g : Gm} : clM g 11 = wr 126 1 11 g [0, 0, 0, 0, 0, 0, 0, 0, 0, 0, 0] := by
  funext y j
  unfold clM wr
  by_cases q : y = 126 ∧ 1 ≤ j ∧ j < 1 + 11
  · rw [if_pos q, if_pos q]
    obtain ⟨_, q1, q2⟩ := q
    have : j = 1 ∨ j = 2 ∨ j = 3 ∨ j = 4 ∨ j = 5 ∨ j = 6 ∨ j = 7 ∨ j = 8 ∨ j = 9 ∨ j = 10 ∨ j = 11 := by omega
    rcases this with z | z | z | z | z | z | z | z | z | z | z <;> subst z <;> rfl
  · rw [if_neg q, if_neg q]
section CLASH
variable (X : MExt)
theorem c71 (E : List (Nat × Nat)) (c s : Nat) (g : Gm) (d : Nat) (K : Int) : Call prog clsT X (d + 2) 71 [(2, 27), (0, K)] (mk E c s (hh g)) = some ((3, 0), mk E c s (hh (wr 28 0 11 g (rowC K 0)))) := by
  rw [rc71_, call3 (show Call prog clsT X (d + 1) 248 [(2, 28), (0, 0)] (mk E c s (hh g)) = _ from m248 X E c s (CA28 E) (by decide) d 0), push3, r71_4, fil_wr, w28 rfl (by decide), w28 rfl (by decide), w28 rfl (by decide), w28 rfl (by decide), w28 rfl (by decide), w28 rfl (by decide)]
  rfl
theorem op_clash (x1 x2 : Int) : OpV X 98 199 7 [(0, x1), (0, x2)] := by
  intro N E c s d g h
  have hib := h.1.2.1
  have hiu := h.1.2.2.2.2
  have g0 := onQ_0 (onQ_refl g) 0
  have m0 := m157 X E c s (g := up g 89 0 0) (d + 4) x1
  by_cases q : 0 ≤ x1 ∧ x1 ≤ 9 ∧ g 106 x1.toNat ≠ 0
  case neg =>
    have e97 : Call prog clsT X (d + 6) 97 [(2, 0), (0, x1)] (mk E c s (hh g)) = some ((2, -1), mk E c s (hh g)) := by
      rw [show d + 6 = (d + 4) + 2 from rfl, c97 X E c s (d + 4) x1]
      by_cases z : 0 ≤ x1 ∧ x1 ≤ 9
      · rw [if_pos z, (hib.1 x1.toNat (by omega)).2 (Decidable.of_not_not (fun w => q ⟨z.1, z.2, w⟩))]
      · rw [if_neg z]
    refine ⟨-1, g, up g 89 0 0, g0, ?_, ?_⟩
    · rw [rc98_, call2 e97, push2, r98_3, if_pos ⟨rfl, by decide⟩, if_pos (by decide)]
    · rw [rc199_, call0 m0, push0, g0 106 _ rfl, bI_f q, r199_6, cmp_eq, if_pos rfl]
  obtain ⟨k, rfl⟩ := Int.eq_ofNat_of_zero_le q.1
  have hk : k < 10 := by omega
  rcases hiu.1 k hk with z | ⟨r, h16, hrg⟩
  · exact absurd ((hib.1 k hk).1 z) q.2.2
  obtain ⟨rb, hb, hrb⟩ := hiu.2.1
  have hkind : ∀ u, onQ g u → ∀ {kk : Int → Option MRes}, (fget 3584 (mk E c s (hh u)) (r : Int)).bind kk = kk (g 107 k) := fun u hu kk => by
    have hrg2 := RG_X hrg (by omega) (sameR_Q hu)
    obtain ⟨_, a1, _, _, a4, _⟩ := hrg2
    have : (fget 3584 (mk E c s (hh u)) (r : Int)).bind kk = kk (u r 0) := fgR E c s (by decide) a1.1
    rw [this, a4, hu 107 k rfl]
  have hK : 0 ≤ g 107 k ∧ g 107 k ≤ 8 := by
    obtain ⟨_, _, _, _, _, _, _, b1, b2, _⟩ := hrg
    exact ⟨b1, b2⟩
  have hne5 : (r : Int) ≠ -5 := by omega
  have hne1 : ¬ ((r : Int) = -1) := by omega
  have startC : ∀ A : Int, A = g 107 k → Call prog clsT X (d + 7) 98 [(2, 0), (0, (k : Int)), (0, x2)] (mk E c s (hh g)) = if A = 0 then some ((0, -1), mk E c s (hh g)) else Ev prog clsT X (d + 6) mc98 13 [(2, 0), (0, (k : Int)), (0, x2), (2, (r : Int)), (3, 0), (3, 0), (3, 0), (3, 0)] [(0, bI (0 ≤ x2 ∧ x2 ≤ 1))] (mk E c s (hh g)) := fun A hA => by
    rw [rc98_, call2 (show Call prog clsT X (d + 6) 97 _ _ = _ from s97 X c s h hk h16 (onQ_refl g) (d + 4)), push2, r98_3, if_pos ⟨rfl, hne5⟩, if_neg (by rw [decide_eq_true_eq]; exact hne1), hkind g (onQ_refl g), cmp_eq, hA]
    by_cases z : g 107 k = 0
    · rw [if_pos z, if_pos z]
    · rw [if_neg z, if_neg z, call0 (show Call prog clsT X (d + 6) 90 _ _ = _ from c90 X E c s (d + 5) _ _ _), push0]
  have startM : ∀ u, onQ g u → ∀ A : Int, A = g 107 k → Call prog clsT X (d + 7) 199 [(2, 89), (0, (k : Int)), (0, x2)] (mk E c s (hh u)) = if A = 0 then some ((0, -1), mk E c s (hh (up u 89 0 0))) else Ev prog clsT X (d + 6) mc199 16 [(2, 89), (0, (k : Int)), (0, x2), (3, 0), (3, 0), (3, 0), (3, 0)] [(0, bI (0 ≤ x2 ∧ x2 ≤ 1))] (mk E c s (hh (up u 89 0 0))) := fun u hu A hA => by
    have u0 := onQ_0 hu 0
    rw [rc199_, call0 (show Call prog clsT X (d + 6) 157 _ _ = _ from m157 X E c s (d + 4) _), push0, u0 106 _ rfl, bI_t q, r199_6, cmp_eq, if_neg (by decide), inb_is, if_pos (by omega), Int.toNat_natCast, cmp_eq, u0 107 k rfl, hA]
    by_cases z : g 107 k = 0
    · rw [if_pos z, if_pos z]
    · rw [if_neg z, if_neg z, call0 (show Call prog clsT X (d + 6) 152 _ _ = _ from m152 X E c s (d + 5) _ _ _), push0]
  by_cases y1 : g 107 k = 0
  · refine ⟨-1, g, up g 89 0 0, g0, ?_, ?_⟩
    · show Call prog clsT X (d + 7) 98 [(2, 0), (0, (k : Int)), (0, x2)] _ = _
      rw [startC _ rfl, if_pos y1]
    · show Call prog clsT X (d + 7) 199 [(2, 89), (0, (k : Int)), (0, x2)] _ = _
      rw [startM g (onQ_refl g) _ rfl, if_pos y1]
  by_cases y2 : 0 ≤ x2 ∧ x2 ≤ 1
  case neg =>
    refine ⟨-1, g, up g 89 0 0, g0, ?_, ?_⟩
    · show Call prog clsT X (d + 7) 98 [(2, 0), (0, (k : Int)), (0, x2)] _ = _
      rw [startC _ rfl, if_neg y1, bI_f y2, r98_13, cmp_ne, if_neg (by decide)]
    · show Call prog clsT X (d + 7) 199 [(2, 89), (0, (k : Int)), (0, x2)] _ = _
      rw [startM g (onQ_refl g) _ rfl, if_neg y1, bI_f y2, r199_16, cmp_ne, if_neg (by decide)]
  -- the words
  have hin : in32 (g 107 k) := in32_of (Int.le_trans (by decide) hK.1) (Int.le_trans hK.2 (by decide))
  have hw : ∀ n : Nat, ∃ v : Int, n < 100 → (-1 ≤ v ∧ (∀ u, onQ g u → (∀ f, f < 11 → u 28 f = (rowC (g 107 k) n).getD f 0) → ∃ u', Call prog clsT X (d + 6) 72 [(2, 27), (2, (r : Int)), (2, (rb : Int))] (mk E c s (hh u)) = some ((0, v), mk E c s (hh u')) ∧ onQ g u' ∧ ∀ f, f < 11 → u' 28 f = (rowC (g 107 k) n).getD f 0) ∧ ∀ u, onQ g u → fits (fun f => (rowC (g 107 k) n).getD f 0) u → ∃ u', Call prog clsT X (d + 6) 192 [(2, 89), (0, (k : Int))] (mk E c s (hh u)) = some ((0, v), mk E c s (hh u')) ∧ onQ g u') := fun n => by
    by_cases hn : n < 100
    case neg => exact ⟨0, fun z => absurd z hn⟩
    obtain ⟨v, v1, v2, wc, wm⟩ := word_eq X hrg hk hrb (row := fun f => (rowC (g 107 k) n).getD f 0) (rowC_ok hin (in32_of (by omega) (by omega)))
    refine ⟨v, fun _ => ⟨v1, fun u hu hf => ?_, fun u hu hf => ?_⟩⟩
    · obtain ⟨u', q1, q2⟩ := wc (d + 1) c s u (sameR_Q hu) hf
      exact ⟨u', q1, onQ_tr hu (onQ_29 q2), fun f hf2 => by rw [q2 28 f (by decide)]; exact hf f hf2⟩
    · obtain ⟨u', q1, q2⟩ := wm d c s u (sameR_Q hu) hf
      exact ⟨u', q1, onQ_tr hu (onQ_R q2)⟩
  obtain ⟨v, hv⟩ := Classical.axiomOfChoice hw
  have loopC : ∀ (m i : Nat) (w1 w7 : MV) (n0 : Int) (u : Gm), i + m = 99 → onQ g u → (∀ f, f < 11 → u 28 f = (rowC (g 107 k) n0).getD f 0) → ∃ u', Ev prog clsT X (d + 6) mc98 27 [(2, 0), w1, (0, x2), (2, (r : Int)), (0, (clA v i).1), (0, (clA v i).2), (0, ((i + 1 : Nat) : Int)), w7] [] (mk E c s (hh u)) = some ((0, if x2 ≠ 0 then (clA v 99).2 else (clA v 99).1), mk E c s (hh u')) ∧ onQ g u' := by
    intro m
    induction m with
    | zero =>
      intro i w1 w7 n0 u hi hu _
      have hi : i = 99 := by omega
      subst hi
      refine ⟨u, ?_, hu⟩
      rw [r98_27, cmp_gt, if_pos (by decide), cmp_ne]
      by_cases z : x2 ≠ 0
      · rw [if_pos z, if_pos z]
      · rw [if_neg z, if_neg z]
    | succ m ih =>
      intro i w1 w7 n0 u hi hu hf
      have hu7 : onQ g (up u 28 7 ((i + 1 : Nat) : Int)) := onQ_up hu rfl
      obtain ⟨v1, vc, _⟩ := hv (i + 1) (by omega)
      obtain ⟨u1, q1, q2, q3⟩ := vc _ hu7 (fun f hf2 => by
        rw [rowC_7 (m := n0) hf2, up_at]
        by_cases z : f = 7
        · rw [if_pos z, if_pos z]
        · rw [if_neg z, if_neg z]; exact hf f hf2)
      have hnx : ∀ w1 w7, ∃ u', Ev prog clsT X (d + 6) mc98 27 [(2, 0), w1, (0, x2), (2, (r : Int)), (0, (clS v (i + 1) (clA v i)).1), (0, (clS v (i + 1) (clA v i)).2), (0, ((i + 1 + 1 : Nat) : Int)), w7] [] (mk E c s (hh u1)) = some ((0, if x2 ≠ 0 then (clA v 99).2 else (clA v 99).1), mk E c s (hh u')) ∧ onQ g u' := fun w1 w7 => ih (i + 1) w1 w7 _ u1 (by omega) q2 q3
      rw [r98_27, cmp_gt, if_neg (by omega), hu 0 3 rfl, hb, call0 q1, push0, r98_42, cmp_eq, w32_succ (by omega)]
      unfold clS at hnx
      by_cases z : v (i + 1) = -1
      · rw [if_pos z] at hnx
        rw [if_pos z]
        exact hnx _ _
      · rw [if_neg z] at hnx
        rw [if_neg z, cmp_ne]
        by_cases z2 : (clA v i).1 ≠ 0
        · rw [if_pos z2] at hnx
          rw [if_pos z2]
          exact hnx _ _
        · rw [if_neg z2] at hnx
          rw [if_neg z2]
          exact hnx _ _
  have zeroM : ∀ (m i : Nat) (a b n : Int) (u : Gm), i + m = 12 → 1 ≤ i → Ev prog clsT X (d + 6) mc199 30 [(2, 89), (0, (k : Int)), (0, x2), (0, a), (0, b), (0, n), (0, (i : Int))] [] (mk E c s (hh (clM u (i - 1)))) = Ev prog clsT X (d + 6) mc199 30 [(2, 89), (0, (k : Int)), (0, x2), (0, a), (0, b), (0, n), (0, ((12 : Nat) : Int))] [] (mk E c s (hh (clM u 11))) := by
    intro m
    induction m with
    | zero => intro i a b n u hi h1; rw [show i = 12 by omega]
    | succ m ih =>
      intro i a b n u hi h1
      rw [r199_30, cmp_ge, if_neg (by omega), inb_is, if_pos (by omega), Int.toNat_natCast, clM_up h1, w32_succ (by omega)]
      exact ih (i + 1) a b n u (by omega) (by omega)
  have loopM : ∀ (m i : Nat) (w6 : MV) (u : Gm), i + m = 99 → onQ g u → ∃ u', Ev prog clsT X (d + 6) mc199 25 [(2, 89), (0, (k : Int)), (0, x2), (0, (clA v i).1), (0, (clA v i).2), (0, ((i + 1 : Nat) : Int)), w6] [] (mk E c s (hh u)) = some ((0, if x2 ≠ 0 then (clA v 99).2 else (clA v 99).1), mk E c s (hh u')) ∧ onQ g u' := by
    intro m
    induction m with
    | zero =>
      intro i w6 u hi hu
      have hi : i = 99 := by omega
      subst hi
      refine ⟨u, ?_, hu⟩
      rw [r199_25, cmp_ge, if_pos (by decide), cmp_ne]
      by_cases z : x2 ≠ 0
      · rw [if_pos z, if_pos z]
      · rw [if_neg z, if_neg z]
    | succ m ih =>
      intro i w6 u hi hu
      obtain ⟨v1, _, vm⟩ := hv (i + 1) (by omega)
      have z1 := zeroM 11 1 (clA v i).1 (clA v i).2 ((i + 1 : Nat) : Int) u (by omega) (by omega)
      rw [show 1 - 1 = 0 from rfl, clM_0] at z1
      have hu2 : onQ g (wr 126 1 11 u (rowC (g 107 k) ((i + 1 : Nat) : Int))) := onQ_tr hu onQ_126
      obtain ⟨u1, q1, q2⟩ := vm _ hu2 (fun f hf => by rw [w126_at (by omega) (by omega), Nat.add_sub_cancel])
      have hnx : ∀ w6, ∃ u', Ev prog clsT X (d + 6) mc199 25 [(2, 89), (0, (k : Int)), (0, x2), (0, (clS v (i + 1) (clA v i)).1), (0, (clS v (i + 1) (clA v i)).2), (0, ((i + 1 + 1 : Nat) : Int)), w6] [] (mk E c s (hh u1)) = some ((0, if x2 ≠ 0 then (clA v 99).2 else (clA v 99).1), mk E c s (hh u')) ∧ onQ g u' := fun w6 => ih (i + 1) w6 u1 (by omega) q2
      have z1 : Ev prog clsT X (d + 6) mc199 30 [(2, 89), (0, (k : Int)), (0, x2), (0, (clA v i).1), (0, (clA v i).2), (0, ((i + 1 : Nat) : Int)), (0, 1)] [] (mk E c s (hh u)) = _ := z1
      rw [r199_25, cmp_ge, if_neg (by omega), z1, r199_30, cmp_ge, if_pos (by decide), inb_is, if_pos (by omega), inb_is, if_pos (by omega), inb_is, if_pos (by omega), Int.toNat_natCast, clM_11, wr_ne (by decide), hu 107 k rfl, w126 rfl (by decide) (by decide), w126 rfl (by decide) (by decide), w126 rfl (by decide) (by decide), w126 rfl (by decide) (by decide), w126 rfl (by decide) (by decide), w126 rfl (by decide) (by decide), w126 rfl (by decide) (by decide)]
      change ∃ u', ((Call prog clsT X (d + 6) 192 [(2, 89), (0, (k : Int))] (mk E c s (hh (wr 126 1 11 u (rowC (g 107 k) ((i + 1 : Nat) : Int)))))).bind _) = _ ∧ _
      rw [call0 q1, push0, r199_91, cmp_ge, w32_succ (by omega)]
      unfold clS at hnx
      by_cases z : v (i + 1) = -1
      · rw [if_pos z] at hnx
        rw [if_neg (by omega)]
        exact hnx _
      · rw [if_neg z] at hnx
        rw [if_pos (by omega), cmp_ne]
        by_cases z2 : (clA v i).1 ≠ 0
        · rw [if_pos z2] at hnx
          rw [if_pos z2]
          exact hnx _
        · rw [if_neg z2] at hnx
          rw [if_neg z2]
          exact hnx _
  obtain ⟨g1, a1, a2⟩ := loopC 99 0 (0, (k : Int)) (3, 0) 0 _ (by omega) (onQ_tr (onQ_refl g) (onQ_28 (l := rowC (g 107 k) 0))) (fun f hf => w28_at hf)
  obtain ⟨g2, b1, b2⟩ := loopM 99 0 (3, 0) (up g1 89 0 0) (by omega) (onQ_0 a2 0)
  refine ⟨if x2 ≠ 0 then (clA v 99).2 else (clA v 99).1, g1, g2, b2, ?_, ?_⟩
  · show Call prog clsT X (d + 7) 98 [(2, 0), (0, (k : Int)), (0, x2)] _ = _
    rw [startC _ rfl, if_neg y1, bI_t y2, r98_13, cmp_ne, if_pos (by decide), hkind g (onQ_refl g), call3 (show Call prog clsT X (d + 6) 71 _ _ = _ from c71 X E c s g (d + 4) _), push3, r98_21]
    exact a1
  · show Call prog clsT X (d + 7) 199 [(2, 89), (0, (k : Int)), (0, x2)] _ = _
    rw [startM g1 a2 _ rfl, if_neg y1, bI_t y2, r199_16, cmp_ne, if_pos (by decide)]
    exact b1
end CLASH
