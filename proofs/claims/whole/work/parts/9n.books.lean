/-! Part 9n: book and plan. -/
theorem RG_16 {tx : Nat} {E : List (Nat × Nat)} {r k : Nat} {g : Gm} (h : RG tx E r k g) (x : Nat) (h1 : r ≤ x) (h2 : x ≤ r + 4) : x ≠ 16 := by
  intro z
  obtain ⟨cap, hro, _⟩ := h
  have t16 : ((LAY ++ E)[16]? : Option (Nat × Nat)) = some (104, 10) := rfl
  have c1 := hro.1.1; have c2 := hro.2.1.1; have c3 := hro.2.2.1.1; have c4 := hro.2.2.2.1.1; have c5 := hro.2.2.2.2.1
  have : r = 16 ∨ r + 1 = 16 ∨ r + 2 = 16 ∨ r + 3 = 16 ∨ r + 4 = 16 := by omega
  rcases this with y | y | y | y | y
  · rw [y, t16] at c1; injection c1 with c1; injection c1 with c1 _; exact absurd c1 (by decide)
  · rw [y, t16] at c2; injection c2 with c2; injection c2 with c2 _; exact absurd c2 (by decide)
  · rw [y, t16] at c3; injection c3 with c3; injection c3 with c3 _; exact absurd c3 (by decide)
  · rw [y, t16] at c4; injection c4 with c4; injection c4 with c4 _; exact absurd c4 (by decide)
  · rw [y, t16] at c5; injection c5 with c5; injection c5 with c5 _; exact absurd c5 (by decide)
section READOPS2
variable {X : MExt}
theorem op_book (hX : XT X) : OpR X 94 185 72 [] := by
  intro N E c s d g h
  obtain ⟨i0, ib, it, is, iu⟩ := h
  obtain ⟨v, L, g1, k1, k2, k3, k4, k5, k6, k7⟩ := READ (tx := 1) (k := 10) hX (Or.inr (Or.inl ⟨rfl, rfl⟩)) E c s (d + 1) it
  have k1 : Call prog clsT X (d + 71) 39 [(2, 9), (0, 1)] (mk E c s (hh g)) = _ := k1
  have hlen : 159 + (E ++ nE5 L).length = 159 + E.length + 5 := by rw [List.length_append]; show 159 + (E.length + 5) = _; omega
  obtain ⟨g1', hg1', e1, e03, e03n⟩ : ∃ g1' : Gm, Call prog clsT X (d + 72) 94 [(2, 0)] (mk E c s (hh g)) = some ((0, v), mk (E ++ nE5 L) (c + 5) (s + (36 + L)) (hh g1')) ∧ (∀ x i, x ≠ 0 → g1' x i = g1 x i) ∧ g1' 0 3 = (if v = 0 then ((159 + E.length : Nat) : Int) else g 0 3) ∧ ∀ i, i ≠ 3 → g1' 0 i = g 0 i := by
    have f0 : ∀ i, g1 0 i = g 0 i := fun i => k6 0 i (by omega) (by omega)
    by_cases hv : v = 0
    · refine ⟨up g1 0 3 (g1 9 2), ?_, fun x i hx => up_cell hx, ?_, fun i hi => ?_⟩
      · rw [rc94_, call0 k1, push0, r94_4, cmp_ne, if_neg (fun z => z hv), fT 5646 _ _ (vr_mk _ _ _ (by rw [k4, hlen]; omega)) rfl (by decide)]
      · rw [if_pos hv, up_same, k4]
      · rw [up_place hi]; exact f0 i
    · refine ⟨g1, ?_, fun x i _ => rfl, by rw [if_neg hv]; exact f0 3, fun i _ => f0 i⟩
      rw [rc94_, call0 k1, push0, r94_4, cmp_ne, if_pos hv]
  obtain ⟨ga, g2, j1, j2, j3, j4, j5, j6, j7⟩ := k7 (d + 58) (up g1' 89 0 0) (fun x i q => by rw [up_ne (by omega), e1 x i (by omega)])
  have j1 : Call prog clsT X (d + 71) 166 [(2, 89)] (mk (E ++ nE5 L) (c + 5) (s + (36 + L)) (hh (up g1' 89 0 0))) = some ((3, 0), mk (E ++ nE5 L) (c + 5) (s + (36 + L)) (hh ga)) := j1
  have j4 : Call prog clsT X (d + 71) 169 [(2, 89), (0, 10)] (mk (E ++ nE5 L) (c + 5) (s + (36 + L)) (hh ga)) = some ((0, v), mk (E ++ nE5 L) (c + 5) (s + (36 + L)) (hh g2)) := j4
  have g2f : ∀ x i, ¬ zT x i → g2 x i = g x i := fun x i q => by
    have q1 : ¬ zR x i := fun z => q (Or.inl z)
    have q2 : ¬ (x = 89 ∧ (i = 0 ∨ i = 17 ∨ i = 19 ∨ i = 36)) := fun z => q (Or.inr (Or.inl z))
    have q3 : ¬ (x = 9 ∧ 1 ≤ i ∧ i ≤ 8) := fun z => q (Or.inr (Or.inr (Or.inl z)))
    have q4 : ¬ (x = 16 ∨ x = 0 ∨ x = 106 ∨ (107 ≤ x ∧ x ≤ 114) ∨ 159 ≤ x) := fun z => q (Or.inr (Or.inr (Or.inr z)))
    rw [j6 x i (fun z => by rcases z with z | z; exact q1 z; exact q2 ⟨z.1, by omega⟩) (fun z => by omega), up_ne (by omega), e1 x i (by omega), k6 x i (by omega) (by omega)]
  have g2b : ∀ x i, (x = 16 ∨ x = 106) → g2 x i = g x i := fun x i hx => by
    rw [j6 x i (by unfold zR zM; omega) (by omega), up_ne (by omega), e1 x i (by omega), k6 x i (by omega) (by omega)]
  have g20 : ∀ i, g2 0 i = g1' 0 i := fun i => by
    rw [j6 0 i (by unfold zR zM; omega) (by omega), up_ne (by omega)]
  refine ⟨v, E ++ nE5 L, c + 5, s + (36 + L), g1', g2, hg1', ?_, ⟨I0_T i0 g2f (fun i q => by rw [g2b 106 i (Or.inr rfl)]; exact q), ib.fr (fun x i hs => ?_), RT_0 ?_ j5, RS_T is g2f, ?_⟩, by omega, by omega, g2f⟩
  · rw [rc185_, call3 j1, push3, r185_5, call0 j4, push0, r185_8]
  · unfold sRB at hs
    split at hs
    · exact g2b 16 i (Or.inl rfl)
    · exact g2b 106 i (Or.inr rfl)
    · cases hs
  · rw [j6 9 1 (by unfold zR zM; omega) (by omega), up_ne (by omega), e1 9 1 (by omega)]; exact k3
  · obtain ⟨u1, ⟨r1, u2, u3⟩, r2, u4, u5⟩ := iu
    have cell : ∀ x i, x < 159 + E.length → ¬ (x = 9 ∧ 1 ≤ i ∧ i ≤ 8) → x ≠ 0 → ¬ zR x i → x ≠ 89 → ¬ (v = 0 ∧ ((107 ≤ x ∧ x ≤ 109 ∧ i = 10) ∨ (110 ≤ x ∧ x ≤ 113 ∧ 9 * 10 ≤ i ∧ i < 9 * 10 + 9) ∨ (x = 114 ∧ 1000 * 10 ≤ i ∧ i < 1000 * 10 + 1000))) → g2 x i = g x i := fun x i q1 q2 q3 q4 q5 q7 => by
      rw [j6 x i (fun z => by rcases z with z | z; exact q4 z; exact q5 z.1) q7, up_ne (by omega), e1 x i q3, k6 x i q1 q2]
    have keep : ∀ tx r k', (v ≠ 0 ∨ k' ≠ 10) → k' ≤ 11 → RG tx E r k' g → RG tx (E ++ nE5 L) r k' g2 := fun tx r k' hne hk' hg => by
      have hl := RG_lt hg
      exact RG_keep hg (fun x i _ _ => cell x i (by omega) (by omega) (by omega) (by unfold zR zM; omega) (by omega) (by omega)) (fun x _ _ => cell x k' (by omega) (by omega) (by omega) (by unfold zR zM; omega) (by omega) (by omega)) (fun x i _ _ _ _ => cell x i (by omega) (by omega) (by omega) (by unfold zR zM; omega) (by omega) (by omega)) (fun i _ _ => cell 114 i (by omega) (by omega) (by omega) (by unfold zR zM; omega) (by omega) (by omega))
    refine ⟨fun i hi => ?_, ?_, ?_⟩
    · rw [g2b 16 i (Or.inl rfl)]
      rcases u1 i hi with q | ⟨r, q1, q2⟩
      · exact Or.inl q
      · exact Or.inr ⟨r, q1, keep _ _ _ (Or.inr (by omega)) (by omega) q2⟩
    · by_cases hv : v = 0
      · exact ⟨159 + E.length, by rw [g20, e03, if_pos hv], j7 hv⟩
      · exact ⟨r1, by rw [g20, e03, if_neg hv]; exact u2, keep _ _ _ (Or.inl hv) (by omega) u3⟩
    · exact ⟨r2, by rw [g20, e03n _ (by decide)]; exact u4, keep _ _ _ (Or.inr (by decide)) (by omega) u5⟩
theorem op_plan (hX : XT X) : OpR X 95 186 72 [] := by
  intro N E c s d g h
  obtain ⟨i0, ib, it, is, iu⟩ := h
  obtain ⟨v, L, g1, k1, k2, k3, k4, k5, k6, k7⟩ := READ (tx := 2) (k := 11) hX (Or.inr (Or.inr ⟨rfl, rfl⟩)) E c s (d + 1) it
  have k1 : Call prog clsT X (d + 71) 39 [(2, 9), (0, 2)] (mk E c s (hh g)) = _ := k1
  have hlen : 159 + (E ++ nE5 L).length = 159 + E.length + 5 := by rw [List.length_append]; show 159 + (E.length + 5) = _; omega
  obtain ⟨g1', hg1', e1, e03, e03n⟩ : ∃ g1' : Gm, Call prog clsT X (d + 72) 95 [(2, 0)] (mk E c s (hh g)) = some ((0, v), mk (E ++ nE5 L) (c + 5) (s + (36 + L)) (hh g1')) ∧ (∀ x i, x ≠ 0 → g1' x i = g1 x i) ∧ g1' 0 4 = (if v = 0 then ((159 + E.length : Nat) : Int) else g 0 4) ∧ ∀ i, i ≠ 4 → g1' 0 i = g 0 i := by
    have f0 : ∀ i, g1 0 i = g 0 i := fun i => k6 0 i (by omega) (by omega)
    by_cases hv : v = 0
    · refine ⟨up g1 0 4 (g1 9 2), ?_, fun x i hx => up_cell hx, ?_, fun i hi => ?_⟩
      · rw [rc95_, call0 k1, push0, r95_4, cmp_ne, if_neg (fun z => z hv), fT 5650 _ _ (vr_mk _ _ _ (by rw [k4, hlen]; omega)) rfl (by decide)]
      · rw [if_pos hv, up_same, k4]
      · rw [up_place hi]; exact f0 i
    · refine ⟨g1, ?_, fun x i _ => rfl, by rw [if_neg hv]; exact f0 4, fun i _ => f0 i⟩
      rw [rc95_, call0 k1, push0, r95_4, cmp_ne, if_pos hv]
  obtain ⟨ga, g2, j1, j2, j3, j4, j5, j6, j7⟩ := k7 (d + 58) (up g1' 89 0 0) (fun x i q => by rw [up_ne (by omega), e1 x i (by omega)])
  have j1 : Call prog clsT X (d + 71) 166 [(2, 89)] (mk (E ++ nE5 L) (c + 5) (s + (36 + L)) (hh (up g1' 89 0 0))) = some ((3, 0), mk (E ++ nE5 L) (c + 5) (s + (36 + L)) (hh ga)) := j1
  have j4 : Call prog clsT X (d + 71) 169 [(2, 89), (0, 11)] (mk (E ++ nE5 L) (c + 5) (s + (36 + L)) (hh ga)) = some ((0, v), mk (E ++ nE5 L) (c + 5) (s + (36 + L)) (hh g2)) := j4
  have g2f : ∀ x i, ¬ zT x i → g2 x i = g x i := fun x i q => by
    have q1 : ¬ zR x i := fun z => q (Or.inl z)
    have q2 : ¬ (x = 89 ∧ (i = 0 ∨ i = 17 ∨ i = 19 ∨ i = 36)) := fun z => q (Or.inr (Or.inl z))
    have q3 : ¬ (x = 9 ∧ 1 ≤ i ∧ i ≤ 8) := fun z => q (Or.inr (Or.inr (Or.inl z)))
    have q4 : ¬ (x = 16 ∨ x = 0 ∨ x = 106 ∨ (107 ≤ x ∧ x ≤ 114) ∨ 159 ≤ x) := fun z => q (Or.inr (Or.inr (Or.inr z)))
    rw [j6 x i (fun z => by rcases z with z | z; exact q1 z; exact q2 ⟨z.1, by omega⟩) (fun z => by omega), up_ne (by omega), e1 x i (by omega), k6 x i (by omega) (by omega)]
  have g2b : ∀ x i, (x = 16 ∨ x = 106) → g2 x i = g x i := fun x i hx => by
    rw [j6 x i (by unfold zR zM; omega) (by omega), up_ne (by omega), e1 x i (by omega), k6 x i (by omega) (by omega)]
  have g20 : ∀ i, g2 0 i = g1' 0 i := fun i => by
    rw [j6 0 i (by unfold zR zM; omega) (by omega), up_ne (by omega)]
  refine ⟨v, E ++ nE5 L, c + 5, s + (36 + L), g1', g2, hg1', ?_, ⟨I0_T i0 g2f (fun i q => by rw [g2b 106 i (Or.inr rfl)]; exact q), ib.fr (fun x i hs => ?_), RT_0 ?_ j5, RS_T is g2f, ?_⟩, by omega, by omega, g2f⟩
  · rw [rc186_, call3 j1, push3, r186_5, call0 j4, push0, r186_8]
  · unfold sRB at hs
    split at hs
    · exact g2b 16 i (Or.inl rfl)
    · exact g2b 106 i (Or.inr rfl)
    · cases hs
  · rw [j6 9 1 (by unfold zR zM; omega) (by omega), up_ne (by omega), e1 9 1 (by omega)]; exact k3
  · obtain ⟨u1, ⟨r1, u2, u3⟩, r2, u4, u5⟩ := iu
    have cell : ∀ x i, x < 159 + E.length → ¬ (x = 9 ∧ 1 ≤ i ∧ i ≤ 8) → x ≠ 0 → ¬ zR x i → x ≠ 89 → ¬ (v = 0 ∧ ((107 ≤ x ∧ x ≤ 109 ∧ i = 11) ∨ (110 ≤ x ∧ x ≤ 113 ∧ 9 * 11 ≤ i ∧ i < 9 * 11 + 9) ∨ (x = 114 ∧ 1000 * 11 ≤ i ∧ i < 1000 * 11 + 1000))) → g2 x i = g x i := fun x i q1 q2 q3 q4 q5 q7 => by
      rw [j6 x i (fun z => by rcases z with z | z; exact q4 z; exact q5 z.1) q7, up_ne (by omega), e1 x i q3, k6 x i q1 q2]
    have keep : ∀ tx r k', (v ≠ 0 ∨ k' ≠ 11) → k' ≤ 11 → RG tx E r k' g → RG tx (E ++ nE5 L) r k' g2 := fun tx r k' hne hk' hg => by
      have hl := RG_lt hg
      exact RG_keep hg (fun x i _ _ => cell x i (by omega) (by omega) (by omega) (by unfold zR zM; omega) (by omega) (by omega)) (fun x _ _ => cell x k' (by omega) (by omega) (by omega) (by unfold zR zM; omega) (by omega) (by omega)) (fun x i _ _ _ _ => cell x i (by omega) (by omega) (by omega) (by unfold zR zM; omega) (by omega) (by omega)) (fun i _ _ => cell 114 i (by omega) (by omega) (by omega) (by unfold zR zM; omega) (by omega) (by omega))
    refine ⟨fun i hi => ?_, ?_, ?_⟩
    · rw [g2b 16 i (Or.inl rfl)]
      rcases u1 i hi with q | ⟨r, q1, q2⟩
      · exact Or.inl q
      · exact Or.inr ⟨r, q1, keep _ _ _ (Or.inr (by omega)) (by omega) q2⟩
    · exact ⟨r1, by rw [g20, e03n _ (by decide)]; exact u2, keep _ _ _ (Or.inr (by decide)) (by omega) u3⟩
    · by_cases hv : v = 0
      · exact ⟨159 + E.length, by rw [g20, e03, if_pos hv], j7 hv⟩
      · exact ⟨r2, by rw [g20, e03, if_neg hv]; exact u4, keep _ _ _ (Or.inl hv) (by omega) u5⟩
end READOPS2
