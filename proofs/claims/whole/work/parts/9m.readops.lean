/-! Part 9m: schedule, book, plan: the same answer, and what holds goes on. -/
/-- what holds between calls; N: how many calls there have been at most -/
def INV (N : Int) (E : List (Nat × Nat)) (g : Gm) : Prop := I0 g ∧ RB g ∧ RT g ∧ RS N g ∧ RU E g
def zT (x i : Nat) : Prop := zR x i ∨ (x = 89 ∧ (i = 0 ∨ i = 17 ∨ i = 19 ∨ i = 36)) ∨ (x = 9 ∧ 1 ≤ i ∧ i ≤ 8) ∨ x = 16 ∨ x = 0 ∨ x = 106 ∨ (107 ≤ x ∧ x ≤ 114) ∨ 159 ≤ x
/-- class and reference at a call that answers an int (or a boolean) -/
def OpR (X : MExt) (cj mj k : Nat) (A : List MV) : Prop := ∀ (N : Int) (E : List (Nat × Nat)) (c s d : Nat) (g : Gm), INV N E g → ∃ v E' c' s' g1 g2, Call prog clsT X (d + k) cj ((2, 0) :: A) (mk E c s (hh g)) = some ((0, v), mk E' c' s' (hh g1)) ∧ Call prog clsT X (d + k) mj ((2, 89) :: A) (mk E' c' s' (hh g1)) = some ((0, v), mk E' c' s' (hh g2)) ∧ INV N E' g2 ∧ c' ≤ c + 5 ∧ s' ≤ s + 1036 ∧ ∀ x i, ¬ zT x i → g2 x i = g x i
/-- what a reader may change -/
theorem fr_of {S : Nat → Nat → Bool} {g g' : Gm} (e : ∀ x i, ¬ zT x i → g' x i = g x i) (hS : ∀ x i, S x i = true → ¬ zT x i) : fr S g g' := fun x i h => e x i (hS x i h)
theorem zT_RE (x i : Nat) (h : sRE x i = true) : ¬ zT x i := by
  unfold sRE at h
  unfold zT zR zM
  split at h
  all_goals first | (simp at h; done) | (simp at h; omega) | omega
theorem zT_RV (x i : Nat) (h : sRV x i = true) : ¬ zT x i := by
  unfold sRV at h
  unfold zT zR zM
  split at h
  all_goals first | (simp at h; done) | (simp at h; omega) | omega
theorem zT_RJ (x i : Nat) (h : sRJ x i = true) : ¬ zT x i := by
  unfold sRJ at h
  unfold zT zR zM
  split at h
  all_goals first | (simp at h; done) | (simp at h; omega) | omega
theorem zT_RH (x i : Nat) (h : sRH x i = true) : ¬ zT x i := by
  unfold sRH at h
  unfold zT zR zM
  split at h
  all_goals first | (simp at h; done) | (simp at h; omega) | omega
theorem zT_RC (x i : Nat) (h : sRC x i = true) : ¬ zT x i := by
  unfold sRC at h
  unfold zT zR zM
  split at h
  all_goals first | (simp at h; done) | (simp at h; omega) | omega
theorem RQ_T {g g' : Gm} (h : RQ g) (e : ∀ x i, ¬ zT x i → g' x i = g x i) (e2 : ∀ k, g 106 k ≠ 0 → g' 106 k ≠ 0) : RQ g' := by
  obtain ⟨h1, h2, h3⟩ := h
  have f10 : g' 89 10 = g 89 10 := e 89 10 (by unfold zT zR zM; omega)
  have hn : nE g' = nE g := by unfold nE; rw [f10]
  have q : ∀ x i, (x = 90 ∨ x = 94 ∨ x = 95 ∨ x = 99 ∨ x = 100) → g' x i = g x i := fun x i hx => e x i (by unfold zT zR zM; omega)
  refine ⟨fun e' he => ?_, fun p hp => ?_, fun e' he => ?_⟩
  · rw [q 100 _ (by omega), q 90 _ (by omega)]; rw [hn] at he; exact h1 e' he
  · rw [q 94 _ (by omega)] at hp; rw [q 95 _ (by omega), q 90 _ (by omega)]; exact h2 p hp
  · rw [q 99 _ (by omega)]; rw [hn] at he; exact e2 _ (h3 e' he)
theorem I0_T {g g' : Gm} (h : I0 g) (e : ∀ x i, ¬ zT x i → g' x i = g x i) (e2 : ∀ k, g 106 k ≠ 0 → g' 106 k ≠ 0) : I0 g' := ⟨h.1.fr (fr_of e zT_RE), h.2.1.fr (fr_of e zT_RV), h.2.2.1.fr (fr_of e zT_RJ), h.2.2.2.1.fr (fr_of e zT_RH), h.2.2.2.2.1.fr (fr_of e zT_RC), RQ_T h.2.2.2.2.2 e e2⟩
theorem RS_T {N : Int} {g g' : Gm} (h : RS N g) (e : ∀ x i, ¬ zT x i → g' x i = g x i) : RS N g' := RS_fr h (fun x i hx => e x i (by unfold zT zR zM; omega)) (by rw [e 89 10 (by unfold zT zR zM; omega)]; exact Int.le_refl _)
theorem RT_0 {g : Gm} (h1 : g 9 1 = 0) (h2 : g 89 17 = 0) : RT g := ⟨h1.trans h2.symm, by rw [h2]; exact Int.le_refl _, by rw [h2]; decide, fun i hi => by rw [h2] at hi; omega⟩
section READOPS
variable {X : MExt}
theorem op_schedule (hX : XT X) (x1 : Int) : OpR X 93 165 72 [(0, x1)] := by
  intro N E c s d g h
  obtain ⟨i0, ib, it, is, iu⟩ := h
  by_cases hx : 0 ≤ x1 ∧ x1 ≤ 9
  case neg =>
    -- no such class: the tape is emptied
    have e1 : Call prog clsT X (d + 72) 93 [(2, 0), (0, x1)] (mk E c s (hh g)) = some ((0, -1), mk E c s (hh (up g 9 1 0))) := by
      rw [rc93_, call0 (c90 X E c s (d + 70) x1 0 9), push0, r93_4, cmp_ne, bI_ne0, if_neg (fun z => z hx)]
    obtain ⟨L, hL⟩ := Int.eq_ofNat_of_zero_le it.2.1
    have hL1 : L ≤ 1000 := by have := it.2.2.1; omega
    obtain ⟨ga, j1, j2, j3⟩ := m167t X E c s (T := g 105) (g := up (up (up (up (up g 9 1 0) 89 0 0) 89 19 (up (up g 9 1 0) 89 0 0 89 17)) 89 17 0) 89 20 0) (d + 68) L 0 hL1 (Nat.zero_le _) (by rw [up_ne (by omega), up_ne (by omega), up_same, up_ne (by omega), up_ne (by omega)]; exact hL) up_same (fun i hi => by rw [up_ne (by omega), up_ne (by omega), up_ne (by omega), up_ne (by omega), up_ne (by omega)])
    have f : ∀ x i, ¬ zT x i → ga x i = g x i := fun x i q => by
      have q1 : ¬ (x = 89 ∧ (i = 0 ∨ i = 17 ∨ i = 19)) := fun z => q (Or.inr (Or.inl ⟨z.1, by omega⟩))
      have q2 : ¬ zM x i := fun z => q (Or.inl (Or.inl z))
      have q3 : ¬ (x = 9 ∧ i = 1) := fun z => q (Or.inr (Or.inr (Or.inl ⟨z.1, by omega, by omega⟩)))
      have q4 : ¬ (x = 89 ∧ i = 20) := fun z => q2 (by unfold zM; omega)
      rw [j3 x i q2, up_ne (by omega), up_ne (by omega), up_ne (by omega), up_ne (by omega), up_ne (by omega)]
    have f106 : ∀ k, ga 106 k = g 106 k := fun k => by
      rw [j3 106 k (by unfold zM; omega), up_ne (by omega), up_ne (by omega), up_ne (by omega), up_ne (by omega), up_ne (by omega)]
    have fX : fr sRB g ga := fun x i hs => by
      unfold sRB at hs
      split at hs
      · rw [j3 16 i (by unfold zM; omega), up_ne (by omega), up_ne (by omega), up_ne (by omega), up_ne (by omega), up_ne (by omega)]
      · exact f106 i
      · cases hs
    refine ⟨-1, E, c, s, _, ga, e1, ?_, ⟨I0_T i0 f (fun k q => by rw [f106]; exact q), ib.fr fX, RT_0 ?_ ?_, RS_T is f, ?_⟩, by omega, by omega, f⟩
    · rw [rc165_]
      have e166 : Call prog clsT X (d + 71) 166 [(2, 89)] (mk E c s (hh (up (up g 9 1 0) 89 0 0))) = some ((3, 0), mk E c s (hh ga)) := by
        rw [rc166_, call3 j1, push3, r166_12]
      rw [call3 e166, push3, r165_5, call0 (m152 X E c s (d + 70) x1 0 9), push0, r165_9, cmp_ne, bI_ne0, if_neg (fun z => z hx)]
    · rw [j3 9 1 (by unfold zM; omega), up_ne (by omega), up_ne (by omega), up_ne (by omega), up_ne (by omega)]; exact up_same
    · rw [j3 89 17 (by unfold zM; omega), up_ne (by omega)]; exact up_same
    · obtain ⟨u1, ⟨r1, u2, u3⟩, r2, u4, u5⟩ := iu
      have cell : ∀ x i, ¬ zM x i → ¬ (x = 89 ∧ (i = 0 ∨ i = 17 ∨ i = 19)) → ¬ (x = 9 ∧ i = 1) → ga x i = g x i := fun x i q2 q1 q3 => by
        have q4 : ¬ (x = 89 ∧ i = 20) := fun z => q2 (by unfold zM; omega)
        rw [j3 x i q2, up_ne (by omega), up_ne (by omega), up_ne (by omega), up_ne (by omega), up_ne (by omega)]
      have keep : ∀ tx r k, RG tx E r k g → RG tx E r k ga := fun tx r k hg => by
        have hl := RG_lt hg
        have := RG_keep (E2 := []) (g' := ga) hg (fun x i _ _ => cell x i (by unfold zM; omega) (by omega) (by omega)) (fun x _ _ => cell x k (by unfold zM; omega) (by omega) (by omega)) (fun x i _ _ _ _ => cell x i (by unfold zM; omega) (by omega) (by omega)) (fun i _ _ => cell 114 i (by unfold zM; omega) (by omega) (by omega))
        rw [List.append_nil] at this
        exact this
      refine ⟨fun k hk => ?_, ⟨r1, by rw [cell 0 3 (by unfold zM; omega) (by omega) (by omega)]; exact u2, keep _ _ _ u3⟩, r2, by rw [cell 0 4 (by unfold zM; omega) (by omega) (by omega)]; exact u4, keep _ _ _ u5⟩
      rw [cell 16 k (by unfold zM; omega) (by omega) (by omega)]
      rcases u1 k hk with q | ⟨r, q1, q2⟩
      · exact Or.inl q
      · exact Or.inr ⟨r, q1, keep _ _ _ q2⟩
  obtain ⟨k, rfl⟩ := Int.eq_ofNat_of_zero_le hx.1
  have hk : k < 10 := by omega
  obtain ⟨v, L, g1, k1, k2, k3, k4, k5, k6, k7⟩ := READ (k := k) hX (Or.inl ⟨rfl, hk⟩) E c s (d + 1) it
  have k1 : Call prog clsT X (d + 71) 39 [(2, 9), (0, 0)] (mk E c s (hh g)) = _ := k1
  have hlay : (lay? (mk (E ++ nE5 L) (c + 5) (s + (36 + L)) (hh g1)) (g1 9 2)).1 = 7 := by rw [k4, layC _ _ _ k5.1]
  -- the class's last write
  obtain ⟨g1', hg1', e1, e16, e16n⟩ : ∃ g1' : Gm, Call prog clsT X (d + 72) 93 [(2, 0), (0, (k : Int))] (mk E c s (hh g)) = some ((0, v), mk (E ++ nE5 L) (c + 5) (s + (36 + L)) (hh g1')) ∧ (∀ x i, x ≠ 16 → g1' x i = g1 x i) ∧ g1' 16 k = (if v = 0 then ((159 + E.length : Nat) : Int) else g 16 k) ∧ ∀ i, i ≠ k → g1' 16 i = g 16 i := by
    have f16 : ∀ i, g1 16 i = g 16 i := fun i => k6 16 i (by omega) (by omega)
    by_cases hv : v = 0
    · refine ⟨up g1 16 k (g1 9 2), ?_, fun x i hx => up_cell hx, ?_, fun i hi => ?_⟩
      · rw [rc93_, call0 (c90 X E c s (d + 70) (k : Int) 0 9), push0, r93_4, cmp_ne, bI_ne0, if_pos (fun z => z hx), call0 k1, push0, r93_15, cmp_ne, if_neg (fun z => z hv), if_pos ⟨rfl, rfl, rfl, by rw [k4]; omega, hlay⟩, inb_is, if_pos (by omega), Int.toNat_natCast]
      · rw [if_pos hv, up_same, k4]
      · rw [up_place hi]; exact f16 i
    · refine ⟨g1, ?_, fun x i _ => rfl, by rw [if_neg hv]; exact f16 k, fun i _ => f16 i⟩
      rw [rc93_, call0 (c90 X E c s (d + 70) (k : Int) 0 9), push0, r93_4, cmp_ne, bI_ne0, if_pos (fun z => z hx), call0 k1, push0, r93_15, cmp_ne, if_pos hv]
  obtain ⟨ga, g2, j1, j2, j3, j4, j5, j6, j7⟩ := k7 (d + 58) (up g1' 89 0 0) (fun x i q => by rw [up_ne (by omega), e1 x i (by omega)])
  have j1 : Call prog clsT X (d + 71) 166 [(2, 89)] (mk (E ++ nE5 L) (c + 5) (s + (36 + L)) (hh (up g1' 89 0 0))) = some ((3, 0), mk (E ++ nE5 L) (c + 5) (s + (36 + L)) (hh ga)) := j1
  have j4 : Call prog clsT X (d + 71) 169 [(2, 89), (0, (k : Int))] (mk (E ++ nE5 L) (c + 5) (s + (36 + L)) (hh ga)) = some ((0, v), mk (E ++ nE5 L) (c + 5) (s + (36 + L)) (hh g2)) := j4
  have g2f : ∀ x i, ¬ zT x i → g2 x i = g x i := fun x i q => by
    have q1 : ¬ zR x i := fun z => q (Or.inl z)
    have q2 : ¬ (x = 89 ∧ (i = 0 ∨ i = 17 ∨ i = 19 ∨ i = 36)) := fun z => q (Or.inr (Or.inl z))
    have q3 : ¬ (x = 9 ∧ 1 ≤ i ∧ i ≤ 8) := fun z => q (Or.inr (Or.inr (Or.inl z)))
    have q4 : ¬ (x = 16 ∨ x = 0 ∨ x = 106 ∨ (107 ≤ x ∧ x ≤ 114) ∨ 159 ≤ x) := fun z => q (Or.inr (Or.inr (Or.inr z)))
    rw [j6 x i (fun z => by rcases z with z | z; exact q1 z; exact q2 ⟨z.1, by omega⟩) (fun z => by omega), up_ne (by omega), e1 x i (by omega), k6 x i (by omega) (by omega)]
  have g2106 : ∀ i, g2 106 i = g 106 i := fun i => by
    rw [j6 106 i (by unfold zR zM; omega) (by omega), up_ne (by omega), e1 106 i (by omega), k6 106 i (by omega) (by omega)]
  have g216 : ∀ i, g2 16 i = g1' 16 i := fun i => by
    rw [j6 16 i (by unfold zR zM; omega) (by omega), up_ne (by omega)]
  -- the reference's last write
  have hb3 := ib.2.2
  obtain ⟨nb, hnb, hnb1⟩ : ∃ nb : Int, (nb = if g 106 k ≠ 0 ∨ v = 0 then 1 else 0) ∧ Call prog clsT X (d + 72) 165 [(2, 89), (0, (k : Int))] (mk (E ++ nE5 L) (c + 5) (s + (36 + L)) (hh g1')) = some ((0, v), mk (E ++ nE5 L) (c + 5) (s + (36 + L)) (hh (up g2 106 k nb))) := by
    refine ⟨_, rfl, ?_⟩
    rw [rc165_, call3 j1, push3, r165_5, call0 (m152 X _ _ _ (d + 70) (k : Int) 0 9), push0, r165_9, cmp_ne, bI_ne0, if_pos (fun z => z hx), call0 j4, push0, r165_15, inb_is, if_pos (by omega), Int.toNat_natCast, g2106, cmp_ne]
    by_cases q : g 106 k = 0
    · rw [if_neg (fun z => z q), cmp_ne]
      by_cases hv : v = 0
      · rw [if_neg (fun z => z hv), inb_is, if_pos (by omega), if_pos (Or.inr hv)]; rfl
      · rw [if_pos hv, inb_is, if_pos (by omega), if_neg (fun z => by rcases z with z | z; exact z q; exact hv z)]; rfl
    · rw [if_pos q, inb_is, if_pos (by omega), if_pos (Or.inl q)]; rfl
  have nb01 : nb = 0 ∨ nb = 1 := by rw [hnb]; split <;> simp
  have e106 : ∀ i, up g2 106 k nb 106 i = if i = k then nb else g 106 i := fun i => by
    rw [up_at]; split
    · rfl
    · exact g2106 i
  have fin : ∀ x i, ¬ zT x i → up g2 106 k nb x i = g x i := fun x i q => by
    have q4 : ¬ (x = 106) := fun z => q (Or.inr (Or.inr (Or.inr (by omega))))
    rw [up_ne (by omega)]; exact g2f x i q
  have keep106 : ∀ i, g 106 i ≠ 0 → up g2 106 k nb 106 i ≠ 0 := fun i q => by
    rw [e106]; split
    · rename_i z; subst z; rw [hnb, if_pos (Or.inl q)]; decide
    · exact q
  refine ⟨v, E ++ nE5 L, c + 5, s + (36 + L), g1', up g2 106 k nb, hg1', hnb1, ⟨I0_T i0 fin keep106, ?_, RT_0 ?_ ?_, RS_T is fin, ?_⟩, by omega, by omega, fin⟩
  · refine ⟨fun i hi => ?_, fun i hi => ?_, fun i => ?_⟩
    · rw [up_cell (by decide), g216, e106]
      by_cases z : i = k
      · subst z
        rw [if_pos rfl, e16, hnb]
        have := ib.1 i hi
        by_cases hv : v = 0
        · rw [if_pos hv, if_pos (Or.inr hv)]; omega
        · rw [if_neg hv]
          by_cases y : g 106 i = 0
          · rw [if_neg (fun w => by rcases w with w | w; exact w y; exact hv w)]; rw [this]; simp [y]
          · rw [if_pos (Or.inl y)]; rw [this]; simp [y]
      · rw [if_neg z, e16n i z]; exact ib.1 i hi
    · rw [up_cell (by decide), g216]
      by_cases z : i = k
      · subst z
        rw [e16]; split
        · omega
        · exact ib.2.1 i hi
      · rw [e16n i z]; exact ib.2.1 i hi
    · rw [e106]; split
      · exact nb01
      · exact ib.2.2 i
  · rw [up_cell (by decide), j6 9 1 (by unfold zR zM; omega) (by omega), up_ne (by omega), e1 9 1 (by omega)]; exact k3
  · rw [up_cell (by decide)]; exact j5
  · obtain ⟨u1, ⟨r1, u2, u3⟩, r2, u4, u5⟩ := iu
    have cell : ∀ x i, x < 159 + E.length → ¬ (x = 9 ∧ 1 ≤ i ∧ i ≤ 8) → x ≠ 16 → ¬ zR x i → x ≠ 89 → x ≠ 106 → ¬ ((107 ≤ x ∧ x ≤ 109 ∧ i = k) ∨ (110 ≤ x ∧ x ≤ 113 ∧ 9 * k ≤ i ∧ i < 9 * k + 9) ∨ (x = 114 ∧ 1000 * k ≤ i ∧ i < 1000 * k + 1000)) → up g2 106 k nb x i = g x i := fun x i q1 q2 q3 q4 q5 q6 q7 => by
      rw [up_ne (by omega), j6 x i (fun z => by rcases z with z | z; exact q4 z; exact q5 z.1) (fun z => q7 z.2), up_ne (by omega), e1 x i q3, k6 x i q1 q2]
    have keep : ∀ tx r k', k' ≠ k → k' ≤ 11 → RG tx E r k' g → RG tx (E ++ nE5 L) r k' (up g2 106 k nb) := fun tx r k' hne hk' hg => by
      have hl := RG_lt hg
      exact RG_keep hg (fun x i _ _ => cell x i (by omega) (by omega) (by
        intro z
        have h159 : r ≤ 16 ∧ 16 ≤ r + 4 := by omega
        have hgo := hg
        obtain ⟨cap, hro, _⟩ := hgo
        have := hro.1.1
        have hr' : 11 ≤ r ∧ r ≤ 26 := by omega
        have t16 : ((LAY ++ E)[16]? : Option (Nat × Nat)) = some (104, 10) := rfl
        have c1 := hro.1.1; have c2 := hro.2.1.1; have c3 := hro.2.2.1.1; have c4 := hro.2.2.2.1.1; have c5 := hro.2.2.2.2.1
        have : r = 16 ∨ r + 1 = 16 ∨ r + 2 = 16 ∨ r + 3 = 16 ∨ r + 4 = 16 := by omega
        rcases this with y | y | y | y | y
        · rw [y, t16] at c1; injection c1 with c1; injection c1 with c1 _; exact absurd c1 (by decide)
        · rw [y, t16] at c2; injection c2 with c2; injection c2 with c2 _; exact absurd c2 (by decide)
        · rw [y, t16] at c3; injection c3 with c3; injection c3 with c3 _; exact absurd c3 (by decide)
        · rw [y, t16] at c4; injection c4 with c4; injection c4 with c4 _; exact absurd c4 (by decide)
        · rw [y, t16] at c5; injection c5 with c5; injection c5 with c5 _; exact absurd c5 (by decide)) (by unfold zR zM; omega) (by omega) (by omega) (by omega)) (fun x _ _ => cell x k' (by omega) (by omega) (by omega) (by unfold zR zM; omega) (by omega) (by omega) (by omega)) (fun x i _ _ _ _ => cell x i (by omega) (by omega) (by omega) (by unfold zR zM; omega) (by omega) (by omega) (by omega)) (fun i _ _ => cell 114 i (by omega) (by omega) (by omega) (by unfold zR zM; omega) (by omega) (by omega) (by omega))
    refine ⟨fun i hi => ?_, ⟨r1, by rw [cell 0 3 (by omega) (by omega) (by omega) (by unfold zR zM; omega) (by omega) (by omega) (by omega)]; exact u2, keep _ _ _ (by omega) (by omega) u3⟩, r2, by rw [cell 0 4 (by omega) (by omega) (by omega) (by unfold zR zM; omega) (by omega) (by omega) (by omega)]; exact u4, keep _ _ _ (by omega) (by omega) u5⟩
    rw [up_cell (by decide), g216]
    by_cases z : i = k
    · subst z
      rw [e16]
      by_cases hv : v = 0
      · rw [if_pos hv]
        refine Or.inr ⟨159 + E.length, rfl, ?_⟩
        have := RG_keep (E2 := []) (g' := up g2 106 i nb) (j7 hv) (fun x j q1 q2 => up_ne (by omega)) (fun x _ _ => up_ne (by omega)) (fun x j _ _ _ _ => up_ne (by omega)) (fun j _ _ => up_ne (by omega))
        rw [List.append_nil] at this
        exact this
      · -- a fault: the old rules stay, in both
        rw [if_neg hv]
        rcases u1 i hi with q | ⟨r, q1, q2⟩
        · exact Or.inl q
        · refine Or.inr ⟨r, q1, ?_⟩
          have hl := RG_lt q2
          have cell' : ∀ x j, x < 159 + E.length → ¬ (x = 9 ∧ 1 ≤ j ∧ j ≤ 8) → x ≠ 16 → ¬ zR x j → x ≠ 89 → x ≠ 106 → up g2 106 i nb x j = g x j := fun x j q1 q2 q3 q4 q5 q6 => by
            rw [up_ne (by omega), j6 x j (fun z => by rcases z with z | z; exact q4 z; exact q5 z.1) (fun z => hv z.1), up_ne (by omega), e1 x j q3, k6 x j q1 q2]
          refine RG_keep q2 (fun x j _ _ => cell' x j (by omega) (by omega) (by
            intro z
            obtain ⟨cap, hro, _⟩ := q2
            have t16 : ((LAY ++ E)[16]? : Option (Nat × Nat)) = some (104, 10) := rfl
            have c1 := hro.1.1; have c2 := hro.2.1.1; have c3 := hro.2.2.1.1; have c4 := hro.2.2.2.1.1; have c5 := hro.2.2.2.2.1
            have : r = 16 ∨ r + 1 = 16 ∨ r + 2 = 16 ∨ r + 3 = 16 ∨ r + 4 = 16 := by omega
            rcases this with y | y | y | y | y
            · rw [y, t16] at c1; injection c1 with c1; injection c1 with c1 _; exact absurd c1 (by decide)
            · rw [y, t16] at c2; injection c2 with c2; injection c2 with c2 _; exact absurd c2 (by decide)
            · rw [y, t16] at c3; injection c3 with c3; injection c3 with c3 _; exact absurd c3 (by decide)
            · rw [y, t16] at c4; injection c4 with c4; injection c4 with c4 _; exact absurd c4 (by decide)
            · rw [y, t16] at c5; injection c5 with c5; injection c5 with c5 _; exact absurd c5 (by decide)) (by unfold zR zM; omega) (by omega) (by omega)) (fun x _ _ => cell' x i (by omega) (by omega) (by omega) (by unfold zR zM; omega) (by omega) (by omega)) (fun x j _ _ _ _ => cell' x j (by omega) (by omega) (by omega) (by unfold zR zM; omega) (by omega) (by omega)) (fun j _ _ => cell' 114 j (by omega) (by omega) (by omega) (by unfold zR zM; omega) (by omega) (by omega))
    · rw [e16n i z]
      rcases u1 i hi with q | ⟨r, q1, q2⟩
      · exact Or.inl q
      · exact Or.inr ⟨r, q1, keep _ _ _ z (by omega) q2⟩
end READOPS
