/-! Part a1: mark and the readers. -/
theorem INV_of {N N' : Int} {E : List (Nat × Nat)} {g u : Gm} (h : INV N E g) (i0 : I0 u) (rs : RS N' u) (e : ∀ x i, (x = 0 ∨ (9 ≤ x ∧ x ≤ 26) ∨ (105 ≤ x ∧ x ≤ 114) ∨ 159 ≤ x ∨ (x = 89 ∧ i = 17)) → u x i = g x i) : INV N' E u := by
  obtain ⟨_, ib, it, is, iu⟩ := h
  have hbu := RB_RU ib iu (fun x i hx => e x i (by omega))
  refine ⟨i0, hbu.1, ?_, rs, hbu.2⟩
  obtain ⟨t1, t2, t3, t4⟩ := it
  have e17 : u 89 17 = g 89 17 := e 89 17 (by omega)
  refine ⟨by rw [e 9 1 (by omega), e17]; exact t1, by rw [e17]; exact t2, by rw [e17]; exact t3, fun i hi => ?_⟩
  rw [e17] at hi
  rw [e 10 i (by omega), e 105 i (by omega)]
  exact t4 i hi
theorem RP2_put {g : Gm} (h : RP2 g) {m : Nat} (hm : m < 4) : RP2 (putM (putC g m) m) := by
  have o : ∀ x j, shelfy x j = false → putM (putC g m) m x j = g x j := fun x j q => put_o g hm q
  have e10 : putM (putC g m) m 89 10 = g 89 10 := o 89 10 rfl
  have hn : nE (putM (putC g m) m) = nE g := by unfold nE; rw [e10]
  have e127 : ∀ i, putM (putC g m) m 127 i = g 127 i := fun i => o 127 i rfl
  have e130 : ∀ i, putM (putC g m) m 130 i = g 130 i := fun i => o 130 i rfl
  refine ⟨fun p hp q => by rw [o 97 p rfl]; rw [o 94 p rfl] at q; exact h.1 p hp q, fun e he => ?_, fun k hk q => by rw [e127, e130]; rw [e130] at q; exact h.2.2.1 k hk q, fun m' hm' hp k hk q => ?_⟩
  · rw [hn] at he
    obtain ⟨⟨p, h1, h2⟩, h3⟩ := h.2.1 e he
    refine ⟨⟨p, h1, by rw [o 101 e rfl]; exact h2⟩, fun q hq hb => ?_⟩
    rw [o 101 e rfl] at hb
    rw [o 94 q rfl]
    exact h3 q hq hb
  · have e157 : putM (putC g m) m 157 (10 * m' + k) = if m' = m then g 130 k else g 157 (10 * m' + k) := by
      rw [putM_get]
      by_cases z : m' = m
      · subst z
        rw [if_pos ⟨rfl, by omega, by omega⟩, if_pos rfl, show 10 * m' + k - 10 * m' = k by omega, putC_o g hm' (by omega)]
      · rw [if_neg (by omega), if_neg (by omega), if_neg (by omega), if_neg z, putM0_get, if_neg (by omega), if_neg (by omega), if_neg (by omega), if_neg (by omega), if_neg (by omega), putC_o g hm (by omega)]
    rw [e127, e157]
    rw [e157] at q
    by_cases z : m' = m
    · rw [if_pos z]; rw [if_pos z] at q
      exact h.2.2.1 k hk q
    · rw [if_neg z]; rw [if_neg z] at q
      have e153 : putM (putC g m) m 153 m' = g 153 m' := by
        rw [putM_get, if_neg (by omega), if_neg (by omega), if_neg (by omega), putM0_get, if_neg (by omega), if_neg (by omega), if_neg (by omega), if_neg (by omega), if_neg (by omega), putC_o g hm (by omega)]
      rw [e153] at hp
      exact h.2.2.2 m' hm' hp k hk q
theorem RP2_get {N : Int} {g : Gm} (h : RP2 g) (hs : RS N g) {m : Nat} (hm : m < 4) (hp : 0 < g 153 m) : RP2 (getM (fo (dropC m) (getC g m) 4) m) := by
  have o : ∀ x j, gety x j = false → getM (fo (dropC m) (getC g m) 4) m x j = g x j := fun x j q => get_o g q
  have o2 : ∀ x j, ¬ (x = 73 ∨ x = 39 ∨ x = 35 ∨ x = 30) → fo (dropC m) (getC g m) 4 x j = g x j := fun x j q => get_u g q
  have hh2 := (hs.2.2.2.1 m hm).2.2.2 hp
  have e10 : getM (fo (dropC m) (getC g m) 4) m 89 10 = g 154 m := by
    rw [getM_get, if_neg (by omega), if_neg (by omega), if_neg (by omega), if_neg (by omega), getM0_get, if_pos ⟨rfl, rfl⟩, o2 154 m (by omega)]
  have hn : nE (getM (fo (dropC m) (getC g m) 4) m) ≤ nE g := by
    unfold nE; rw [e10]
    have := hh2.2.1; have := hh2.2.2.1
    omega
  have e127 : ∀ i, getM (fo (dropC m) (getC g m) 4) m 127 i = g 127 i := fun i => o 127 i rfl
  refine ⟨fun p hp q => by rw [o 97 p rfl]; rw [o 94 p rfl] at q; exact h.1 p hp q, fun e he => ?_, fun k hk q => ?_, fun m' hm' hp' k hk q => ?_⟩
  · obtain ⟨⟨p, h1, h2⟩, h3⟩ := h.2.1 e (by omega)
    refine ⟨⟨p, h1, by rw [o 101 e rfl]; exact h2⟩, fun q hq hb => ?_⟩
    rw [o 101 e rfl] at hb
    rw [o 94 q rfl]
    exact h3 q hq hb
  · have e130 : getM (fo (dropC m) (getC g m) 4) m 130 k = g 157 (10 * m + k) := by
      rw [getM_get, if_neg (by omega), if_pos ⟨rfl, hk⟩, o2 157 _ (by omega)]
    rw [e127, e130]
    rw [e130] at q
    exact h.2.2.2 m hm hp k hk q
  · rw [e127, o 157 _ rfl]
    rw [o 157 _ rfl] at q
    have e153 : getM (fo (dropC m) (getC g m) 4) m 153 m' = if 153 = 153 ∧ m' < 4 ∧ g 153 m < g 153 m' then 0 else g 153 m' := by
      rw [getM_get, o2 153 m (by omega), o2 153 m' (by omega)]
      split
      · rfl
      · rw [if_neg (by omega), if_neg (by omega), if_neg (by omega), getM0_get, if_neg (by omega), if_neg (by omega), o2 153 m' (by omega)]
    rw [e153] at hp'
    refine h.2.2.2 m' hm' ?_ k hk q
    split at hp'
    · exact absurd hp' (by decide)
    · exact hp'
section MARKS
variable (X : MExt)
theorem s_mark (x1 x2 : Int) (N : Int) (E : List (Nat × Nat)) (c s d : Nat) (g : Gm) (hN : N < 2147483646) (h : ST N E g) : ∃ v g1 g2, Call prog clsT X (d + 2) 135 [(2, 0), (0, x1), (0, x2)] (mk E c s (hh g)) = some ((0, v), mk E c s (hh g1)) ∧ Call prog clsT X (d + 2) 246 [(2, 89), (0, x1), (0, x2)] (mk E c s (hh g1)) = some ((0, v), mk E c s (hh g2)) ∧ ST (N + 1) E g2 := by
  have i0 := h.1.1
  have hs := h.1.2.2.2.1
  by_cases hc : (0 ≤ x1 ∧ x1 ≤ 3) ∧ (x2 = 0 ∨ 0 < g 73 x1.toNat)
  case neg =>
    have hc2 : ¬ ((0 ≤ x1 ∧ x1 ≤ 3) ∧ (x2 = 0 ∨ g 153 x1.toNat ≠ 0)) := by
      rintro ⟨p, q⟩
      have t := hs.2.2.2.1 x1.toNat (by omega)
      refine hc ⟨p, ?_⟩
      rcases q with q | q
      · exact Or.inl q
      · exact Or.inr (by omega)
    have hq := ST_Q h (onQ_0 (onQ_refl g) 0)
    exact ⟨0, _, _, (c135 X E c s d x1 x2).trans (if_neg hc), (m246 X E c s d x1 x2).trans (if_neg hc2), ⟨hq.1.1, hq.1.2.1, hq.1.2.2.1, hq.1.2.2.2.1.mono (by omega), hq.1.2.2.2.2⟩, hq.2⟩
  have hm : x1.toNat < 4 := by omega
  by_cases h2 : x2 = 0
  · refine ⟨1, putC g x1.toNat, putM (putC g x1.toNat) x1.toNat, ?_, ?_, INV_of h.1 (I0_sh i0 (fun x i q => put_o g hm q)) (RS_put hN i0 hs hm) (fun x i hx => put_o g hm ?_), RP2_put h.2 hm⟩
    · rw [c135, if_pos hc, if_pos h2]
    · rw [m246, if_pos ⟨hc.1, Or.inl h2⟩, if_pos h2]
    · unfold shelfy
      simp only [Bool.or_eq_false_iff, decide_eq_false_iff_not]
      omega
  · have hp : 0 < g 73 x1.toNat := by rcases hc.2 with q | q; exact absurd q h2; exact q
    have t := hs.2.2.2.1 x1.toNat hm
    have hp2 : 0 < g 153 x1.toNat := by omega
    have hg := RS_get i0 hs hm hp2
    refine ⟨1, fo (dropC x1.toNat) (getC g x1.toNat) 4, getM (fo (dropC x1.toNat) (getC g x1.toNat) 4) x1.toNat, ?_, ?_, INV_of h.1 hg.1 (hg.2.mono (by omega)) (fun x i hx => get_o g ?_), RP2_get h.2 hs hm hp2⟩
    · rw [c135, if_pos hc, if_neg h2]
    · have hne : fo (dropC x1.toNat) (getC g x1.toNat) 4 153 x1.toNat ≠ 0 := by rw [get_u g (x := 153) (by decide)]; omega
      rw [m246, if_pos ⟨hc.1, Or.inr hne⟩, if_neg h2]
    · unfold gety
      rw [decide_eq_false_iff_not]
      omega
/-- a reader's call -/
def OpT (X : MExt) (cj mj k : Nat) (A : List MV) : Prop := ∀ (N : Int) (E : List (Nat × Nat)) (c s d : Nat) (g : Gm), ST N E g → ∃ v E' c' s' g1 g2, Call prog clsT X (d + k) cj ((2, 0) :: A) (mk E c s (hh g)) = some ((0, v), mk E' c' s' (hh g1)) ∧ Call prog clsT X (d + k) mj ((2, 89) :: A) (mk E' c' s' (hh g1)) = some ((0, v), mk E' c' s' (hh g2)) ∧ ST N E' g2 ∧ c' ≤ c + 5 ∧ s' ≤ s + 1036
theorem zT_RP (x i : Nat) (h : sRP x i = true) : ¬ zT x i := by
  unfold sRP at h
  unfold zT zR zM
  split at h
  all_goals first | omega | (simp at h; done) | (simp at h; subst h; omega)
theorem T_of {cj mj k : Nat} {A : List MV} (h : OpR X cj mj k A) : OpT X cj mj k A := by
  intro N E c s d g hs
  obtain ⟨v, E', c', s', g1, g2, a1, a2, a3, a4, a5, a6⟩ := h N E c s d g hs.1
  exact ⟨v, E', c', s', g1, g2, a1, a2, ⟨a3, hs.2.fr (fr_of a6 zT_RP)⟩, a4, a5⟩
end MARKS
