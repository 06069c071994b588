/-! Part 81: mark, bringing one back; mark answers alike. -/
def gety (x i : Nat) : Bool := decide (x = 153 ∨ x = 130 ∨ x = 104 ∨ x = 103 ∨ x = 73 ∨ x = 39 ∨ x = 35 ∨ x = 30 ∨ (x = 89 ∧ (i = 10 ∨ i = 0)))
theorem get_u (g : Nat → Nat → Int) {m x j : Nat} (h : ¬ (x = 73 ∨ x = 39 ∨ x = 35 ∨ x = 30)) : fo (dropC m) (getC g m) 4 x j = g x j := by
  rw [getC_get, if_neg (by omega), if_neg (by omega), if_neg (by omega), if_neg (by omega), if_neg (by omega)]
theorem getM0_get (u : Nat → Nat → Int) (m x j : Nat) : getM0 u m x j = if x = 89 ∧ j = 10 then u 154 m else if x = 89 ∧ j = 0 then 0 else u x j := rfl
theorem get_o (g : Nat → Nat → Int) {m x j : Nat} (h : gety x j = false) : getM (fo (dropC m) (getC g m) 4) m x j = g x j := by
  unfold gety at h
  rw [decide_eq_false_iff_not] at h
  rw [getM_get, if_neg (by omega), if_neg (by omega), if_neg (by omega), if_neg (by omega), getM0_get, if_neg (by omega), if_neg (by omega), get_u g (by omega)]
theorem gy_RV (x i : Nat) (h : sRV x i = true) : gety x i = false := by
  unfold sRV at h; split at h <;> simp_all [gety]
theorem gy_RH (x i : Nat) (h : sRH x i = true) : gety x i = false := by
  unfold sRH at h; split at h <;> simp_all [gety]
theorem gy_RC (x i : Nat) (h : sRC x i = true) : gety x i = false := by
  unfold sRC at h; split at h <;> simp_all [gety] <;> omega
theorem RS_get {N : Int} {g : Nat → Nat → Int} (h : I0 g) (hs : RS N g) {m : Nat} (hm : m < 4) (hp : 0 < g 153 m) : I0 (getM (fo (dropC m) (getC g m) 4) m) ∧ RS N (getM (fo (dropC m) (getC g m) 4) m) := by
  obtain ⟨s1, s2, s3, s4, s5⟩ := hs
  have o : ∀ x j, gety x j = false → getM (fo (dropC m) (getC g m) 4) m x j = g x j := fun x j q => get_o g q
  generalize hP : getM (fo (dropC m) (getC g m) 4) m = P at *
  have v153 : ∀ k, k < 4 → P 153 k = if g 153 m < g 153 k then 0 else g 153 k := by
    intro k hk
    rw [← hP, getM_get, get_u g (by decide), get_u g (by decide)]
    by_cases q : g 153 m < g 153 k
    · rw [if_pos ⟨rfl, hk, q⟩, if_pos q]
    · rw [if_neg (fun z => q z.2.2), if_neg (by omega), if_neg (by omega), if_neg (by omega), getM0_get, if_neg (by omega), if_neg (by omega), get_u g (by decide), if_neg q]
  have v73 : ∀ k, k < 4 → P 73 k = if g 73 m < g 73 k then 0 else g 73 k := by
    intro k hk
    rw [← hP, getM_get, if_neg (by omega), if_neg (by omega), if_neg (by omega), if_neg (by omega), getM0_get, if_neg (by omega), if_neg (by omega), getC_get]
    by_cases q : g 73 m < g 73 k
    · rw [if_pos ⟨rfl, hk, q⟩, if_pos q]
    · rw [if_neg (fun z => q z.2.2), if_neg (by omega), if_neg (by omega), if_neg (by omega), if_neg (by omega), if_neg q]
  have v130 : ∀ i, P 130 i = if i < 10 then g 157 (10 * m + i) else g 130 i := by
    intro i
    rw [← hP, getM_get, if_neg (by omega)]
    by_cases q : i < 10
    · rw [if_pos ⟨rfl, q⟩, if_pos q, get_u g (by decide)]
    · rw [if_neg (by omega), if_neg (by omega), if_neg (by omega), getM0_get, if_neg (by omega), if_neg (by omega), get_u g (by decide), if_neg q]
  have v104 : ∀ e, P 104 e = if e < 40 then bit1 (g 155 (40 * m + e)) else g 104 e := by
    intro e
    rw [← hP, getM_get, if_neg (by omega), if_neg (by omega)]
    by_cases q : e < 40
    · rw [if_pos ⟨rfl, q⟩, if_pos q, get_u g (by decide)]
    · rw [if_neg (by omega), if_neg (by omega), getM0_get, if_neg (by omega), if_neg (by omega), get_u g (by decide), if_neg q]
  have v103 : ∀ e, P 103 e = if e < 40 then g 156 (40 * m + e) else g 103 e := by
    intro e
    rw [← hP, getM_get, if_neg (by omega), if_neg (by omega), if_neg (by omega)]
    by_cases q : e < 40
    · rw [if_pos ⟨rfl, q⟩, if_pos q, get_u g (by decide)]
    · rw [if_neg (by omega), getM0_get, if_neg (by omega), if_neg (by omega), get_u g (by decide), if_neg q]
  have v39 : ∀ i, P 39 i = if i < 10 then g (82 + m) i else g 39 i := by
    intro i
    rw [← hP, getM_get, if_neg (by omega), if_neg (by omega), if_neg (by omega), if_neg (by omega), getM0_get, if_neg (by omega), if_neg (by omega), getC_get, if_neg (by omega)]
    by_cases q : i < 10
    · rw [if_pos ⟨rfl, q⟩, if_pos q]
    · rw [if_neg (by omega), if_neg (by omega), if_neg (by omega), if_neg (by omega), if_neg q]
  have v35 : ∀ e, P 35 e = if e < 40 then g (77 + m) e else g 35 e := by
    intro e
    rw [← hP, getM_get, if_neg (by omega), if_neg (by omega), if_neg (by omega), if_neg (by omega), getM0_get, if_neg (by omega), if_neg (by omega), getC_get, if_neg (by omega), if_neg (by omega)]
    by_cases q : e < 40
    · rw [if_pos ⟨rfl, q⟩, if_pos q]
    · rw [if_neg (by omega), if_neg (by omega), if_neg (by omega), if_neg q]
  have v30 : P 30 0 = g 74 m := by
    rw [← hP, getM_get, if_neg (by omega), if_neg (by omega), if_neg (by omega), if_neg (by omega), getM0_get, if_neg (by omega), if_neg (by omega), getC_get, if_neg (by omega), if_neg (by omega), if_neg (by omega), if_neg (by omega), if_pos (by omega)]
  have v31 : P 30 1 = g 75 m := by
    rw [← hP, getM_get, if_neg (by omega), if_neg (by omega), if_neg (by omega), if_neg (by omega), getM0_get, if_neg (by omega), if_neg (by omega), getC_get, if_neg (by omega), if_neg (by omega), if_neg (by omega), if_pos (by omega)]
  have v10 : P 89 10 = g 154 m := by
    rw [← hP, getM_get, if_neg (by omega), if_neg (by omega), if_neg (by omega), if_neg (by omega), getM0_get, if_pos (by omega), get_u g (by decide)]
  clear hP
  obtain ⟨t1, t2, t3, t4⟩ := s4 m hm
  obtain ⟨b1, b2, b3, b4, b5, b6, b7, b8⟩ := t4 hp
  obtain ⟨a1, a2, a3, a4, a5, a6, a7, a8, a9, a10, a11, a12, a13, a14, a15, a16, a17⟩ := h.1
  obtain ⟨j1, j2, j3, j4, j5, j6, j7, j8, j9, j10, j11⟩ := h.2.2.1
  obtain ⟨q1, q2, q3⟩ := h.2.2.2.2.2
  have hn : nE P ≤ nE g := by unfold nE; rw [v10]; omega
  refine ⟨⟨⟨?_, ?_, ?_, ?_, fun e he => ?_, fun e => ?_, fun e => ?_, fun e => ?_, fun e => ?_, fun e => ?_, fun e => ?_, fun e => ?_, fun e => ?_, fun e => ?_, fun e => ?_, fun e => ?_, fun e => ?_⟩, h.2.1.fr (fun x i q => o x i (gy_RV x i q)), ⟨fun j hj => ?_, fun j => ?_, fun j hj => ?_, fun j => ?_, fun i => ?_, fun i => ?_, fun i => ?_, fun i hi => ?_, ?_, ?_, ?_⟩, h.2.2.2.1.fr (fun x i q => o x i (gy_RH x i q)), h.2.2.2.2.1.fr (fun x i q => o x i (gy_RC x i q)), ⟨fun e he => ?_, fun p hpp => ?_, fun e he => ?_⟩⟩, ?_⟩
  · rw [v30, v10]; exact b1
  · rw [v10]; exact b2
  · rw [v10]; omega
  · rw [v31]; exact b4
  · rw [v31, b5 e he, v104]
    have en : nE P = (g 154 m).toNat := by unfold nE; rw [v10]
    by_cases q : e < 40
    · rw [if_pos q, b1_id (b7 e q), en]
      apply decide_eq_decide.mpr
      omega
    · rw [decide_eq_false (by omega), decide_eq_false (by omega)]
  · rw [o 31 e rfl, o 99 e rfl]; exact a6 e
  · rw [o 32 e rfl, o 100 e rfl]; exact a7 e
  · rw [o 33 e rfl, o 101 e rfl]; exact a8 e
  · rw [o 34 e rfl, o 102 e rfl]; exact a9 e
  · rw [v35, v103]
    by_cases q : e < 40
    · rw [if_pos q, if_pos q]; exact (b6 e q).1
    · rw [if_neg q, if_neg q]; exact a10 e
  · rw [o 33 e rfl]; exact a11 e
  · rw [v35]
    by_cases q : e < 40
    · rw [if_pos q, (b6 e q).1]; exact (b6 e q).2
    · rw [if_neg q]; exact a12 e
  · rw [o 102 e rfl]; exact a13 e
  · rw [o 99 e rfl]; exact a14 e
  · rw [o 100 e rfl]; exact a15 e
  · rw [v104]
    by_cases q : e < 40
    · rw [if_pos q]; exact b1_01 _
    · rw [if_neg q]; exact a16 e
  · rw [o 101 e rfl]; exact a17 e
  · rw [o 37 j rfl, o 127 j rfl]; exact j1 j hj
  · rw [o 127 j rfl]; exact j2 j
  · rw [o 37 j rfl, o 127 j rfl, o 128 j rfl]; exact j3 j hj
  · rw [o 128 j rfl]; exact j4 j
  · rw [o 38 i rfl, o 129 i rfl]; exact j5 i
  · rw [o 129 i rfl]; exact j6 i
  · rw [v39, v130]
    by_cases q : i < 10
    · rw [if_pos q, if_pos q]; exact (b8 i q).1
    · rw [if_neg q, if_neg q]; exact j7 i
  · rw [v130, if_pos hi]; exact (b8 i hi).2
  · rw [o 36 3 rfl, o 89 61 rfl]; exact j9
  · rw [o 89 61 rfl]; exact j10
  · rw [o 89 61 rfl]; exact j11
  · rw [o 90 _ rfl, o 100 e rfl]; exact q1 e (by omega)
  · rw [o 90 _ rfl, o 95 p rfl]
    rw [o 94 p rfl] at hpp
    exact q2 p hpp
  · rw [o 106 _ rfl, o 99 e rfl]; exact q3 e (by omega)
  · refine ⟨by rw [o 72 5 rfl, o 89 81 rfl]; exact s1, by rw [o 89 81 rfl]; exact s2, by rw [o 89 81 rfl]; exact s3, fun k hk => ?_, fun k l hk hl h1 h2 => ?_⟩
    · obtain ⟨k1, k2, k3, k4⟩ := s4 k hk
      rw [v73 k hk, v153 k hk, o 89 81 rfl, k1, t1]
      by_cases q : g 153 m < g 153 k
      · rw [if_pos q]
        exact ⟨rfl, by omega, by omega, fun z => absurd z (by omega)⟩
      · rw [if_neg q]
        refine ⟨rfl, k2, k3, fun z => ?_⟩
        obtain ⟨c1, c2, c3, c4, c5, c6, c7, c8⟩ := k4 z
        have hle := s5 k m hk hm z (by omega)
        have o77 : ∀ e, P (77 + k) e = g (77 + k) e := fun e => o _ _ (by unfold gety; exact decide_eq_false (by omega))
        have o82 : ∀ e, P (82 + k) e = g (82 + k) e := fun e => o _ _ (by unfold gety; exact decide_eq_false (by omega))
        refine ⟨by rw [o 74 k rfl, o 154 k rfl]; exact c1, by rw [o 154 k rfl]; exact c2, by rw [o 154 k rfl, v10]; exact hle, by rw [o 75 k rfl]; exact c4, fun e he => ?_, fun e he => ?_, fun e he => ?_, fun i hi => ?_⟩
        · rw [o 75 k rfl, o 154 k rfl, o 155 _ rfl]; exact c5 e he
        · rw [o77, o 156 _ rfl]; exact c6 e he
        · rw [o 155 _ rfl]; exact c7 e he
        · rw [o82, o 157 _ rfl]; exact c8 i hi
    · rw [v153 k hk] at h1 h2
      rw [v153 l hl] at h2
      rw [o 154 k rfl, o 154 l rfl]
      by_cases qk : g 153 m < g 153 k
      · rw [if_pos qk] at h1; omega
      · rw [if_neg qk] at h1 h2
        by_cases ql : g 153 m < g 153 l
        · rw [if_pos ql] at h2; omega
        · rw [if_neg ql] at h2
          exact s5 k l hk hl h1 h2
theorem RS_fr {N : Int} {g g' : Nat → Nat → Int} (h : RS N g) (e : ∀ x i, (72 ≤ x ∧ x ≤ 85) ∨ (153 ≤ x ∧ x ≤ 157) ∨ (x = 89 ∧ i = 81) → g' x i = g x i) (e10 : g 89 10 ≤ g' 89 10) : RS N g' := by
  refine ⟨by rw [e 72 5 (by omega), e 89 81 (by omega)]; exact h.1, by rw [e 89 81 (by omega)]; exact h.2.1, by rw [e 89 81 (by omega)]; exact h.2.2.1, fun k hk => ?_, fun k l hk hl h1 h2 => ?_⟩
  · obtain ⟨k1, k2, k3, k4⟩ := h.2.2.2.1 k hk
    rw [e 73 k (by omega), e 153 k (by omega), e 89 81 (by omega)]
    refine ⟨k1, k2, k3, fun z => ?_⟩
    obtain ⟨c1, c2, c3, c4, c5, c6, c7, c8⟩ := k4 z
    refine ⟨by rw [e 74 k (by omega), e 154 k (by omega)]; exact c1, by rw [e 154 k (by omega)]; exact c2, by rw [e 154 k (by omega)]; omega, by rw [e 75 k (by omega)]; exact c4, fun i hi => ?_, fun i hi => ?_, fun i hi => ?_, fun i hi => ?_⟩
    · rw [e 75 k (by omega), e 154 k (by omega), e 155 _ (by omega)]; exact c5 i hi
    · rw [e (77 + k) i (by omega), e 156 _ (by omega)]; exact c6 i hi
    · rw [e 155 _ (by omega)]; exact c7 i hi
    · rw [e (82 + k) i (by omega), e 157 _ (by omega)]; exact c8 i hi
  · rw [e 153 k (by omega)] at h1 h2
    rw [e 153 l (by omega)] at h2
    rw [e 154 k (by omega), e 154 l (by omega)]
    exact h.2.2.2.2 k l hk hl h1 h2
theorem RS.mono {N N' : Int} {g : Nat → Nat → Int} (h : RS N g) (hn : N ≤ N') : RS N' g := ⟨h.1, h.2.1, Int.le_trans h.2.2.1 hn, h.2.2.2⟩
theorem op_mark (X : MExt) (x1 x2 : Int) (E : List (Nat × Nat)) (c s d : Nat) (g : Nat → Nat → Int) (N : Int) (hN : N < 2147483646) (h : I0 g) (hs : RS N g) : ∃ v g1 g2, Call prog clsT X (d + 2) 135 [(2, 0), (0, x1), (0, x2)] (mk E c s (hh g)) = some ((0, v), mk E c s (hh g1)) ∧ Call prog clsT X (d + 2) 246 [(2, 89), (0, x1), (0, x2)] (mk E c s (hh g1)) = some ((0, v), mk E c s (hh g2)) ∧ I0 g2 ∧ RS (N + 1) g2 ∧ ∀ x i, shelfy x i = false → gety x i = false → g2 x i = g x i := by
  by_cases hc : (0 ≤ x1 ∧ x1 ≤ 3) ∧ (x2 = 0 ∨ 0 < g 73 x1.toNat)
  case neg =>
    have hc2 : ¬ ((0 ≤ x1 ∧ x1 ≤ 3) ∧ (x2 = 0 ∨ g 153 x1.toNat ≠ 0)) := by
      rintro ⟨p, q⟩
      have t := hs.2.2.2.1 x1.toNat (by omega)
      refine hc ⟨p, ?_⟩
      rcases q with q | q
      · exact Or.inl q
      · exact Or.inr (by omega)
    refine ⟨0, _, _, (c135 X E c s d x1 x2).trans (if_neg hc), (m246 X E c s d x1 x2).trans (if_neg hc2), I0_z h, ?_, fun x i q1 q2 => ?_⟩
    · have r : RS N (up g 89 0 0) := RS_fr hs (fun x i q => by
        show (if x = 89 ∧ i = 0 then 0 else g x i) = g x i
        rw [if_neg (by omega)]) (Int.le_refl _)
      exact r.mono (by omega)
    · show (if x = 89 ∧ i = 0 then 0 else g x i) = g x i
      have := shelfy_is q1
      rw [if_neg (by omega)]
  have hm : x1.toNat < 4 := by omega
  by_cases h2 : x2 = 0
  · refine ⟨1, putC g x1.toNat, putM (putC g x1.toNat) x1.toNat, ?_, ?_, I0_sh h (fun x i q => put_o g hm q), RS_put hN h hs hm, fun x i q _ => put_o g hm q⟩
    · rw [c135, if_pos hc, if_pos h2]
    · rw [m246, if_pos ⟨hc.1, Or.inl h2⟩, if_pos h2]
  · have hp : 0 < g 73 x1.toNat := by rcases hc.2 with q | q; exact absurd q h2; exact q
    have t := hs.2.2.2.1 x1.toNat hm
    have hg := RS_get h hs hm (by omega)
    refine ⟨1, fo (dropC x1.toNat) (getC g x1.toNat) 4, getM (fo (dropC x1.toNat) (getC g x1.toNat) 4) x1.toNat, ?_, ?_, hg.1, hg.2.mono (by omega), fun x i _ q => get_o g q⟩
    · rw [c135, if_pos hc, if_neg h2]
    · have hne : fo (dropC x1.toNat) (getC g x1.toNat) 4 153 x1.toNat ≠ 0 := by rw [get_u g (x := 153) (by decide)]; omega
      rw [m246, if_pos ⟨hc.1, Or.inr hne⟩, if_neg h2]
