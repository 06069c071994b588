/-! Part 80: mark, laying one down. -/
def shelfy (x i : Nat) : Bool := decide (153 ≤ x ∧ x ≤ 157) || decide (72 ≤ x ∧ x ≤ 75) || decide (77 ≤ x ∧ x ≤ 80) || decide (82 ≤ x ∧ x ≤ 85) || decide (x = 89 ∧ (i = 81 ∨ i = 0))
theorem shelfy_is {x i : Nat} (h : shelfy x i = false) : ¬ (153 ≤ x ∧ x ≤ 157) ∧ ¬ (72 ≤ x ∧ x ≤ 75) ∧ ¬ (77 ≤ x ∧ x ≤ 80) ∧ ¬ (82 ≤ x ∧ x ≤ 85) ∧ ¬ (x = 89 ∧ (i = 81 ∨ i = 0)) := by
  unfold shelfy at h
  simp only [Bool.or_eq_false_iff, decide_eq_false_iff_not] at h
  exact ⟨h.1.1.1.1, h.1.1.1.2, h.1.1.2, h.1.2, h.2⟩
theorem putM0_get (u : Nat → Nat → Int) (m x j : Nat) : putM0 u m x j = if x = 89 ∧ j = 10 then u 89 10 else if x = 154 ∧ j = m then u 89 10 else if x = 153 ∧ j = m then w32 (u 89 81 + 1) else if x = 89 ∧ j = 81 then w32 (u 89 81 + 1) else if x = 89 ∧ j = 0 then 0 else u x j := rfl
theorem putC_o (g : Nat → Nat → Int) {m x j : Nat} (hm : m < 4) (h : ¬ (72 ≤ x ∧ x ≤ 75) ∧ ¬ (77 ≤ x ∧ x ≤ 80) ∧ ¬ (82 ≤ x ∧ x ≤ 85)) : putC g m x j = g x j := by
  rw [putC_get, if_neg (by omega), if_neg (by omega), if_neg (by omega), if_neg (by omega), if_neg (by omega), if_neg (by omega)]
theorem put_o (g : Nat → Nat → Int) {m x j : Nat} (hm : m < 4) (h : shelfy x j = false) : putM (putC g m) m x j = g x j := by
  obtain ⟨h1, h2, h3, h4, h5⟩ := shelfy_is h
  rw [putM_get, if_neg (by omega), if_neg (by omega), if_neg (by omega), putM0_get]
  by_cases q : x = 89 ∧ j = 10
  · rw [if_pos q, putC_o g hm (by decide), q.1, q.2]
  · rw [if_neg q, if_neg (by omega), if_neg (by omega), if_neg (by omega), if_neg (by omega), putC_o g hm ⟨h2, h3, h4⟩]
theorem sh_RE (x i : Nat) (h : sRE x i = true) : shelfy x i = false := by
  unfold sRE at h; split at h <;> simp_all [shelfy] <;> omega
theorem sh_RV (x i : Nat) (h : sRV x i = true) : shelfy x i = false := by
  unfold sRV at h; split at h <;> simp_all [shelfy]
theorem sh_RJ (x i : Nat) (h : sRJ x i = true) : shelfy x i = false := by
  unfold sRJ at h; split at h <;> simp_all [shelfy]
theorem sh_RH (x i : Nat) (h : sRH x i = true) : shelfy x i = false := by
  unfold sRH at h; split at h <;> simp_all [shelfy]
theorem sh_RC (x i : Nat) (h : sRC x i = true) : shelfy x i = false := by
  unfold sRC at h; split at h <;> simp_all [shelfy] <;> omega
theorem sh_RQ (x i : Nat) (h : sRQ x i = true) : shelfy x i = false := by
  unfold sRQ at h; split at h <;> simp_all [shelfy]
theorem I0_sh {g g' : Nat → Nat → Int} (h : I0 g) (e : ∀ x i, shelfy x i = false → g' x i = g x i) : I0 g' := ⟨h.1.fr (fun x i q => e x i (sh_RE x i q)), h.2.1.fr (fun x i q => e x i (sh_RV x i q)), h.2.2.1.fr (fun x i q => e x i (sh_RJ x i q)), h.2.2.2.1.fr (fun x i q => e x i (sh_RH x i q)), h.2.2.2.2.1.fr (fun x i q => e x i (sh_RC x i q)), h.2.2.2.2.2.fr (fun x i q => e x i (sh_RQ x i q))⟩
theorem RS_put {N : Int} {g : Nat → Nat → Int} (hN : N < 2147483646) (h : I0 g) (hs : RS N g) {m : Nat} (hm : m < 4) : RS (N + 1) (putM (putC g m) m) := by
  obtain ⟨s1, s2, s3, s4, s5⟩ := hs
  generalize hP : putM (putC g m) m = P
  have eL : w32 (g 72 5 + 1) = g 89 81 + 1 := by rw [s1]; exact w32_of (by omega) (by omega)
  have eL2 : w32 (putC g m 89 81 + 1) = g 89 81 + 1 := by rw [putC_o g hm (by decide)]; exact w32_of (by omega) (by omega)
  have e10 : putC g m 89 10 = g 89 10 := putC_o g hm (by decide)
  have v72 : P 72 5 = g 89 81 + 1 := by
    rw [← hP, putM_get, if_neg (by omega), if_neg (by omega), if_neg (by omega), putM0_get, if_neg (by omega), if_neg (by omega), if_neg (by omega), if_neg (by omega), if_neg (by omega), putC_get, if_neg (by omega), if_neg (by omega), if_neg (by omega), if_neg (by omega), if_neg (by omega), if_pos (by omega), eL]
  have v89 : P 89 81 = g 89 81 + 1 := by
    rw [← hP, putM_get, if_neg (by omega), if_neg (by omega), if_neg (by omega), putM0_get, if_neg (by omega), if_neg (by omega), if_neg (by omega), if_pos (by omega), eL2]
  have v10 : P 89 10 = g 89 10 := by
    rw [← hP, putM_get, if_neg (by omega), if_neg (by omega), if_neg (by omega), putM0_get, if_pos (by omega), e10]
  have v73 : ∀ k, P 73 k = if k = m then g 89 81 + 1 else g 73 k := by
    intro k
    rw [← hP, putM_get, if_neg (by omega), if_neg (by omega), if_neg (by omega), putM0_get, if_neg (by omega), if_neg (by omega), if_neg (by omega), if_neg (by omega), if_neg (by omega), putC_get, if_neg (by omega), if_neg (by omega), if_neg (by omega), if_neg (by omega), eL]
    by_cases q : k = m
    · rw [if_pos (by omega), if_pos q]
    · rw [if_neg (by omega), if_neg (by omega), if_neg q]
  have v153 : ∀ k, P 153 k = if k = m then g 89 81 + 1 else g 153 k := by
    intro k
    rw [← hP, putM_get, if_neg (by omega), if_neg (by omega), if_neg (by omega), putM0_get, if_neg (by omega), if_neg (by omega), eL2]
    by_cases q : k = m
    · rw [if_pos (by omega), if_pos q]
    · rw [if_neg (by omega), if_neg (by omega), if_neg (by omega), putC_o g hm (by decide), if_neg q]
  have v154 : ∀ k, P 154 k = if k = m then g 89 10 else g 154 k := by
    intro k
    rw [← hP, putM_get, if_neg (by omega), if_neg (by omega), if_neg (by omega), putM0_get, if_neg (by omega), e10]
    by_cases q : k = m
    · rw [if_pos (by omega), if_pos q]
    · rw [if_neg (by omega), if_neg (by omega), if_neg (by omega), if_neg (by omega), putC_o g hm (by decide), if_neg q]
  have v74 : ∀ k, P 74 k = if k = m then g 30 0 else g 74 k := by
    intro k
    rw [← hP, putM_get, if_neg (by omega), if_neg (by omega), if_neg (by omega), putM0_get, if_neg (by omega), if_neg (by omega), if_neg (by omega), if_neg (by omega), if_neg (by omega), putC_get, if_neg (by omega), if_neg (by omega), if_neg (by omega)]
    by_cases q : k = m
    · rw [if_pos (by omega), if_pos q]
    · rw [if_neg (by omega), if_neg (by omega), if_neg (by omega), if_neg q]
  have v75 : ∀ k, P 75 k = if k = m then g 30 1 else g 75 k := by
    intro k
    rw [← hP, putM_get, if_neg (by omega), if_neg (by omega), if_neg (by omega), putM0_get, if_neg (by omega), if_neg (by omega), if_neg (by omega), if_neg (by omega), if_neg (by omega), putC_get, if_neg (by omega), if_neg (by omega)]
    by_cases q : k = m
    · rw [if_pos (by omega), if_pos q]
    · rw [if_neg (by omega), if_neg (by omega), if_neg (by omega), if_neg (by omega), if_neg q]
  have v77 : ∀ k e, k < 4 → e < 40 → P (77 + k) e = if k = m then g 35 e else g (77 + k) e := by
    intro k e hk he
    rw [← hP, putM_get, if_neg (by omega), if_neg (by omega), if_neg (by omega), putM0_get, if_neg (by omega), if_neg (by omega), if_neg (by omega), if_neg (by omega), if_neg (by omega), putC_get, if_neg (by omega)]
    by_cases q : k = m
    · rw [if_pos (by omega), if_pos q]
    · rw [if_neg (by omega), if_neg (by omega), if_neg (by omega), if_neg (by omega), if_neg (by omega), if_neg q]
  have v82 : ∀ k i, k < 4 → i < 10 → P (82 + k) i = if k = m then g 39 i else g (82 + k) i := by
    intro k i hk hi
    rw [← hP, putM_get, if_neg (by omega), if_neg (by omega), if_neg (by omega), putM0_get, if_neg (by omega), if_neg (by omega), if_neg (by omega), if_neg (by omega), if_neg (by omega), putC_get]
    by_cases q : k = m
    · rw [if_pos (by omega), if_neg (by omega), if_pos q]
    · rw [if_neg (by omega), if_neg (by omega), if_neg (by omega), if_neg (by omega), if_neg (by omega), if_neg (by omega), if_neg q]
  have v155 : ∀ k e, e < 40 → P 155 (40 * k + e) = if k = m then bit1 (g 104 e) else g 155 (40 * k + e) := by
    intro k e he
    rw [← hP, putM_get, if_neg (by omega)]
    by_cases q : k = m
    · rw [if_pos (by omega), if_pos q, putC_o g hm (by decide)]; congr 2; omega
    · rw [if_neg (by omega), if_neg (by omega), putM0_get, if_neg (by omega), if_neg (by omega), if_neg (by omega), if_neg (by omega), if_neg (by omega), putC_o g hm (by decide), if_neg q]
  have v156 : ∀ k e, e < 40 → P 156 (40 * k + e) = if k = m then g 103 e else g 156 (40 * k + e) := by
    intro k e he
    rw [← hP, putM_get, if_neg (by omega), if_neg (by omega)]
    by_cases q : k = m
    · rw [if_pos (by omega), if_pos q, putC_o g hm (by decide)]; congr 1; omega
    · rw [if_neg (by omega), putM0_get, if_neg (by omega), if_neg (by omega), if_neg (by omega), if_neg (by omega), if_neg (by omega), putC_o g hm (by decide), if_neg q]
  have v157 : ∀ k i, i < 10 → P 157 (10 * k + i) = if k = m then g 130 i else g 157 (10 * k + i) := by
    intro k i hi
    rw [← hP, putM_get]
    by_cases q : k = m
    · rw [if_pos (by omega), if_pos q, putC_o g hm (by decide)]; congr 1; omega
    · rw [if_neg (by omega), if_neg (by omega), if_neg (by omega), putM0_get, if_neg (by omega), if_neg (by omega), if_neg (by omega), if_neg (by omega), if_neg (by omega), putC_o g hm (by decide), if_neg q]
  clear hP
  refine ⟨by rw [v72, v89], by rw [v89]; omega, by rw [v89]; omega, fun k hk => ?_, fun k l hk hl h1 h2 => ?_⟩
  · obtain ⟨t1, t2, t3, t4⟩ := s4 k hk
    rw [v73, v153, v89]
    by_cases q : k = m
    · rw [if_pos q, if_pos q]
      refine ⟨rfl, by omega, by omega, fun _ => ?_⟩
      obtain ⟨a1, a2, a3, a4, a5, a6, a7, a8, a9, a10, a11, a12, a13, a14, a15, a16, a17⟩ := h.1
      obtain ⟨j1, j2, j3, j4, j5, j6, j7, j8, j9, j10, j11⟩ := h.2.2.1
      refine ⟨by rw [v74, v154, if_pos q, if_pos q]; exact a1, by rw [v154, if_pos q]; exact a2, by rw [v154, if_pos q, v10]; omega, by rw [v75, if_pos q]; exact a4, fun e he => ?_, fun e he => ?_, fun e he => ?_, fun i hi => ?_⟩
      · rw [v75, if_pos q, a5 e he, v154, if_pos q]
        have hle := h.1.le
        have en : (nE g : Int) = g 89 10 := h.1.n2.symm
        by_cases q4 : e < 40
        · rw [v155 k e q4, if_pos q, b1_id (a16 e)]
          apply decide_eq_decide.mpr
          omega
        · rw [decide_eq_false (by omega), decide_eq_false (by omega)]
      · rw [v77 k e hk he, if_pos q, v156 k e he, if_pos q, ← a10 e]
        exact ⟨rfl, a12 e⟩
      · rw [v155 k e he, if_pos q]; exact b1_01 _
      · rw [v82 k i hk hi, if_pos q, v157 k i hi, if_pos q]
        exact ⟨j7 i, j8 i hi⟩
    · rw [if_neg q, if_neg q]
      refine ⟨t1, t2, by omega, fun hp => ?_⟩
      obtain ⟨b1, b2, b3, b4, b5, b6, b7, b8⟩ := t4 hp
      refine ⟨by rw [v74, v154, if_neg q, if_neg q]; exact b1, by rw [v154, if_neg q]; exact b2, by rw [v154, if_neg q, v10]; exact b3, by rw [v75, if_neg q]; exact b4, fun e he => ?_, fun e he => ?_, fun e he => ?_, fun i hi => ?_⟩
      · rw [v75, if_neg q, b5 e he, v154, if_neg q]
        by_cases q4 : e < 40
        · rw [v155 k e q4, if_neg q]
        · rw [decide_eq_false (by omega), decide_eq_false (by omega)]
      · rw [v77 k e hk he, if_neg q, v156 k e he, if_neg q]; exact b6 e he
      · rw [v155 k e he, if_neg q]; exact b7 e he
      · rw [v82 k i hk hi, if_neg q, v157 k i hi, if_neg q]; exact b8 i hi
  · rw [v153] at h1
    rw [v153, v153] at h2
    rw [v154, v154]
    have tk := s4 k hk
    have tl := s4 l hl
    by_cases qk : k = m
    · rw [if_pos qk] at h1 h2
      by_cases ql : l = m
      · rw [if_pos qk, if_pos ql]; omega
      · rw [if_neg ql] at h2; omega
    · rw [if_neg qk] at h1 h2
      rw [if_neg qk]
      by_cases ql : l = m
      · rw [if_pos ql]; exact (tk.2.2.2 h1).2.2.1
      · rw [if_neg ql] at h2
        rw [if_neg ql]
        exact s5 k l hk hl h1 h2
