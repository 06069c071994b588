/-! Part bb: printed by a program: one call of the law, whichever it is. -/
theorem callT0 {x : Int} {M : Mem} {o : Option MRes} {h f : MRes → Option MRes} (e : o = some ((0, x), M)) : (o.bind fun r => if r.1.1 = 4 then h r else f r) = f ((0, x), M) := by subst e; rfl
theorem callT1 {x : Int} {M : Mem} {o : Option MRes} {h f : MRes → Option MRes} (e : o = some ((1, x), M)) : (o.bind fun r => if r.1.1 = 4 then h r else f r) = f ((1, x), M) := by subst e; rfl
theorem callT4 {x : Int} {M : Mem} {o : Option MRes} {h f : MRes → Option MRes} (e : o = some ((4, x), M)) : (o.bind fun r => if r.1.1 = 4 then h r else f r) = h ((4, x), M) := by subst e; rfl
theorem ex_deep (PG : Nat → MMeth) (CT : MCls) (X : MExt) : ∀ (n d : Nat) (c : List (Instr × List Nat)) (pc : Nat) (ls st : List MV) (M : Mem) (r : MRes), ex PG CT X n d c pc ls st M = some r → ex PG CT X n (d + 1) c pc ls st M = some r := by
  intro n
  induction n with
  | zero => intro d c pc ls st M r h; cases h
  | succ n ih =>
    intro d c pc ls st M r h
    rw [ex_succ] at h ⊢
    have hle : MLe (exC PG CT X n d) (exC PG CT X n (d + 1)) := by
      intro j as M2 r2 h2
      cases d with
      | zero => cases h2
      | succ d => exact ih _ _ _ _ _ _ _ h2
    rcases mp_bstep PG CT X c pc ls st M _ _ _ h with q | ⟨pc2, ls2, st2, M2, q1, q2⟩
    · exact q _ _ hle
    · exact q2 _ _ hle (ih _ _ _ _ _ _ _ q1)
theorem Call_deep {PG : Nat → MMeth} {CT : MCls} {X : MExt} {d j : Nat} {as : List MV} {M : Mem} {r : MRes} (h : Call PG CT X d j as M = some r) : Call PG CT X (d + 1) j as M = some r := by
  cases d with
  | zero => cases h
  | succ d =>
    obtain ⟨n, hn⟩ := (Ev_iff PG CT X).mp h
    exact (Ev_iff PG CT X).mpr ⟨n, ex_deep PG CT X _ _ _ _ _ _ _ _ hn⟩
/-- both answer, and what holds goes on -/
def ANS (X : MExt) (cj mj : Nat) (A : List MV) : Prop := ∀ (N : Int) (E : List (Nat × Nat)) (c s d : Nat) (g : Gm), N < 100000 → ST N E g → ∃ v N' E' c' s' g1 g2, Call prog clsT X (d + 80) cj ((2, 0) :: A) (mk E c s (hh g)) = some ((0, v), mk E' c' s' (hh g1)) ∧ Call prog clsT X (d + 80) mj ((2, 89) :: A) (mk E' c' s' (hh g1)) = some ((0, v), mk E' c' s' (hh g2)) ∧ ST N' E' g2 ∧ N' ≤ N + 1 ∧ c' ≤ c + 8 ∧ s' ≤ s + 1036
theorem ans_V {X : MExt} {cj mj k : Nat} {A : List MV} (h : OpV X cj mj k A) (hk : k ≤ 80) : ANS X cj mj A := by
  intro N E c s d g _ hs
  obtain ⟨v, g1, g2, a1, a2, a3⟩ := h N E c s (d + (80 - k)) g hs
  rw [show d + (80 - k) + k = d + 80 by omega] at a2 a3
  exact ⟨v, N, E, c, s, g1, g2, a2, a3, ST_Q hs a1, by omega, by omega, by omega⟩
theorem ans_S {X : MExt} {cj mj k : Nat} {A : List MV} (h : OpS X cj mj k A) (hk : k ≤ 80) : ANS X cj mj A := by
  intro N E c s d g _ hs
  obtain ⟨v, g1, g2, a2, a3, a1⟩ := h N E c s (d + (80 - k)) g hs
  rw [show d + (80 - k) + k = d + 80 by omega] at a2 a3
  exact ⟨v, N, E, c, s, g1, g2, a2, a3, a1, by omega, by omega, by omega⟩
theorem ans_T {X : MExt} {cj mj k : Nat} {A : List MV} (h : OpT X cj mj k A) (hk : k ≤ 80) : ANS X cj mj A := by
  intro N E c s d g _ hs
  obtain ⟨v, E', c', s', g1, g2, a2, a3, a1, a4, a5⟩ := h N E c s (d + (80 - k)) g hs
  rw [show d + (80 - k) + k = d + 80 by omega] at a2 a3
  exact ⟨v, N, E', c', s', g1, g2, a2, a3, a1, by omega, by omega, by omega⟩
theorem ans_mark (X : MExt) (x1 x2 : Int) : ANS X 135 246 [(0, x1), (0, x2)] := by
  intro N E c s d g hN hs
  obtain ⟨v, g1, g2, a2, a3, a1⟩ := s_mark X x1 x2 N E c s (d + 78) g (by omega) hs
  exact ⟨v, N + 1, E, c, s, g1, g2, a2, a3, a1, by omega, by omega, by omega⟩
/-- one turn of the law's loop, from where it has looked up the call -/
def LST (X : MExt) (pc : Nat) : Prop := ∀ (N : Int) (E : List (Nat × Nat)) (c s d : Nat) (g : Gm) (x4 v1 v2 v3 v4 v5 v6 : Int), N < 100000 → ST N E g → (∀ M, aget X 100 M (-2) (w32 (x4 + 1)) = some v1) → (∀ M, aget X 100 M (-2) (w32 (x4 + 2)) = some v2) → (∀ M, aget X 100 M (-2) (w32 (x4 + 3)) = some v3) → (∀ M, aget X 100 M (-2) (w32 (x4 + 4)) = some v4) → (∀ M, aget X 100 M (-2) (w32 (x4 + 5)) = some v5) → (∀ M, aget X 100 M (-2) (w32 (x4 + 6)) = some v6) → ∃ N' E' c' s' g' w5 w6, Ev prog clsT X (d + 80) mc271 pc [(2, -2), (2, 0), (2, 89), (2, 158), (0, x4), (3, 0), (3, 0), (3, 0)] [] (mk E c s (hh g)) = Ev prog clsT X (d + 80) mc271 1249 [(2, -2), (2, 0), (2, 89), (2, 158), (0, x4), w5, w6, (3, 0)] [] (mk E' c' s' (hh g')) ∧ ST N' E' g' ∧ N' ≤ N + 1 ∧ c' ≤ c + 8 ∧ s' ≤ s + 1036
section LAW
variable (X : MExt)
theorem l_1 : LST X 80 := by
  intro N E c s d g x4 v1 v2 v3 v4 v5 v6 hN hs h1 h2 h3 h4 h5 h6
  obtain ⟨v, N', E', c', s', g1, g2, a1, a2, a3, a4, a5, a6⟩ := (ans_S (s_piece X v1 v2 v3 v4 v5) (by decide)) N E c s d g hN hs
  refine ⟨N', E', c', s', g2, (3, 0), (3, 0), ?_, a3, a4, a5, a6⟩
  rw [r271_80, h1, bnd_ok, h2, bnd_ok, h3, bnd_ok, h4, bnd_ok, h5, bnd_ok, call0 a1, push0, r271_107, h1, bnd_ok, h2, bnd_ok, h3, bnd_ok, h4, bnd_ok, h5, bnd_ok, call0 a2, push0, r271_134, cmp_eq, if_pos rfl]
theorem l_2 : LST X 137 := by
  intro N E c s d g x4 v1 v2 v3 v4 v5 v6 hN hs h1 h2 h3 h4 h5 h6
  obtain ⟨v, N', E', c', s', g1, g2, a1, a2, a3, a4, a5, a6⟩ := (ans_S (s_feed X (lor64 (lshl64 v1 32) (land64 v2 4294967295)) (lor64 (lshl64 v3 32) (land64 v4 4294967295)) (lor64 (lshl64 v5 32) (land64 v6 4294967295))) (by decide)) N E c s d g hN hs
  refine ⟨N', E', c', s', g2, (3, 0), (3, 0), ?_, a3, a4, a5, a6⟩
  rw [r271_137, h1, bnd_ok, h2, bnd_ok, h3, bnd_ok, h4, bnd_ok, h5, bnd_ok, h6, bnd_ok, call0 a1, push0, r271_190, h1, bnd_ok, h2, bnd_ok, h3, bnd_ok, h4, bnd_ok, h5, bnd_ok, h6, bnd_ok, call0 a2, push0, r271_243, cmp_eq, if_pos rfl]
theorem l_3 (hX : XT X) : LST X 246 := by
  intro N E c s d g x4 v1 v2 v3 v4 v5 v6 hN hs h1 h2 h3 h4 h5 h6
  obtain ⟨v, N', E', c', s', g1, g2, a1, a2, a3, a4, a5, a6⟩ := (ans_T (T_of X (op_schedule hX v1)) (by decide)) N E c s d g hN hs
  refine ⟨N', E', c', s', g2, (3, 0), (3, 0), ?_, a3, a4, a5, a6⟩
  rw [r271_246, h1, bnd_ok, call0 a1, push0, r271_253, h1, bnd_ok, call0 a2, push0, r271_260, cmp_eq, if_pos rfl]
theorem l_4 (hX : XT X) : LST X 263 := by
  intro N E c s d g x4 v1 v2 v3 v4 v5 v6 hN hs h1 h2 h3 h4 h5 h6
  obtain ⟨v, N', E', c', s', g1, g2, a1, a2, a3, a4, a5, a6⟩ := (ans_T (T_of X (op_book hX)) (by decide)) N E c s d g hN hs
  refine ⟨N', E', c', s', g2, (3, 0), (3, 0), ?_, a3, a4, a5, a6⟩
  rw [r271_263, call0 a1, push0, r271_265, call0 a2, push0, r271_267, cmp_eq, if_pos rfl]
theorem l_5 (hX : XT X) : LST X 270 := by
  intro N E c s d g x4 v1 v2 v3 v4 v5 v6 hN hs h1 h2 h3 h4 h5 h6
  obtain ⟨v, N', E', c', s', g1, g2, a1, a2, a3, a4, a5, a6⟩ := (ans_T (T_of X (op_plan hX)) (by decide)) N E c s d g hN hs
  refine ⟨N', E', c', s', g2, (3, 0), (3, 0), ?_, a3, a4, a5, a6⟩
  rw [r271_270, call0 a1, push0, r271_272, call0 a2, push0, r271_274, cmp_eq, if_pos rfl]
theorem l_6 : LST X 277 := by
  intro N E c s d g x4 v1 v2 v3 v4 v5 v6 hN hs h1 h2 h3 h4 h5 h6
  obtain ⟨v, N', E', c', s', g1, g2, a1, a2, a3, a4, a5, a6⟩ := (ans_S (s_entry X v1 v2 (lor64 (lshl64 v3 32) (land64 v4 4294967295)) v5 (in64_or _ _)) (by decide)) N E c s d g hN hs
  refine ⟨N', E', c', s', g2, (3, 0), (3, 0), ?_, a3, a4, a5, a6⟩
  rw [r271_277, h1, bnd_ok, h2, bnd_ok, h3, bnd_ok, h4, bnd_ok, h5, bnd_ok, call0 a1, push0, r271_311, h1, bnd_ok, h2, bnd_ok, h3, bnd_ok, h4, bnd_ok, h5, bnd_ok, call0 a2, push0, r271_345, cmp_eq, if_pos rfl]
theorem l_9 : LST X 428 := by
  intro N E c s d g x4 v1 v2 v3 v4 v5 v6 hN hs h1 h2 h3 h4 h5 h6
  obtain ⟨v, N', E', c', s', g1, g2, a1, a2, a3, a4, a5, a6⟩ := (ans_V (op_clash X v1 v2) (by decide)) N E c s d g hN hs
  refine ⟨N', E', c', s', g2, (3, 0), (3, 0), ?_, a3, a4, a5, a6⟩
  rw [r271_428, h1, bnd_ok, h2, bnd_ok, call0 a1, push0, r271_440, h1, bnd_ok, h2, bnd_ok, call0 a2, push0, r271_452, cmp_eq, if_pos rfl]
theorem l_10 : LST X 455 := by
  intro N E c s d g x4 v1 v2 v3 v4 v5 v6 hN hs h1 h2 h3 h4 h5 h6
  obtain ⟨v, N', E', c', s', g1, g2, a1, a2, a3, a4, a5, a6⟩ := (ans_S (s_strike X v1) (by decide)) N E c s d g hN hs
  refine ⟨N', E', c', s', g2, (3, 0), (3, 0), ?_, a3, a4, a5, a6⟩
  rw [r271_455, h1, bnd_ok, call0 a1, push0, r271_462, h1, bnd_ok, call0 a2, push0, r271_469, cmp_eq, if_pos rfl]
theorem l_11 : LST X 472 := by
  intro N E c s d g x4 v1 v2 v3 v4 v5 v6 hN hs h1 h2 h3 h4 h5 h6
  obtain ⟨v, N', E', c', s', g1, g2, a1, a2, a3, a4, a5, a6⟩ := (ans_S (s_lost X v1 v2) (by decide)) N E c s d g hN hs
  refine ⟨N', E', c', s', g2, (3, 0), (3, 0), ?_, a3, a4, a5, a6⟩
  rw [r271_472, h1, bnd_ok, h2, bnd_ok, call0 a1, push0, r271_484, h1, bnd_ok, h2, bnd_ok, call0 a2, push0, r271_496, cmp_eq, if_pos rfl]
theorem l_12 : LST X 499 := by
  intro N E c s d g x4 v1 v2 v3 v4 v5 v6 hN hs h1 h2 h3 h4 h5 h6
  obtain ⟨v, N', E', c', s', g1, g2, a1, a2, a3, a4, a5, a6⟩ := (ans_S (s_judge X v1 v2) (by decide)) N E c s d g hN hs
  refine ⟨N', E', c', s', g2, (3, 0), (3, 0), ?_, a3, a4, a5, a6⟩
  rw [r271_499, h1, bnd_ok, h2, bnd_ok, call0 a1, push0, r271_511, h1, bnd_ok, h2, bnd_ok, call0 a2, push0, r271_523, cmp_eq, if_pos rfl]
theorem l_13 : LST X 526 := by
  intro N E c s d g x4 v1 v2 v3 v4 v5 v6 hN hs h1 h2 h3 h4 h5 h6
  obtain ⟨v, N', E', c', s', g1, g2, a1, a2, a3, a4, a5, a6⟩ := (ans_S (s_lean X v1 v2 v3) (by decide)) N E c s d g hN hs
  refine ⟨N', E', c', s', g2, (3, 0), (3, 0), ?_, a3, a4, a5, a6⟩
  rw [r271_526, h1, bnd_ok, h2, bnd_ok, h3, bnd_ok, call0 a1, push0, r271_543, h1, bnd_ok, h2, bnd_ok, h3, bnd_ok, call0 a2, push0, r271_560, cmp_eq, if_pos rfl]
theorem l_14 : LST X 563 := by
  intro N E c s d g x4 v1 v2 v3 v4 v5 v6 hN hs h1 h2 h3 h4 h5 h6
  obtain ⟨v, N', E', c', s', g1, g2, a1, a2, a3, a4, a5, a6⟩ := (ans_S (s_kin X v1 v2) (by decide)) N E c s d g hN hs
  refine ⟨N', E', c', s', g2, (3, 0), (3, 0), ?_, a3, a4, a5, a6⟩
  rw [r271_563, h1, bnd_ok, h2, bnd_ok, call0 a1, push0, r271_575, h1, bnd_ok, h2, bnd_ok, call0 a2, push0, r271_587, cmp_eq, if_pos rfl]
theorem l_16 : LST X 635 := by
  intro N E c s d g x4 v1 v2 v3 v4 v5 v6 hN hs h1 h2 h3 h4 h5 h6
  obtain ⟨v, N', E', c', s', g1, g2, a1, a2, a3, a4, a5, a6⟩ := (ans_V (op_place X v1 v2) (by decide)) N E c s d g hN hs
  refine ⟨N', E', c', s', g2, (3, 0), (3, 0), ?_, a3, a4, a5, a6⟩
  rw [r271_635, h1, bnd_ok, h2, bnd_ok, call0 a1, push0, r271_647, h1, bnd_ok, h2, bnd_ok, call0 a2, push0, r271_659, cmp_eq, if_pos rfl]
theorem l_17 : LST X 662 := by
  intro N E c s d g x4 v1 v2 v3 v4 v5 v6 hN hs h1 h2 h3 h4 h5 h6
  obtain ⟨v, N', E', c', s', g1, g2, a1, a2, a3, a4, a5, a6⟩ := (ans_S (s_judged X v1 v2) (by decide)) N E c s d g hN hs
  refine ⟨N', E', c', s', g2, (3, 0), (3, 0), ?_, a3, a4, a5, a6⟩
  rw [r271_662, h1, bnd_ok, h2, bnd_ok, call0 a1, push0, r271_674, h1, bnd_ok, h2, bnd_ok, call0 a2, push0, r271_686, cmp_eq, if_pos rfl]
theorem l_18 : LST X 689 := by
  intro N E c s d g x4 v1 v2 v3 v4 v5 v6 hN hs h1 h2 h3 h4 h5 h6
  obtain ⟨v, N', E', c', s', g1, g2, a1, a2, a3, a4, a5, a6⟩ := (ans_V (op_span X v1 v2) (by decide)) N E c s d g hN hs
  refine ⟨N', E', c', s', g2, (3, 0), (3, 0), ?_, a3, a4, a5, a6⟩
  rw [r271_689, h1, bnd_ok, h2, bnd_ok, call0 a1, push0, r271_701, h1, bnd_ok, h2, bnd_ok, call0 a2, push0, r271_713, cmp_eq, if_pos rfl]
theorem l_19 : LST X 716 := by
  intro N E c s d g x4 v1 v2 v3 v4 v5 v6 hN hs h1 h2 h3 h4 h5 h6
  obtain ⟨v, N', E', c', s', g1, g2, a1, a2, a3, a4, a5, a6⟩ := (ans_S (s_table X v1 v2) (by decide)) N E c s d g hN hs
  refine ⟨N', E', c', s', g2, (3, 0), (3, 0), ?_, a3, a4, a5, a6⟩
  rw [r271_716, h1, bnd_ok, h2, bnd_ok, call0 a1, push0, r271_728, h1, bnd_ok, h2, bnd_ok, call0 a2, push0, r271_740, cmp_eq, if_pos rfl]
theorem l_20 : LST X 743 := by
  intro N E c s d g x4 v1 v2 v3 v4 v5 v6 hN hs h1 h2 h3 h4 h5 h6
  obtain ⟨v, N', E', c', s', g1, g2, a1, a2, a3, a4, a5, a6⟩ := (ans_S (s_lay X v1 v2 v3) (by decide)) N E c s d g hN hs
  refine ⟨N', E', c', s', g2, (3, 0), (3, 0), ?_, a3, a4, a5, a6⟩
  rw [r271_743, h1, bnd_ok, h2, bnd_ok, h3, bnd_ok, call0 a1, push0, r271_760, h1, bnd_ok, h2, bnd_ok, h3, bnd_ok, call0 a2, push0, r271_777, cmp_eq, if_pos rfl]
theorem l_23 : LST X 850 := by
  intro N E c s d g x4 v1 v2 v3 v4 v5 v6 hN hs h1 h2 h3 h4 h5 h6
  obtain ⟨v, N', E', c', s', g1, g2, a1, a2, a3, a4, a5, a6⟩ := (ans_S (s_cap X v1) (by decide)) N E c s d g hN hs
  refine ⟨N', E', c', s', g2, (3, 0), (3, 0), ?_, a3, a4, a5, a6⟩
  rw [r271_850, h1, bnd_ok, call0 a1, push0, r271_857, h1, bnd_ok, call0 a2, push0, r271_864, cmp_eq, if_pos rfl]
theorem l_24 : LST X 867 := by
  intro N E c s d g x4 v1 v2 v3 v4 v5 v6 hN hs h1 h2 h3 h4 h5 h6
  obtain ⟨v, N', E', c', s', g1, g2, a1, a2, a3, a4, a5, a6⟩ := (ans_V (op_round X v1) (by decide)) N E c s d g hN hs
  refine ⟨N', E', c', s', g2, (3, 0), (3, 0), ?_, a3, a4, a5, a6⟩
  rw [r271_867, h1, bnd_ok, call0 a1, push0, r271_874, h1, bnd_ok, call0 a2, push0, r271_881, cmp_eq, if_pos rfl]
theorem l_25 : LST X 884 := by
  intro N E c s d g x4 v1 v2 v3 v4 v5 v6 hN hs h1 h2 h3 h4 h5 h6
  obtain ⟨v, N', E', c', s', g1, g2, a1, a2, a3, a4, a5, a6⟩ := (ans_S (s_prize X v1 v2 v3) (by decide)) N E c s d g hN hs
  refine ⟨N', E', c', s', g2, (3, 0), (3, 0), ?_, a3, a4, a5, a6⟩
  rw [r271_884, h1, bnd_ok, h2, bnd_ok, h3, bnd_ok, call0 a1, push0, r271_901, h1, bnd_ok, h2, bnd_ok, h3, bnd_ok, call0 a2, push0, r271_918, cmp_eq, if_pos rfl]
theorem l_26 : LST X 921 := by
  intro N E c s d g x4 v1 v2 v3 v4 v5 v6 hN hs h1 h2 h3 h4 h5 h6
  obtain ⟨v, N', E', c', s', g1, g2, a1, a2, a3, a4, a5, a6⟩ := (ans_S (s_fees X v1 v2) (by decide)) N E c s d g hN hs
  refine ⟨N', E', c', s', g2, (3, 0), (3, 0), ?_, a3, a4, a5, a6⟩
  rw [r271_921, h1, bnd_ok, h2, bnd_ok, call0 a1, push0, r271_933, h1, bnd_ok, h2, bnd_ok, call0 a2, push0, r271_945, cmp_eq, if_pos rfl]
theorem l_28 : LST X 983 := by
  intro N E c s d g x4 v1 v2 v3 v4 v5 v6 hN hs h1 h2 h3 h4 h5 h6
  obtain ⟨v, N', E', c', s', g1, g2, a1, a2, a3, a4, a5, a6⟩ := (ans_V (op_cup X) (by decide)) N E c s d g hN hs
  refine ⟨N', E', c', s', g2, (3, 0), (3, 0), ?_, a3, a4, a5, a6⟩
  rw [r271_983, call0 a1, push0, r271_985, call0 a2, push0, r271_987, cmp_eq, if_pos rfl]
theorem l_29 : LST X 990 := by
  intro N E c s d g x4 v1 v2 v3 v4 v5 v6 hN hs h1 h2 h3 h4 h5 h6
  obtain ⟨v, N', E', c', s', g1, g2, a1, a2, a3, a4, a5, a6⟩ := (ans_V (op_can X v1) (by decide)) N E c s d g hN hs
  refine ⟨N', E', c', s', g2, (3, 0), (3, 0), ?_, a3, a4, a5, a6⟩
  rw [r271_990, h1, bnd_ok, call0 a1, push0, r271_997, h1, bnd_ok, call0 a2, push0, r271_1004, cmp_eq, if_pos rfl]
theorem l_30 : LST X 1007 := by
  intro N E c s d g x4 v1 v2 v3 v4 v5 v6 hN hs h1 h2 h3 h4 h5 h6
  obtain ⟨v, N', E', c', s', g1, g2, a1, a2, a3, a4, a5, a6⟩ := (ans_V (op_protest X v1 v2) (by decide)) N E c s d g hN hs
  refine ⟨N', E', c', s', g2, (3, 0), (3, 0), ?_, a3, a4, a5, a6⟩
  rw [r271_1007, h1, bnd_ok, h2, bnd_ok, call0 a1, push0, r271_1019, h1, bnd_ok, h2, bnd_ok, call0 a2, push0, r271_1031, cmp_eq, if_pos rfl]
theorem l_33 : LST X 1133 := by
  intro N E c s d g x4 v1 v2 v3 v4 v5 v6 hN hs h1 h2 h3 h4 h5 h6
  obtain ⟨v, N', E', c', s', g1, g2, a1, a2, a3, a4, a5, a6⟩ := (ans_S (s_year X v1 v2 v3) (by decide)) N E c s d g hN hs
  refine ⟨N', E', c', s', g2, (3, 0), (3, 0), ?_, a3, a4, a5, a6⟩
  rw [r271_1133, h1, bnd_ok, h2, bnd_ok, h3, bnd_ok, call0 a1, push0, r271_1150, h1, bnd_ok, h2, bnd_ok, h3, bnd_ok, call0 a2, push0, r271_1167, cmp_eq, if_pos rfl]
theorem l_34 : LST X 1170 := by
  intro N E c s d g x4 v1 v2 v3 v4 v5 v6 hN hs h1 h2 h3 h4 h5 h6
  obtain ⟨v, N', E', c', s', g1, g2, a1, a2, a3, a4, a5, a6⟩ := (ans_V (op_planned X v1 v2) (by decide)) N E c s d g hN hs
  refine ⟨N', E', c', s', g2, (3, 0), (3, 0), ?_, a3, a4, a5, a6⟩
  rw [r271_1170, h1, bnd_ok, h2, bnd_ok, call0 a1, push0, r271_1182, h1, bnd_ok, h2, bnd_ok, call0 a2, push0, r271_1194, cmp_eq, if_pos rfl]
theorem l_36 : LST X 1232 := by
  intro N E c s d g x4 v1 v2 v3 v4 v5 v6 hN hs h1 h2 h3 h4 h5 h6
  obtain ⟨v, N', E', c', s', g1, g2, a1, a2, a3, a4, a5, a6⟩ := (ans_V (op_count X v1) (by decide)) N E c s d g hN hs
  refine ⟨N', E', c', s', g2, (3, 0), (3, 0), ?_, a3, a4, a5, a6⟩
  rw [r271_1232, h1, bnd_ok, call0 a1, push0, r271_1239, h1, bnd_ok, call0 a2, push0, r271_1246, cmp_eq, if_pos rfl]
theorem l_0 : LST X 25 := by
  intro N E c s d g x4 v1 v2 v3 v4 v5 v6 hN hs h1 h2 h3 h4 h5 h6
  by_cases z : v4 = 0
  · obtain ⟨v, N', E', c', s', g1, g2, a1, a2, a3, a4, a5, a6⟩ := (ans_S (s_exhibitor X v1 v2 v3 0) (by decide)) N E c s d g hN hs
    refine ⟨N', E', c', s', g2, (3, 0), (3, 0), ?_, a3, a4, a5, a6⟩
    rw [r271_25, h1, bnd_ok, h2, bnd_ok, h3, bnd_ok, h4, bnd_ok, cmp_eq, if_pos z, call0 a1, push0, r271_51, h1, bnd_ok, h2, bnd_ok, h3, bnd_ok, h4, bnd_ok, cmp_eq, if_pos z, call0 a2, push0, r271_77, cmp_eq, if_pos rfl]
  · obtain ⟨v, N', E', c', s', g1, g2, a1, a2, a3, a4, a5, a6⟩ := (ans_S (s_exhibitor X v1 v2 v3 1) (by decide)) N E c s d g hN hs
    refine ⟨N', E', c', s', g2, (3, 0), (3, 0), ?_, a3, a4, a5, a6⟩
    rw [r271_25, h1, bnd_ok, h2, bnd_ok, h3, bnd_ok, h4, bnd_ok, cmp_eq, if_neg z, call0 a1, push0, r271_51, h1, bnd_ok, h2, bnd_ok, h3, bnd_ok, h4, bnd_ok, cmp_eq, if_neg z, call0 a2, push0, r271_77, cmp_eq, if_pos rfl]
theorem l_21 : LST X 780 := by
  intro N E c s d g x4 v1 v2 v3 v4 v5 v6 hN hs h1 h2 h3 h4 h5 h6
  by_cases z : v2 = 0
  · obtain ⟨v, N', E', c', s', g1, g2, a1, a2, a3, a4, a5, a6⟩ := (ans_V (op_taken X v1 0) (by decide)) N E c s d g hN hs
    refine ⟨N', E', c', s', g2, (3, 0), (3, 0), ?_, a3, a4, a5, a6⟩
    rw [r271_780, h1, bnd_ok, h2, bnd_ok, cmp_eq, if_pos z, call0 a1, push0, r271_796, h1, bnd_ok, h2, bnd_ok, cmp_eq, if_pos z, call0 a2, push0, r271_812, cmp_eq, if_pos rfl]
  · obtain ⟨v, N', E', c', s', g1, g2, a1, a2, a3, a4, a5, a6⟩ := (ans_V (op_taken X v1 1) (by decide)) N E c s d g hN hs
    refine ⟨N', E', c', s', g2, (3, 0), (3, 0), ?_, a3, a4, a5, a6⟩
    rw [r271_780, h1, bnd_ok, h2, bnd_ok, cmp_eq, if_neg z, call0 a1, push0, r271_796, h1, bnd_ok, h2, bnd_ok, cmp_eq, if_neg z, call0 a2, push0, r271_812, cmp_eq, if_pos rfl]
theorem l_22 : LST X 815 := by
  intro N E c s d g x4 v1 v2 v3 v4 v5 v6 hN hs h1 h2 h3 h4 h5 h6
  by_cases z : v1 = 0
  · obtain ⟨v, N', E', c', s', g1, g2, a1, a2, a3, a4, a5, a6⟩ := (ans_V (op_moves X 0 v2) (by decide)) N E c s d g hN hs
    refine ⟨N', E', c', s', g2, (3, 0), (3, 0), ?_, a3, a4, a5, a6⟩
    rw [r271_815, h1, bnd_ok, cmp_eq, if_pos z, h2, bnd_ok, call0 a1, push0, r271_831, h1, bnd_ok, cmp_eq, if_pos z, h2, bnd_ok, call0 a2, push0, r271_847, cmp_eq, if_pos rfl]
  · obtain ⟨v, N', E', c', s', g1, g2, a1, a2, a3, a4, a5, a6⟩ := (ans_V (op_moves X 1 v2) (by decide)) N E c s d g hN hs
    refine ⟨N', E', c', s', g2, (3, 0), (3, 0), ?_, a3, a4, a5, a6⟩
    rw [r271_815, h1, bnd_ok, cmp_eq, if_neg z, h2, bnd_ok, call0 a1, push0, r271_831, h1, bnd_ok, cmp_eq, if_neg z, h2, bnd_ok, call0 a2, push0, r271_847, cmp_eq, if_pos rfl]
theorem l_27 : LST X 948 := by
  intro N E c s d g x4 v1 v2 v3 v4 v5 v6 hN hs h1 h2 h3 h4 h5 h6
  by_cases z : v1 = 0
  · obtain ⟨v, N', E', c', s', g1, g2, a1, a2, a3, a4, a5, a6⟩ := (ans_V (op_points X 0 v2) (by decide)) N E c s d g hN hs
    refine ⟨N', E', c', s', g2, (3, 0), (3, 0), ?_, a3, a4, a5, a6⟩
    rw [r271_948, h1, bnd_ok, cmp_eq, if_pos z, h2, bnd_ok, call0 a1, push0, r271_964, h1, bnd_ok, cmp_eq, if_pos z, h2, bnd_ok, call0 a2, push0, r271_980, cmp_eq, if_pos rfl]
  · obtain ⟨v, N', E', c', s', g1, g2, a1, a2, a3, a4, a5, a6⟩ := (ans_V (op_points X 1 v2) (by decide)) N E c s d g hN hs
    refine ⟨N', E', c', s', g2, (3, 0), (3, 0), ?_, a3, a4, a5, a6⟩
    rw [r271_948, h1, bnd_ok, cmp_eq, if_neg z, h2, bnd_ok, call0 a1, push0, r271_964, h1, bnd_ok, cmp_eq, if_neg z, h2, bnd_ok, call0 a2, push0, r271_980, cmp_eq, if_pos rfl]
theorem l_35 : LST X 1197 := by
  intro N E c s d g x4 v1 v2 v3 v4 v5 v6 hN hs h1 h2 h3 h4 h5 h6
  by_cases z : v2 = 0
  · obtain ⟨v, N', E', c', s', g1, g2, a1, a2, a3, a4, a5, a6⟩ := (ans_mark X v1 0) N E c s d g hN hs
    refine ⟨N', E', c', s', g2, (3, 0), (3, 0), ?_, a3, a4, a5, a6⟩
    rw [r271_1197, h1, bnd_ok, h2, bnd_ok, cmp_eq, if_pos z, call0 a1, push0, r271_1213, h1, bnd_ok, h2, bnd_ok, cmp_eq, if_pos z, call0 a2, push0, r271_1229, cmp_eq, if_pos rfl]
  · obtain ⟨v, N', E', c', s', g1, g2, a1, a2, a3, a4, a5, a6⟩ := (ans_mark X v1 1) N E c s d g hN hs
    refine ⟨N', E', c', s', g2, (3, 0), (3, 0), ?_, a3, a4, a5, a6⟩
    rw [r271_1197, h1, bnd_ok, h2, bnd_ok, cmp_eq, if_neg z, call0 a1, push0, r271_1213, h1, bnd_ok, h2, bnd_ok, cmp_eq, if_neg z, call0 a2, push0, r271_1229, cmp_eq, if_pos rfl]
theorem l_7 : LST X 348 := by
  intro N E c s d g x4 v1 v2 v3 v4 v5 v6 hN hs h1 h2 h3 h4 h5 h6
  obtain ⟨g1, hq, hc⟩ := q_verdict X v1 N E c s (d + 71) g hs
  have s150 : ∀ c s (u : Gm), Call prog clsT X (d + 80) 150 [(2, 89)] (mk E c s (hh u)) = some ((0, u 89 0), mk E c s (hh u)) := fun c s u => rc150_ X E c s u (d + 79)
  rcases hc with ⟨v, b1, b2⟩ | ⟨b1, b2⟩
  · have b1 : Call prog clsT X (d + 79) 140 [(2, 0), (0, v1)] (mk E c s (hh g)) = some ((0, v), mk E c s (hh g1)) := b1
    have w1 : Call prog clsT X (d + 80) 266 [(2, 0), (0, v1), (2, 158)] (mk E c s (hh g)) = some ((0, 0), mk E c s (hh (up g1 158 0 v))) := by
      rw [show d + 80 = (d + 79) + 1 from rfl, rc266_, callT0 b1, push0, r266_5, inb_is, if_pos (by decide), Int.toNat_zero]
    obtain ⟨g2, e1, e2, e3, e4⟩ := b2 (up g1 158 0 v) (onQ_up hq rfl)
    rw [up_same] at e2
    have e3 : Call prog clsT X (d + 80) 187 [(2, 89), (0, v1)] (mk E c s (hh (up g1 158 0 v))) = some ((0, v), mk E c s (hh g2)) := Call_deep (d := d + 79) e3
    refine ⟨N, E, c, s, g2, (0, 0), (0, v), ?_, ST_Q hs e1, by omega, by omega, by omega⟩
    rw [r271_348, h1, bnd_ok, call0 w1, push0, r271_356, h1, bnd_ok, call0 e3, push0, r271_364, call0 (s150 _ _ _), push0, r271_367, e4, cmp_eq, if_pos rfl, cmp_ne, if_neg (by decide), e2, cmp_eq, lcmp0, if_pos rfl]
  · have b1 : Call prog clsT X (d + 79) 140 [(2, 0), (0, v1)] (mk E c s (hh g)) = some ((4, 0), mk E (c + 8) (s + 64) (hh g1)) := b1
    have w1 : Call prog clsT X (d + 80) 266 [(2, 0), (0, v1), (2, 158)] (mk E c s (hh g)) = some ((0, 1), mk E (c + 8) (s + 64) (hh g1)) := by
      rw [show d + 80 = (d + 79) + 1 from rfl, rc266_, callT4 b1, r266_9]
    obtain ⟨v, g2, e1, e3, e4⟩ := b2 g1 hq
    have e3 : Call prog clsT X (d + 80) 187 [(2, 89), (0, v1)] (mk E (c + 8) (s + 64) (hh g1)) = some ((0, v), mk E (c + 8) (s + 64) (hh g2)) := Call_deep (d := d + 79) e3
    refine ⟨N, E, c + 8, s + 64, g2, (0, 1), (0, v), ?_, ST_Q hs e1, by omega, by omega, by omega⟩
    rw [r271_348, h1, bnd_ok, call0 w1, push0, r271_356, h1, bnd_ok, call0 e3, push0, r271_364, call0 (s150 _ _ _), push0, r271_367, e4, cmp_eq, if_pos rfl, cmp_ne, if_pos (by decide)]
theorem l_8 : LST X 383 := by
  intro N E c s d g x4 v1 v2 v3 v4 v5 v6 hN hs h1 h2 h3 h4 h5 h6
  obtain ⟨g1, hq, hc⟩ := q_fact X v1 v2 N E c s (d + 74) g hs
  have s150 : ∀ c s (u : Gm), Call prog clsT X (d + 80) 150 [(2, 89)] (mk E c s (hh u)) = some ((0, u 89 0), mk E c s (hh u)) := fun c s u => rc150_ X E c s u (d + 79)
  rcases hc with ⟨v, b1, b2⟩ | ⟨b1, b2⟩
  · have b1 : Call prog clsT X (d + 79) 141 [(2, 0), (0, v1), (0, v2)] (mk E c s (hh g)) = some ((0, v), mk E c s (hh g1)) := b1
    have w1 : Call prog clsT X (d + 80) 267 [(2, 0), (0, v1), (0, v2), (2, 158)] (mk E c s (hh g)) = some ((0, 0), mk E c s (hh (up g1 158 0 v))) := by
      rw [show d + 80 = (d + 79) + 1 from rfl, rc267_, callT0 b1, push0, r267_6, inb_is, if_pos (by decide), Int.toNat_zero]
    obtain ⟨g2, e1, e2, e3, e4⟩ := b2 (up g1 158 0 v) (onQ_up hq rfl)
    rw [up_same] at e2
    have e3 : Call prog clsT X (d + 80) 198 [(2, 89), (0, v1), (0, v2)] (mk E c s (hh (up g1 158 0 v))) = some ((0, v), mk E c s (hh g2)) := Call_deep (d := d + 79) e3
    refine ⟨N, E, c, s, g2, (0, 0), (0, v), ?_, ST_Q hs e1, by omega, by omega, by omega⟩
    rw [r271_383, h1, bnd_ok, h2, bnd_ok, call0 w1, push0, r271_396, h1, bnd_ok, h2, bnd_ok, call0 e3, push0, r271_409, call0 (s150 _ _ _), push0, r271_412, e4, cmp_eq, if_pos rfl, cmp_ne, if_neg (by decide), e2, cmp_eq, lcmp0, if_pos rfl]
  · have b1 : Call prog clsT X (d + 79) 141 [(2, 0), (0, v1), (0, v2)] (mk E c s (hh g)) = some ((4, 0), mk E (c + 8) (s + 64) (hh g1)) := b1
    have w1 : Call prog clsT X (d + 80) 267 [(2, 0), (0, v1), (0, v2), (2, 158)] (mk E c s (hh g)) = some ((0, 1), mk E (c + 8) (s + 64) (hh g1)) := by
      rw [show d + 80 = (d + 79) + 1 from rfl, rc267_, callT4 b1, r267_10]
    obtain ⟨v, g2, e1, e3, e4⟩ := b2 g1 hq
    have e3 : Call prog clsT X (d + 80) 198 [(2, 89), (0, v1), (0, v2)] (mk E (c + 8) (s + 64) (hh g1)) = some ((0, v), mk E (c + 8) (s + 64) (hh g2)) := Call_deep (d := d + 79) e3
    refine ⟨N, E, c + 8, s + 64, g2, (0, 1), (0, v), ?_, ST_Q hs e1, by omega, by omega, by omega⟩
    rw [r271_383, h1, bnd_ok, h2, bnd_ok, call0 w1, push0, r271_396, h1, bnd_ok, h2, bnd_ok, call0 e3, push0, r271_409, call0 (s150 _ _ _), push0, r271_412, e4, cmp_eq, if_pos rfl, cmp_ne, if_pos (by decide)]
theorem l_15 : LST X 590 := by
  intro N E c s d g x4 v1 v2 v3 v4 v5 v6 hN hs h1 h2 h3 h4 h5 h6
  obtain ⟨g1, hq, hc⟩ := q_marks X v1 v2 N E c s (d + 72) g hs
  have s150 : ∀ c s (u : Gm), Call prog clsT X (d + 80) 150 [(2, 89)] (mk E c s (hh u)) = some ((0, u 89 0), mk E c s (hh u)) := fun c s u => rc150_ X E c s u (d + 79)
  rcases hc with ⟨v, b1, b2⟩ | ⟨b1, b2⟩
  · have b1 : Call prog clsT X (d + 79) 142 [(2, 0), (0, v1), (0, v2)] (mk E c s (hh g)) = some ((0, v), mk E c s (hh g1)) := b1
    have w1 : Call prog clsT X (d + 80) 268 [(2, 0), (0, v1), (0, v2), (2, 158)] (mk E c s (hh g)) = some ((0, 0), mk E c s (hh (up g1 158 0 v))) := by
      rw [show d + 80 = (d + 79) + 1 from rfl, rc268_, callT0 b1, push0, r268_6, inb_is, if_pos (by decide), Int.toNat_zero]
    obtain ⟨g2, e1, e2, e3, e4⟩ := b2 (up g1 158 0 v) (onQ_up hq rfl)
    rw [up_same] at e2
    have e3 : Call prog clsT X (d + 80) 205 [(2, 89), (0, v1), (0, v2)] (mk E c s (hh (up g1 158 0 v))) = some ((0, v), mk E c s (hh g2)) := Call_deep (d := d + 79) e3
    refine ⟨N, E, c, s, g2, (0, 0), (0, v), ?_, ST_Q hs e1, by omega, by omega, by omega⟩
    rw [r271_590, h1, bnd_ok, h2, bnd_ok, call0 w1, push0, r271_603, h1, bnd_ok, h2, bnd_ok, call0 e3, push0, r271_616, call0 (s150 _ _ _), push0, r271_619, e4, cmp_eq, if_pos rfl, cmp_ne, if_neg (by decide), e2, cmp_eq, lcmp0, if_pos rfl]
  · have b1 : Call prog clsT X (d + 79) 142 [(2, 0), (0, v1), (0, v2)] (mk E c s (hh g)) = some ((4, 0), mk E (c + 8) (s + 64) (hh g1)) := b1
    have w1 : Call prog clsT X (d + 80) 268 [(2, 0), (0, v1), (0, v2), (2, 158)] (mk E c s (hh g)) = some ((0, 1), mk E (c + 8) (s + 64) (hh g1)) := by
      rw [show d + 80 = (d + 79) + 1 from rfl, rc268_, callT4 b1, r268_10]
    obtain ⟨v, g2, e1, e3, e4⟩ := b2 g1 hq
    have e3 : Call prog clsT X (d + 80) 205 [(2, 89), (0, v1), (0, v2)] (mk E (c + 8) (s + 64) (hh g1)) = some ((0, v), mk E (c + 8) (s + 64) (hh g2)) := Call_deep (d := d + 79) e3
    refine ⟨N, E, c + 8, s + 64, g2, (0, 1), (0, v), ?_, ST_Q hs e1, by omega, by omega, by omega⟩
    rw [r271_590, h1, bnd_ok, h2, bnd_ok, call0 w1, push0, r271_603, h1, bnd_ok, h2, bnd_ok, call0 e3, push0, r271_616, call0 (s150 _ _ _), push0, r271_619, e4, cmp_eq, if_pos rfl, cmp_ne, if_pos (by decide)]
theorem l_31 : LST X 1034 := by
  intro N E c s d g x4 v1 v2 v3 v4 v5 v6 hN hs h1 h2 h3 h4 h5 h6
  obtain ⟨g1, hq, hc⟩ := q_money X v1 N E c s (d + 68) g hs
  have s150 : ∀ c s (u : Gm), Call prog clsT X (d + 80) 150 [(2, 89)] (mk E c s (hh u)) = some ((0, u 89 0), mk E c s (hh u)) := fun c s u => rc150_ X E c s u (d + 79)
  rcases hc with ⟨v, b1, b2⟩ | ⟨b1, b2⟩
  · have b1 : Call prog clsT X (d + 79) 143 [(2, 0), (0, v1)] (mk E c s (hh g)) = some ((0, v), mk E c s (hh g1)) := b1
    have w1 : Call prog clsT X (d + 80) 269 [(2, 0), (0, v1), (2, 158)] (mk E c s (hh g)) = some ((0, 0), mk E c s (hh (up g1 158 0 v))) := by
      rw [show d + 80 = (d + 79) + 1 from rfl, rc269_, callT0 b1, push0, r269_5, inb_is, if_pos (by decide), Int.toNat_zero]
    obtain ⟨g2, e1, e2, e3, e4⟩ := b2 (up g1 158 0 v) (onQ_up hq rfl)
    rw [up_same] at e2
    have e3 : Call prog clsT X (d + 80) 237 [(2, 89), (0, v1)] (mk E c s (hh (up g1 158 0 v))) = some ((0, v), mk E c s (hh g2)) := Call_deep (d := d + 79) e3
    refine ⟨N, E, c, s, g2, (0, 0), (0, v), ?_, ST_Q hs e1, by omega, by omega, by omega⟩
    rw [r271_1034, h1, bnd_ok, call0 w1, push0, r271_1042, h1, bnd_ok, call0 e3, push0, r271_1050, call0 (s150 _ _ _), push0, r271_1053, e4, cmp_eq, if_pos rfl, cmp_ne, if_neg (by decide), e2, cmp_eq, lcmp0, if_pos rfl]
  · have b1 : Call prog clsT X (d + 79) 143 [(2, 0), (0, v1)] (mk E c s (hh g)) = some ((4, 0), mk E (c + 8) (s + 64) (hh g1)) := b1
    have w1 : Call prog clsT X (d + 80) 269 [(2, 0), (0, v1), (2, 158)] (mk E c s (hh g)) = some ((0, 1), mk E (c + 8) (s + 64) (hh g1)) := by
      rw [show d + 80 = (d + 79) + 1 from rfl, rc269_, callT4 b1, r269_9]
    obtain ⟨v, g2, e1, e3, e4⟩ := b2 g1 hq
    have e3 : Call prog clsT X (d + 80) 237 [(2, 89), (0, v1)] (mk E (c + 8) (s + 64) (hh g1)) = some ((0, v), mk E (c + 8) (s + 64) (hh g2)) := Call_deep (d := d + 79) e3
    refine ⟨N, E, c + 8, s + 64, g2, (0, 1), (0, v), ?_, ST_Q hs e1, by omega, by omega, by omega⟩
    rw [r271_1034, h1, bnd_ok, call0 w1, push0, r271_1042, h1, bnd_ok, call0 e3, push0, r271_1050, call0 (s150 _ _ _), push0, r271_1053, e4, cmp_eq, if_pos rfl, cmp_ne, if_pos (by decide)]
theorem l_32 : LST X 1069 := by
  intro N E c s d g x4 v1 v2 v3 v4 v5 v6 hN hs h1 h2 h3 h4 h5 h6
  obtain ⟨g1, hq, hc⟩ := q_sets X v1 v2 v3 v4 N E c s (d + 70) g hs
  have s150 : ∀ c s (u : Gm), Call prog clsT X (d + 80) 150 [(2, 89)] (mk E c s (hh u)) = some ((0, u 89 0), mk E c s (hh u)) := fun c s u => rc150_ X E c s u (d + 79)
  rcases hc with ⟨v, b1, b2⟩ | ⟨b1, b2⟩
  · have b1 : Call prog clsT X (d + 79) 144 [(2, 0), (0, v1), (0, v2), (0, v3), (0, v4)] (mk E c s (hh g)) = some ((1, v), mk E c s (hh g1)) := b1
    have w1 : Call prog clsT X (d + 80) 270 [(2, 0), (0, v1), (0, v2), (0, v3), (0, v4), (2, 158)] (mk E c s (hh g)) = some ((0, 0), mk E c s (hh (up g1 158 0 v))) := by
      rw [show d + 80 = (d + 79) + 1 from rfl, rc270_, callT1 b1, push1, r270_8, inb_is, if_pos (by decide), Int.toNat_zero]
    obtain ⟨g2, e1, e2, e3, e4⟩ := b2 (up g1 158 0 v) (onQ_up hq rfl)
    rw [up_same] at e2
    have e3 : Call prog clsT X (d + 80) 238 [(2, 89), (0, v1), (0, v2), (0, v3), (0, v4)] (mk E c s (hh (up g1 158 0 v))) = some ((1, v), mk E c s (hh g2)) := Call_deep (d := d + 79) e3
    refine ⟨N, E, c, s, g2, (0, 0), (1, v), ?_, ST_Q hs e1, by omega, by omega, by omega⟩
    rw [r271_1069, h1, bnd_ok, h2, bnd_ok, h3, bnd_ok, h4, bnd_ok, call0 w1, push0, r271_1092, h1, bnd_ok, h2, bnd_ok, h3, bnd_ok, h4, bnd_ok, call1 e3, push1, r271_1115, call0 (s150 _ _ _), push0, r271_1118, e4, cmp_eq, if_pos rfl, cmp_ne, if_neg (by decide), e2, cmp_eq, lcmp0, if_pos rfl]
  · have b1 : Call prog clsT X (d + 79) 144 [(2, 0), (0, v1), (0, v2), (0, v3), (0, v4)] (mk E c s (hh g)) = some ((4, 0), mk E (c + 8) (s + 64) (hh g1)) := b1
    have w1 : Call prog clsT X (d + 80) 270 [(2, 0), (0, v1), (0, v2), (0, v3), (0, v4), (2, 158)] (mk E c s (hh g)) = some ((0, 1), mk E (c + 8) (s + 64) (hh g1)) := by
      rw [show d + 80 = (d + 79) + 1 from rfl, rc270_, callT4 b1, r270_11]
    obtain ⟨v, g2, e1, e3, e4⟩ := b2 g1 hq
    have e3 : Call prog clsT X (d + 80) 238 [(2, 89), (0, v1), (0, v2), (0, v3), (0, v4)] (mk E (c + 8) (s + 64) (hh g1)) = some ((1, v), mk E (c + 8) (s + 64) (hh g2)) := Call_deep (d := d + 79) e3
    refine ⟨N, E, c + 8, s + 64, g2, (0, 1), (1, v), ?_, ST_Q hs e1, by omega, by omega, by omega⟩
    rw [r271_1069, h1, bnd_ok, h2, bnd_ok, h3, bnd_ok, h4, bnd_ok, call0 w1, push0, r271_1092, h1, bnd_ok, h2, bnd_ok, h3, bnd_ok, h4, bnd_ok, call1 e3, push1, r271_1115, call0 (s150 _ _ _), push0, r271_1118, e4, cmp_eq, if_pos rfl, cmp_ne, if_pos (by decide)]
end LAW
