/-! Part bj: the memory at the start keeps every relation; the law on the mini machine. -/
theorem fl_in {n j : Nat} {v : Int} {f : Nat → Int} (h : j < n) : fl n v f j = v := if_pos h
theorem fl_b {n j : Nat} {v : Int} {a b : Int} (h1 : a ≤ v ∧ v ≤ b) (h2 : a ≤ 0 ∧ 0 ≤ b) : a ≤ fl n v zz j ∧ fl n v zz j ≤ b := by
  unfold fl
  by_cases h : j < n
  · rw [if_pos h]; exact h1
  · rw [if_neg h]; exact h2
theorem zin {x a b : Int} (h : x = 0) (ha : a ≤ 0) (hb : 0 ≤ b) : a ≤ x ∧ x ≤ b := by omega
theorem e3 : pt (pt (pt zz 0 3) 1 2) 2 1 = ys 3 := by
  funext j
  unfold pt ys
  by_cases h2 : j = 2
  · subst h2; rfl
  · by_cases h1 : j = 1
    · subst h1; rfl
    · by_cases h0 : j = 0
      · subst h0; rfl
      · rw [if_neg h2, if_neg h1, if_neg h0, if_neg (by omega)]
theorem ys_b (i : Nat) : 0 ≤ ys 3 i ∧ ys 3 i ≤ 99 := by
  unfold ys
  by_cases h : i < 3
  · rw [if_pos h]; omega
  · rw [if_neg h]; omega
section G0
set_option maxRecDepth 100000
theorem g_2 : g0 2 = fl 10 (-1) zz := rfl
theorem g_5 : g0 5 = fl 40 (-1) zz := rfl
theorem g_37 : g0 37 = fl 4 (-1) zz := rfl
theorem g_39 : g0 39 = fl 10 (-1) zz := rfl
theorem g_43 : g0 43 = fl 10 1 zz := rfl
theorem g_44 : g0 44 = fl 50 (-1) zz := rfl
theorem g_60 : g0 60 = ys 3 := (show g0 60 = pt (pt (pt zz 0 3) 1 2) 2 1 from rfl).trans e3
theorem g_130 : g0 130 = fl 10 (-1) zz := rfl
theorem g_133 : g0 133 = fl 10 1 zz := rfl
theorem g_142 : g0 142 = ys 3 := rfl
theorem g_152 : g0 152 = fl 50 (-1) zz := rfl
theorem g_19 : g0 19 = fl 11 (-1) zz := rfl
theorem g_24 : g0 24 = fl 11 (-1) zz := rfl
theorem nE_0 : nE g0 = 0 := rfl
theorem RE_0 : RE g0 := by
  refine ⟨rfl, by decide +kernel, by decide +kernel, ?_, fun e _ => ?_, fun _ => rfl, fun _ => rfl, fun _ => rfl, fun _ => rfl, fun _ => rfl, fun e => ?_, fun _ => zin rfl (by decide) (by decide), fun _ => zin rfl (by decide) (by decide), fun _ => zin rfl (by decide) (by decide), fun _ => zin rfl (by decide) (by decide), fun _ => Or.inl rfl, fun e => ?_⟩
  · show in64 0
    exact ⟨by decide, by decide⟩
  · show tb 0 e = _
    rw [tb_0, nE_0]
    exact (decide_eq_false (fun q => absurd q.1 (Nat.not_lt_zero e))).symm
  · show in64 0
    exact ⟨by decide, by decide⟩
  · show (0 : Int) ≤ 0 ∧ (0 : Int) < 1099511627776
    exact ⟨by decide, by decide⟩
theorem RV_0 : RV g0 := by
  refine ⟨fun i hi => ⟨fun _ => rfl, fun _ => ?_⟩, fun _ => Or.inl rfl, fun i _ q => absurd rfl q, fun _ => rfl, fun _ => rfl, fun _ => zin rfl (by decide) (by decide), fun _ => zin rfl (by decide) (by decide), fun _ => Or.inl rfl, fun i hi => ⟨fun _ => rfl, fun _ => ?_⟩, fun _ => Or.inl rfl, fun i _ q => absurd rfl q, fun _ => zin rfl (by decide) (by decide), fun _ => rfl, fun _ => rfl, fun _ => rfl, fun _ => zin rfl (by decide) (by decide), fun _ => zin rfl (by decide) (by decide), fun _ => zin rfl (by decide) (by decide)⟩
  · rw [g_2]; exact fl_in hi
  · rw [g_5]; exact fl_in hi
theorem RJ_0 : RJ g0 := by
  refine ⟨fun i hi => ⟨fun _ => rfl, fun _ => ?_⟩, fun _ => Or.inl rfl, fun i _ q => absurd rfl q, fun _ => zin rfl (by decide) (by decide), fun _ => rfl, fun _ => zin rfl (by decide) (by decide), fun k => ?_, fun k hk => ?_, rfl, by decide +kernel, by decide +kernel⟩
  · rw [g_37]; exact fl_in hi
  · rw [g_39, g_130]
  · rw [g_130]; exact fl_b ⟨by decide, by decide⟩ ⟨by decide, by decide⟩
theorem RH_0 : RH g0 := by
  refine ⟨fun _ => rfl, fun _ => zin rfl (by decide) (by decide), fun _ => rfl, fun _ => zin rfl (by decide) (by decide), fun i => ?_, fun i => ?_, fun i => ?_, fun i _ => ?_⟩
  · rw [g_43, g_133]
  · rw [g_133]; exact fl_b ⟨by decide, by decide⟩ ⟨by decide, by decide⟩
  · rw [g_44, g_152]
  · rw [g_152]; exact fl_b ⟨by decide, by decide⟩ ⟨by decide, by decide⟩
theorem RC_0 : RC g0 := by
  refine ⟨fun i => ?_, fun i => ?_, fun _ => rfl, fun _ => zin rfl (by decide) (by decide), rfl, rfl, by decide +kernel, by decide +kernel, by decide +kernel, by decide +kernel⟩
  · rw [g_60, g_142]
  · rw [g_142]; exact ys_b i
theorem RQ_0 : RQ g0 := ⟨fun e he => absurd (nE_0 ▸ he) (Nat.not_lt_zero e), fun _ q => absurd rfl q, fun e he => absurd (nE_0 ▸ he) (Nat.not_lt_zero e)⟩
theorem RB_0 : RB g0 := ⟨fun _ _ => ⟨fun _ => rfl, fun _ => rfl⟩, fun _ _ => (by decide : (-1 : Int) ≤ -1), fun _ => Or.inl rfl⟩
theorem RT_g0 : RT g0 := ⟨rfl, by decide +kernel, by decide +kernel, fun i hi => absurd (show (i : Int) < 0 from hi) (by omega)⟩
theorem RS_0 : RS 0 g0 := ⟨rfl, by decide +kernel, by decide +kernel, fun k hk => ⟨by
  have : k = 0 ∨ k = 1 ∨ k = 2 ∨ k = 3 := by omega
  rcases this with rfl | rfl | rfl | rfl <;> rfl, (by decide : (0 : Int) ≤ 0), (by decide +kernel : (0 : Int) ≤ g0 89 81), fun q => absurd (show (0 : Int) < 0 from q) (by decide)⟩, fun k l _ _ q => absurd (show (0 : Int) < 0 from q) (by decide)⟩
theorem CE_0 {a kd n : Nat} (h : (LAY ++ [])[a]? = some (kd, n)) (h2 : 11 ≤ a ∧ a ≤ 26) : CE [] a kd n := ⟨h, Or.inl h2⟩
theorem RG_0 {tx r k : Nat} (htx : tx = 1 ∧ r = 17 ∧ k = 10 ∨ tx = 2 ∧ r = 22 ∧ k = 11) : RG tx [] r k g0 := by
  rcases htx with ⟨rfl, rfl, rfl⟩ | ⟨rfl, rfl, rfl⟩
  · refine ⟨0, ⟨CE_0 rfl (by omega), CE_0 rfl (by omega), CE_0 rfl (by omega), CE_0 rfl (by omega), CE_0 rfl (by omega)⟩, by omega, ⟨rfl, rfl, rfl, rfl⟩, rfl, fun q => absurd q (by decide), rfl, by decide +kernel, by decide +kernel, fun q => absurd q (by decide), by decide +kernel, by decide +kernel, fun i hi => absurd (show (i : Int) < 0 from hi) (by omega), fun j hj => Or.inl ⟨?_, rfl⟩⟩
    show g0 19 (cl 1 j) = -1
    rw [g_19]
    refine fl_in ?_
    have : j < 8 := hj
    show (if (1 : Nat) = 2 then 8 + j else j) < 11
    rw [if_neg (by decide)]
    omega
  · refine ⟨0, ⟨CE_0 rfl (by omega), CE_0 rfl (by omega), CE_0 rfl (by omega), CE_0 rfl (by omega), CE_0 rfl (by omega)⟩, by omega, ⟨rfl, rfl, rfl, rfl⟩, rfl, fun q => absurd q (by decide), rfl, by decide +kernel, by decide +kernel, fun q => absurd q (by decide), by decide +kernel, by decide +kernel, fun i hi => absurd (show (i : Int) < 0 from hi) (by omega), fun j hj => Or.inl ⟨?_, rfl⟩⟩
    show g0 24 (cl 2 j) = -1
    rw [g_24]
    refine fl_in ?_
    have : j < 3 := hj
    show (if (2 : Nat) = 2 then 8 + j else j) < 11
    rw [if_pos rfl]
    omega
theorem RU_0 : RU [] g0 := ⟨fun _ _ => Or.inl rfl, ⟨17, rfl, RG_0 (Or.inl ⟨rfl, rfl, rfl⟩)⟩, ⟨22, rfl, RG_0 (Or.inr ⟨rfl, rfl, rfl⟩)⟩⟩
theorem RP_0 : RP2 g0 := ⟨fun _ _ q => absurd rfl q, fun e he => absurd (nE_0 ▸ he) (Nat.not_lt_zero e), fun k hk q => by
  rw [g_130, fl_in hk] at q
  exact absurd q (by decide), fun m _ q => absurd (show (0 : Int) < 0 from q) (by decide)⟩
theorem ST_0 : ST 0 [] g0 := ⟨⟨⟨RE_0, RV_0, RJ_0, RH_0, RC_0, RQ_0⟩, RB_0, RT_g0, RS_0, RU_0⟩, RP_0⟩
end G0
/-- the law on the mini machine answers 1 -/
theorem mini_law (X : MExt) (hX : XT X) {script : List Int} (hS : X (-2) = (100, script)) (hl : script.length ≤ 3584) (d : Nat) : ∃ n M, ex prog clsT X n (d + 80) mc271 0 [(2, -2), (3, 0), (3, 0), (3, 0), (3, 0), (3, 0), (3, 0), (3, 0)] [] (memD [] 0 0) = some ((0, 1), M) ∧ M.2.2.1 ≤ 4959 ∧ M.2.2.2 ≤ 645842 := by
  obtain ⟨E', c', s', g', h1, h2, h3⟩ := law_loop X hX hS hl d 600 0 0 [] 159 24242 g0 (3, 0) (3, 0) (3, 0) rfl (by omega) ST_0
  have h := (law_start X d).trans h1
  obtain ⟨n, hn⟩ := (Ev_iff prog clsT X).mp h
  exact ⟨n, _, hn, by show c' ≤ 4959; omega, by show s' ≤ 645842; omega⟩
