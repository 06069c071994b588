/-! Part 30: printed by wip/whole/emit4.py: what the code of every method keeps. -/
def isThr : Instr → Bool
  | .athrow => true | _ => false
def isIfc : Instr → Bool
  | .invokeinterface _ _ => true | _ => false
def idxOK (C : List (Instr × List Nat)) (P : Instr → Bool) (ps : List Nat) : Bool := (List.range C.length).all (fun i => !(match C[i]? with | some q => P q.1 | none => false) || decide (i ∈ ps))
theorem idx_of {C : List (Instr × List Nat)} {P : Instr → Bool} {ps : List Nat} (h : idxOK C P ps = true) {pc : Nat} {i : Instr} {ks : List Nat} (hc : C[pc]? = some (i, ks)) (hp : P i = true) : pc ∈ ps := by
  have hl : pc < C.length := (List.getElem?_eq_some_iff.mp hc).1
  have h1 := List.all_eq_true.mp h pc (List.mem_range.mpr hl)
  rw [hc] at h1
  simp only [hp, Bool.not_true, Bool.false_or, decide_eq_true_eq] at h1
  exact h1
theorem fact_plain {j own : Nat} {R : List (Nat × Instr × Nat × Nat)} (h0 : onm own = (mth j).1.cls) (h1 : R.all (fun q => decide (decode (mth j).2.1 q.1 = .ok (q.2.1, q.2.2.1))) = true) (h2 : agrL own (R.map (·.1)) 0 R (prog j).1 = true) (h3 : chkM j = true) (h4 : idxOK (prog j).1 isThr [] = true) (h5 : idxOK (prog j).1 isIfc [] = true) (h6 : (R.map (·.1)).getD 0 0 = 0) : FACTS j :=
  ⟨R, own, h0, fun q hq => of_decide_eq_true (List.all_eq_true.mp h1 q hq), h2, h3, fun pc ks h => absurd (idx_of h4 h rfl) List.not_mem_nil, fun pc a b ks h => absurd (idx_of h5 h rfl) List.not_mem_nil, h6⟩
theorem fc0 : FACTS 0 := fact_plain (own := 0) (R := rc0) (by decide +kernel) rd0 ra0 (by decide +kernel) (by decide +kernel) (by decide +kernel) rfl
theorem fc1 : FACTS 1 := fact_plain (own := 0) (R := rc1) (by decide +kernel) rd1 ra1 (by decide +kernel) (by decide +kernel) (by decide +kernel) rfl
theorem fc2 : FACTS 2 := fact_plain (own := 0) (R := rc2) (by decide +kernel) rd2 ra2 (by decide +kernel) (by decide +kernel) (by decide +kernel) rfl
theorem fc3 : FACTS 3 := fact_plain (own := 0) (R := rc3) (by decide +kernel) rd3 ra3 (by decide +kernel) (by decide +kernel) (by decide +kernel) rfl
theorem fc4 : FACTS 4 := fact_plain (own := 0) (R := rc4) (by decide +kernel) rd4 ra4 (by decide +kernel) (by decide +kernel) (by decide +kernel) rfl
theorem fc5 : FACTS 5 := fact_plain (own := 0) (R := rc5) (by decide +kernel) rd5 ra5 (by decide +kernel) (by decide +kernel) (by decide +kernel) rfl
theorem fc6 : FACTS 6 := fact_plain (own := 0) (R := rc6) (by decide +kernel) rd6 ra6 (by decide +kernel) (by decide +kernel) (by decide +kernel) rfl
theorem fc7 : FACTS 7 := fact_plain (own := 0) (R := rc7) (by decide +kernel) rd7 ra7 (by decide +kernel) (by decide +kernel) (by decide +kernel) rfl
theorem fc8 : FACTS 8 := fact_plain (own := 0) (R := rc8) (by decide +kernel) rd8 ra8 (by decide +kernel) (by decide +kernel) (by decide +kernel) rfl
theorem fc9 : FACTS 9 := fact_plain (own := 1) (R := rc9) (by decide +kernel) rd9 ra9 (by decide +kernel) (by decide +kernel) (by decide +kernel) rfl
theorem fc10 : FACTS 10 := fact_plain (own := 1) (R := rc10) (by decide +kernel) rd10 ra10 (by decide +kernel) (by decide +kernel) (by decide +kernel) rfl
theorem fc11 : FACTS 11 := fact_plain (own := 1) (R := rc11) (by decide +kernel) rd11 ra11 (by decide +kernel) (by decide +kernel) (by decide +kernel) rfl
theorem fc12 : FACTS 12 := fact_plain (own := 1) (R := rc12) (by decide +kernel) rd12 ra12 (by decide +kernel) (by decide +kernel) (by decide +kernel) rfl
theorem fc13 : FACTS 13 := fact_plain (own := 1) (R := rc13) (by decide +kernel) rd13 ra13 (by decide +kernel) (by decide +kernel) (by decide +kernel) rfl
theorem fc14 : FACTS 14 := fact_plain (own := 1) (R := rc14) (by decide +kernel) rd14 ra14 (by decide +kernel) (by decide +kernel) (by decide +kernel) rfl
theorem fc15 : FACTS 15 := fact_plain (own := 1) (R := rc15) (by decide +kernel) rd15 ra15 (by decide +kernel) (by decide +kernel) (by decide +kernel) rfl
theorem fc16 : FACTS 16 := fact_plain (own := 1) (R := rc16) (by decide +kernel) rd16 ra16 (by decide +kernel) (by decide +kernel) (by decide +kernel) rfl
theorem fc17 : FACTS 17 := fact_plain (own := 2) (R := rc17) (by decide +kernel) rd17 ra17 (by decide +kernel) (by decide +kernel) (by decide +kernel) rfl
theorem fc18 : FACTS 18 := fact_plain (own := 2) (R := rc18) (by decide +kernel) rd18 ra18 (by decide +kernel) (by decide +kernel) (by decide +kernel) rfl
theorem fc19 : FACTS 19 := fact_plain (own := 2) (R := rc19) (by decide +kernel) rd19 ra19 (by decide +kernel) (by decide +kernel) (by decide +kernel) rfl
theorem fc20 : FACTS 20 := fact_plain (own := 2) (R := rc20) (by decide +kernel) rd20 ra20 (by decide +kernel) (by decide +kernel) (by decide +kernel) rfl
theorem fc21 : FACTS 21 := fact_plain (own := 2) (R := rc21) (by decide +kernel) rd21 ra21 (by decide +kernel) (by decide +kernel) (by decide +kernel) rfl
theorem fc22 : FACTS 22 := fact_plain (own := 2) (R := rc22) (by decide +kernel) rd22 ra22 (by decide +kernel) (by decide +kernel) (by decide +kernel) rfl
theorem fc23 : FACTS 23 := fact_plain (own := 2) (R := rc23) (by decide +kernel) rd23 ra23 (by decide +kernel) (by decide +kernel) (by decide +kernel) rfl
theorem fc24 : FACTS 24 := fact_plain (own := 2) (R := rc24) (by decide +kernel) rd24 ra24 (by decide +kernel) (by decide +kernel) (by decide +kernel) rfl
theorem fc25 : FACTS 25 := fact_plain (own := 2) (R := rc25) (by decide +kernel) rd25 ra25 (by decide +kernel) (by decide +kernel) (by decide +kernel) rfl
theorem fc26 : FACTS 26 := fact_plain (own := 3) (R := rc26) (by decide +kernel) rd26 ra26 (by decide +kernel) (by decide +kernel) (by decide +kernel) rfl
theorem fc27 : FACTS 27 := fact_plain (own := 3) (R := rc27) (by decide +kernel) rd27 ra27 (by decide +kernel) (by decide +kernel) (by decide +kernel) rfl
theorem fc28 : FACTS 28 := fact_plain (own := 3) (R := rc28) (by decide +kernel) rd28 ra28 (by decide +kernel) (by decide +kernel) (by decide +kernel) rfl
theorem fc29 : FACTS 29 := fact_plain (own := 3) (R := rc29) (by decide +kernel) rd29 ra29 (by decide +kernel) (by decide +kernel) (by decide +kernel) rfl
theorem fc30 : FACTS 30 := fact_plain (own := 3) (R := rc30) (by decide +kernel) rd30 ra30 (by decide +kernel) (by decide +kernel) (by decide +kernel) rfl
theorem fc31 : FACTS 31 := fact_plain (own := 3) (R := rc31) (by decide +kernel) rd31 ra31 (by decide +kernel) (by decide +kernel) (by decide +kernel) rfl
theorem fc32 : FACTS 32 := fact_plain (own := 3) (R := rc32) (by decide +kernel) rd32 ra32 (by decide +kernel) (by decide +kernel) (by decide +kernel) rfl
theorem fc33 : FACTS 33 := fact_plain (own := 4) (R := rc33) (by decide +kernel) rd33 ra33 (by decide +kernel) (by decide +kernel) (by decide +kernel) rfl
theorem fc34 : FACTS 34 := fact_plain (own := 4) (R := rc34) (by decide +kernel) rd34 ra34 (by decide +kernel) (by decide +kernel) (by decide +kernel) rfl
theorem fc35 : FACTS 35 := fact_plain (own := 4) (R := rc35) (by decide +kernel) rd35 ra35 (by decide +kernel) (by decide +kernel) (by decide +kernel) rfl
theorem fc36 : FACTS 36 := fact_plain (own := 4) (R := rc36) (by decide +kernel) rd36 ra36 (by decide +kernel) (by decide +kernel) (by decide +kernel) rfl
theorem fc37 : FACTS 37 := fact_plain (own := 5) (R := rc37) (by decide +kernel) rd37 ra37 (by decide +kernel) (by decide +kernel) (by decide +kernel) rfl
theorem fc38 : FACTS 38 := fact_plain (own := 5) (R := rc38) (by decide +kernel) rd38 ra38 (by decide +kernel) (by decide +kernel) (by decide +kernel) rfl
theorem fc39 : FACTS 39 := fact_plain (own := 5) (R := rc39) (by decide +kernel) rd39 ra39 (by decide +kernel) (by decide +kernel) (by decide +kernel) rfl
theorem fc40 : FACTS 40 := fact_plain (own := 5) (R := rc40) (by decide +kernel) rd40 ra40 (by decide +kernel) (by decide +kernel) (by decide +kernel) rfl
theorem fc41 : FACTS 41 := fact_plain (own := 5) (R := rc41) (by decide +kernel) rd41 ra41 (by decide +kernel) (by decide +kernel) (by decide +kernel) rfl
theorem fc42 : FACTS 42 := fact_plain (own := 5) (R := rc42) (by decide +kernel) rd42 ra42 (by decide +kernel) (by decide +kernel) (by decide +kernel) rfl
theorem fc43 : FACTS 43 := fact_plain (own := 5) (R := rc43) (by decide +kernel) rd43 ra43 (by decide +kernel) (by decide +kernel) (by decide +kernel) rfl
theorem fc44 : FACTS 44 := fact_plain (own := 5) (R := rc44) (by decide +kernel) rd44 ra44 (by decide +kernel) (by decide +kernel) (by decide +kernel) rfl
theorem fc45 : FACTS 45 := fact_plain (own := 5) (R := rc45) (by decide +kernel) rd45 ra45 (by decide +kernel) (by decide +kernel) (by decide +kernel) rfl
theorem fc46 : FACTS 46 := fact_plain (own := 5) (R := rc46) (by decide +kernel) rd46 ra46 (by decide +kernel) (by decide +kernel) (by decide +kernel) rfl
theorem fc47 : FACTS 47 := fact_plain (own := 5) (R := rc47) (by decide +kernel) rd47 ra47 (by decide +kernel) (by decide +kernel) (by decide +kernel) rfl
theorem fc48 : FACTS 48 := fact_plain (own := 5) (R := rc48) (by decide +kernel) rd48 ra48 (by decide +kernel) (by decide +kernel) (by decide +kernel) rfl
theorem fc49 : FACTS 49 := fact_plain (own := 5) (R := rc49) (by decide +kernel) rd49 ra49 (by decide +kernel) (by decide +kernel) (by decide +kernel) rfl
theorem fc50 : FACTS 50 := fact_plain (own := 5) (R := rc50) (by decide +kernel) rd50 ra50 (by decide +kernel) (by decide +kernel) (by decide +kernel) rfl
theorem fc51 : FACTS 51 := fact_plain (own := 5) (R := rc51) (by decide +kernel) rd51 ra51 (by decide +kernel) (by decide +kernel) (by decide +kernel) rfl
theorem fc52 : FACTS 52 := fact_plain (own := 5) (R := rc52) (by decide +kernel) rd52 ra52 (by decide +kernel) (by decide +kernel) (by decide +kernel) rfl
theorem fc53 : FACTS 53 := fact_plain (own := 5) (R := rc53) (by decide +kernel) rd53 ra53 (by decide +kernel) (by decide +kernel) (by decide +kernel) rfl
theorem fc54 : FACTS 54 := fact_plain (own := 5) (R := rc54) (by decide +kernel) rd54 ra54 (by decide +kernel) (by decide +kernel) (by decide +kernel) rfl
theorem fc55 : FACTS 55 := fact_plain (own := 5) (R := rc55) (by decide +kernel) rd55 ra55 (by decide +kernel) (by decide +kernel) (by decide +kernel) rfl
theorem fc56 : FACTS 56 := fact_plain (own := 5) (R := rc56) (by decide +kernel) rd56 ra56 (by decide +kernel) (by decide +kernel) (by decide +kernel) rfl
theorem fc57 : FACTS 57 := fact_plain (own := 5) (R := rc57) (by decide +kernel) rd57 ra57 (by decide +kernel) (by decide +kernel) (by decide +kernel) rfl
theorem fc58 : FACTS 58 := fact_plain (own := 5) (R := rc58) (by decide +kernel) rd58 ra58 (by decide +kernel) (by decide +kernel) (by decide +kernel) rfl
theorem fc59 : FACTS 59 := fact_plain (own := 5) (R := rc59) (by decide +kernel) rd59 ra59 (by decide +kernel) (by decide +kernel) (by decide +kernel) rfl
theorem fc60 : FACTS 60 := fact_plain (own := 6) (R := rc60) (by decide +kernel) rd60 ra60 (by decide +kernel) (by decide +kernel) (by decide +kernel) rfl
theorem fc61 : FACTS 61 := fact_plain (own := 6) (R := rc61) (by decide +kernel) rd61 ra61 (by decide +kernel) (by decide +kernel) (by decide +kernel) rfl
theorem fc62 : FACTS 62 := fact_plain (own := 6) (R := rc62) (by decide +kernel) rd62 ra62 (by decide +kernel) (by decide +kernel) (by decide +kernel) rfl
theorem fc63 : FACTS 63 := fact_plain (own := 6) (R := rc63) (by decide +kernel) rd63 ra63 (by decide +kernel) (by decide +kernel) (by decide +kernel) rfl
theorem fc64 : FACTS 64 := fact_plain (own := 6) (R := rc64) (by decide +kernel) rd64 ra64 (by decide +kernel) (by decide +kernel) (by decide +kernel) rfl
theorem fc65 : FACTS 65 := fact_plain (own := 7) (R := rc65) (by decide +kernel) rd65 ra65 (by decide +kernel) (by decide +kernel) (by decide +kernel) rfl
theorem fc66 : FACTS 66 := fact_plain (own := 7) (R := rc66) (by decide +kernel) rd66 ra66 (by decide +kernel) (by decide +kernel) (by decide +kernel) rfl
theorem fc67 : FACTS 67 := fact_plain (own := 7) (R := rc67) (by decide +kernel) rd67 ra67 (by decide +kernel) (by decide +kernel) (by decide +kernel) rfl
theorem fc68 : FACTS 68 := fact_plain (own := 7) (R := rc68) (by decide +kernel) rd68 ra68 (by decide +kernel) (by decide +kernel) (by decide +kernel) rfl
theorem fc69 : FACTS 69 := fact_plain (own := 7) (R := rc69) (by decide +kernel) rd69 ra69 (by decide +kernel) (by decide +kernel) (by decide +kernel) rfl
theorem fc70 : FACTS 70 := fact_plain (own := 8) (R := rc70) (by decide +kernel) rd70 ra70 (by decide +kernel) (by decide +kernel) (by decide +kernel) rfl
theorem fc71 : FACTS 71 := fact_plain (own := 8) (R := rc71) (by decide +kernel) rd71 ra71 (by decide +kernel) (by decide +kernel) (by decide +kernel) rfl
theorem fc72 : FACTS 72 := fact_plain (own := 8) (R := rc72) (by decide +kernel) rd72 ra72 (by decide +kernel) (by decide +kernel) (by decide +kernel) rfl
theorem fc73 : FACTS 73 := fact_plain (own := 8) (R := rc73) (by decide +kernel) rd73 ra73 (by decide +kernel) (by decide +kernel) (by decide +kernel) rfl
theorem fc74 : FACTS 74 := fact_plain (own := 8) (R := rc74) (by decide +kernel) rd74 ra74 (by decide +kernel) (by decide +kernel) (by decide +kernel) rfl
theorem fc75 : FACTS 75 := fact_plain (own := 8) (R := rc75) (by decide +kernel) rd75 ra75 (by decide +kernel) (by decide +kernel) (by decide +kernel) rfl
theorem fc76 : FACTS 76 := fact_plain (own := 8) (R := rc76) (by decide +kernel) rd76 ra76 (by decide +kernel) (by decide +kernel) (by decide +kernel) rfl
theorem fc77 : FACTS 77 := fact_plain (own := 8) (R := rc77) (by decide +kernel) rd77 ra77 (by decide +kernel) (by decide +kernel) (by decide +kernel) rfl
theorem fc78 : FACTS 78 := fact_plain (own := 8) (R := rc78) (by decide +kernel) rd78 ra78 (by decide +kernel) (by decide +kernel) (by decide +kernel) rfl
theorem fc79 : FACTS 79 := fact_plain (own := 9) (R := rc79) (by decide +kernel) rd79 ra79 (by decide +kernel) (by decide +kernel) (by decide +kernel) rfl
theorem fc80 : FACTS 80 := fact_plain (own := 9) (R := rc80) (by decide +kernel) rd80 ra80 (by decide +kernel) (by decide +kernel) (by decide +kernel) rfl
theorem fc81 : FACTS 81 := fact_plain (own := 9) (R := rc81) (by decide +kernel) rd81 ra81 (by decide +kernel) (by decide +kernel) (by decide +kernel) rfl
theorem fc82 : FACTS 82 := fact_plain (own := 9) (R := rc82) (by decide +kernel) rd82 ra82 (by decide +kernel) (by decide +kernel) (by decide +kernel) rfl
theorem fc83 : FACTS 83 := fact_plain (own := 10) (R := rc83) (by decide +kernel) rd83 ra83 (by decide +kernel) (by decide +kernel) (by decide +kernel) rfl
theorem fc84 : FACTS 84 := fact_plain (own := 10) (R := rc84) (by decide +kernel) rd84 ra84 (by decide +kernel) (by decide +kernel) (by decide +kernel) rfl
theorem fc85 : FACTS 85 := fact_plain (own := 10) (R := rc85) (by decide +kernel) rd85 ra85 (by decide +kernel) (by decide +kernel) (by decide +kernel) rfl
theorem fc86 : FACTS 86 := fact_plain (own := 10) (R := rc86) (by decide +kernel) rd86 ra86 (by decide +kernel) (by decide +kernel) (by decide +kernel) rfl
theorem fc87 : FACTS 87 := fact_plain (own := 10) (R := rc87) (by decide +kernel) rd87 ra87 (by decide +kernel) (by decide +kernel) (by decide +kernel) rfl
theorem fc88 : FACTS 88 := fact_plain (own := 11) (R := rc88) (by decide +kernel) rd88 ra88 (by decide +kernel) (by decide +kernel) (by decide +kernel) rfl
theorem fc89 : FACTS 89 := fact_plain (own := 11) (R := rc89) (by decide +kernel) rd89 ra89 (by decide +kernel) (by decide +kernel) (by decide +kernel) rfl
